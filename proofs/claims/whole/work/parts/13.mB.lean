def wX6_taken_j55 (a1 : Int32) (a2 : Int32) (a3 : Int32) (σ : St) (Q : Int32 → St → Prop) : Prop := ((¬ a3 = a2 → Q (-13) σ) ∧ (a3 = a2 → vp_in (5 * a1) 25 ∧ Q (gA σ 16 11 (5 * a1).toNatClampNeg) σ))
set_option maxRecDepth 100000 in
set_option maxHeartbeats 4000000 in
theorem bX6_taken_55 {p : Program} {l : Launch} {e : Env} {s : State} {m : MethodId} {args : Array Value} {below : List Frame} {meth : Method} {c : Code} {H : Heap} {locs : List Loc} {ls : Array Slot} {D : va_G} {F : (Nat → Prop) → State → Prop} {A : Nat → Prop} {σ : St} {ad : Nat → Nat → Nat} {cy : Nat → ClassId} {Rr : va_W} {Q : Int32 → St → Prop} {a1 : Int32} {a2 : Int32} {a3 : Int32} (hF : Stab F) (E : CallFix p m c cX6_taken 4 s args TB RX6) (hr : meth.sig.returnType = some .int) (hlk : meth.locks = false) (hf : wX6_taken_j55 a1 a2 a3 σ Q) (hI : In (D, tysM cy, F) (LM ad cy Rr σ) A s H locs) (hl : lv_has ls 4 [(0, .ref (ad 16 99)), (1, .int a1), (2, .int a2), (3, .int a3)]) : W p l e (rmD 2) s m args below meth c H locs 0 0 (PI below args s (D, tysM cy, F) A (LM ad cy Rr) Q) (F0 m 55 ls []) := by
  have hx := E.1
  have hb := E.2.1
  unfold wX6_taken_j55 at hf
  refine lv_iload_n (pc := 55) hx hb dX6_taken_55 rfl (lv_at hl 3 rfl) ?_
  refine lv_iload_n (pc := 56) hx hb dX6_taken_56 rfl (lv_at hl 2 rfl) ?_
  refine lv_icmp_ne (tgt := 71) (pc := 57) hx hb dX6_taken_57 (by decide) (fun c10 => ?_) (fun c10 => ?_)
  · have hf := hf.1 c10
    refine lv_bipush (v := (-13)) (pc := 71) hx hb dX6_taken_71 rfl ?_
    exact rI (pc := 73) E hr hlk hI hf dX6_taken_73
  · have hf := hf.2 c10
    refine lv_aload_n (pc := 60) hx hb dX6_taken_60 rfl (lv_at hl 0 rfl) ?_
    refine g6_11 (pc := 61) E hI lkX6_29 dX6_taken_61 ?_
    refine lv_iconst (v := 5) (pc := 64) hx hb dX6_taken_64 rfl ?_
    refine lv_iload_n (pc := 65) hx hb dX6_taken_65 rfl (lv_at hl 1 rfl) ?_
    refine lv_imul (pc := 66) hx hb dX6_taken_66 ?_
    have g11 := hf.1
    have hf := hf.2
    refine a6_11 (pc := 67) E hI g11 dX6_taken_67 ?_
    refine lv_goto (tgt := 73) (pc := 68) hx hb dX6_taken_68 (by decide) ?_
    exact rI (pc := 73) E hr hlk hI hf dX6_taken_73
def wX6_taken_l37s (ih : Int32 → Int32 → Int32 → St → Prop) (a1 : Int32) (a2 : Int32) (a3 : Int32) (σ : St) (Q : Int32 → St → Prop) : Prop := ((a3 = (-1) → (wX6_taken_j55 a1 a2 a3 σ Q)) ∧ (¬ a3 = (-1) → ((a3 = a2 → (wX6_taken_j55 a1 a2 a3 σ Q)) ∧ (¬ a3 = a2 → wX6_over a3 σ (fun r14 σ13 => (ih a1 a2 r14 σ13))))))
def wX6_taken_l37 (n : Nat) : Int32 → Int32 → Int32 → St → (Int32 → St → Prop) → Prop := @Nat.rec (fun _ => Int32 → Int32 → Int32 → St → (Int32 → St → Prop) → Prop) (fun _ _ _ _ _ => False) (fun _ ih a1 a2 a3 σ Q => wX6_taken_l37s (fun a1 a2 a3 σ => ih a1 a2 a3 σ Q) a1 a2 a3 σ Q) n
set_option maxRecDepth 100000 in
set_option maxHeartbeats 4000000 in
theorem bX6_taken_37 {p : Program} {l : Launch} {e : Env} {s : State} {m : MethodId} {args : Array Value} {below : List Frame} {meth : Method} {c : Code} {D : va_G} {F : (Nat → Prop) → State → Prop} {A : Nat → Prop} {ad : Nat → Nat → Nat} {cy : Nat → ClassId} {Rr : va_W} {Q : Int32 → St → Prop} (hF : Stab F) (E : CallFix p m c cX6_taken 4 s args TB RX6) (hr : meth.sig.returnType = some .int) (hlk : meth.locks = false) : ∀ (n : Nat) {a1 : Int32} {a2 : Int32} {a3 : Int32} {σ : St} {H : Heap} {locs : List Loc} {ls : Array Slot}, wX6_taken_l37 n a1 a2 a3 σ Q → In (D, tysM cy, F) (LM ad cy Rr σ) A s H locs → lv_has ls 4 [(0, .ref (ad 16 99)), (1, .int a1), (2, .int a2), (3, .int a3)] → W p l e (rmD 2) s m args below meth c H locs 0 0 (PI below args s (D, tysM cy, F) A (LM ad cy Rr) Q) (F0 m 37 ls []) := by
  have hx := E.1
  have hb := E.2.1
  intro n
  induction n with
  | zero => intro a1 a2 a3 σ H locs ls hf hI hl; exact False.elim hf
  | succ n ih =>
    intro a1 a2 a3 σ H locs ls hf hI hl
    have hf : wX6_taken_l37s (fun a1 a2 a3 σ => wX6_taken_l37 n a1 a2 a3 σ Q) a1 a2 a3 σ Q := hf
    unfold wX6_taken_l37s at hf
    refine lv_iload_n (pc := 37) hx hb dX6_taken_37 rfl (lv_at hl 3 rfl) ?_
    refine lv_iconst (v := (-1)) (pc := 38) hx hb dX6_taken_38 rfl ?_
    refine lv_icmp_eq (tgt := 55) (pc := 39) hx hb dX6_taken_39 (by decide) (fun c9 => ?_) (fun c9 => ?_)
    · have hf := hf.1 c9
      exact bX6_taken_55 hF E hr hlk hf hI (lv_sub hl [0, 1, 2, 3] rfl)
    · have hf := hf.2 c9
      refine lv_iload_n (pc := 42) hx hb dX6_taken_42 rfl (lv_at hl 3 rfl) ?_
      refine lv_iload_n (pc := 43) hx hb dX6_taken_43 rfl (lv_at hl 2 rfl) ?_
      refine lv_icmp_eq (tgt := 55) (pc := 44) hx hb dX6_taken_44 (by decide) (fun c12 => ?_) (fun c12 => ?_)
      · have hf := hf.1 c12
        exact bX6_taken_55 hF E hr hlk hf hI (lv_sub hl [0, 1, 2, 3] rfl)
      · have hf := hf.2 c12
        refine lv_iload_n (pc := 47) hx hb dX6_taken_47 rfl (lv_at hl 3 rfl) ?_
        refine callSI (G := (D, tysM cy, F)) (L := LM ad cy Rr) (pc := 48) (As := [.int a3]) (rest := []) hF E cs0 hl hI (tX6_over hF hf) mwX6_439 (fitD (by decide)) rfl rfl (Nat.le_of_ble_eq_true rfl) dX6_taken_48 (fun r14 σ13 H locs hf hI => ?_)
        refine lv_istore_n (lv' := [(3, .int r14), (0, .ref (ad 16 99)), (1, .int a1), (2, .int a2)]) (pc := 51) hx hb dX6_taken_51 rfl hl (by decide) rfl (fun ls hl => ?_)
        refine lv_goto (tgt := 37) (pc := 52) hx hb dX6_taken_52 (by decide) ?_
        exact ih hf hI (lv_sub hl [1, 2, 3, 0] rfl)
def wX6_taken (p1 : Int32) (p2 : Int32) (σ : St) (Q : Int32 → St → Prop) : Prop := wX6_in (p2.toInt64) 0 5 σ (fun r2 σ1 => ((¬ r2 = 0 → wX6_isOne p1 σ1 (fun r5 σ4 => ((¬ r5 = 0 → vp_in ((5 * p1) + 4) 25 ∧ ∀ x8 : Int32, x8 = (gA σ4 16 11 ((5 * p1) + 4).toNatClampNeg) → ∃ n15 : Nat, wX6_taken_l37 n15 p1 p2 x8 σ4 Q) ∧ (r5 = 0 → Q (-11) σ4)))) ∧ (r2 = 0 → Q (-2) σ1)))
set_option maxRecDepth 100000 in
set_option maxHeartbeats 4000000 in
theorem bX6_taken {p : Program} {l : Launch} {e : Env} {s : State} {m : MethodId} {args : Array Value} {below : List Frame} {meth : Method} {c : Code} {H : Heap} {locs : List Loc} {ls : Array Slot} {D : va_G} {F : (Nat → Prop) → State → Prop} {A : Nat → Prop} {σ : St} {ad : Nat → Nat → Nat} {cy : Nat → ClassId} {Rr : va_W} {Q : Int32 → St → Prop} {p1 : Int32} {p2 : Int32} (hF : Stab F) (E : CallFix p m c cX6_taken 4 s args TB RX6) (hr : meth.sig.returnType = some .int) (hlk : meth.locks = false) (hf : wX6_taken p1 p2 σ Q) (hI : In (D, tysM cy, F) (LM ad cy Rr σ) A s H locs) (hl : lv_has ls 4 [(0, .ref (ad 16 99)), (1, .int p1), (2, .int p2)]) : W p l e (rmD 2) s m args below meth c H locs 0 0 (PI below args s (D, tysM cy, F) A (LM ad cy Rr) Q) (F0 m 0 ls []) := by
  have hx := E.1
  have hb := E.2.1
  unfold wX6_taken at hf
  refine lv_iload_n (pc := 0) hx hb dX6_taken_0 rfl (lv_at hl 2 rfl) ?_
  refine lv_i2l (v := (p2.toInt64)) (pc := 1) hx hb dX6_taken_1 rfl ?_
  refine lv_lconst (v := 0) (pc := 2) hx hb dX6_taken_2 rfl ?_
  refine lv_ldc2 (pc := 3) E.1 E.2.1 E.2.2.2.1 (E.2.2.2.2 _ kcX6_118) dX6_taken_3 ?_
  refine callSI (G := (D, tysM cy, F)) (L := LM ad cy Rr) (pc := 6) (As := [.long (p2.toInt64), .long 0, .long 5]) (rest := []) hF E cs0 hl hI (tX6_in hF hf) mwX6_76 (fitD (by decide)) rfl rfl (Nat.le_of_ble_eq_true rfl) dX6_taken_6 (fun r2 σ1 H locs hf hI => ?_)
  refine lv_if_ne (tgt := 15) (pc := 9) hx hb dX6_taken_9 (by decide) (fun c3 => ?_) (fun c3 => ?_)
  · have hf := hf.1 c3
    refine lv_aload_n (pc := 15) hx hb dX6_taken_15 rfl (lv_at hl 0 rfl) ?_
    refine lv_iload_n (pc := 16) hx hb dX6_taken_16 rfl (lv_at hl 1 rfl) ?_
    refine callVI (G := (D, tysM cy, F)) (L := LM ad cy Rr) (pc := 17) (As := [.int p1]) (rest := []) hF E cs0 hl hI (tX6_isOne hF hf) mwX6_84 (fitD (by decide)) (at6) rfl rfl rfl rfl (Nat.le_of_ble_eq_true rfl) dX6_taken_17 (fun r5 σ4 H locs hf hI => ?_)
    refine lv_if_ne (tgt := 26) (pc := 20) hx hb dX6_taken_20 (by decide) (fun c6 => ?_) (fun c6 => ?_)
    · have hf := hf.1 c6
      refine lv_aload_n (pc := 26) hx hb dX6_taken_26 rfl (lv_at hl 0 rfl) ?_
      refine g6_11 (pc := 27) E hI lkX6_29 dX6_taken_27 ?_
      refine lv_iconst (v := 5) (pc := 30) hx hb dX6_taken_30 rfl ?_
      refine lv_iload_n (pc := 31) hx hb dX6_taken_31 rfl (lv_at hl 1 rfl) ?_
      refine lv_imul (pc := 32) hx hb dX6_taken_32 ?_
      refine lv_iconst (v := 4) (pc := 33) hx hb dX6_taken_33 rfl ?_
      refine lv_iadd (pc := 34) hx hb dX6_taken_34 ?_
      have g7 := hf.1
      have hf := hf.2
      refine a6_11 (pc := 35) E hI g7 dX6_taken_35 ?_
      refine lv_topi (fun x8 ex8 => ?_)
      have hf := hf x8 ex8
      refine lv_istore_n (lv' := [(3, .int x8), (0, .ref (ad 16 99)), (1, .int p1), (2, .int p2)]) (pc := 36) hx hb dX6_taken_36 rfl hl (by decide) rfl (fun ls hl => ?_)
      obtain ⟨n15, hf⟩ := hf
      exact bX6_taken_37 hF E hr hlk n15 hf hI (lv_sub hl [1, 2, 3, 0] rfl)
    · have hf := hf.2 c6
      refine lv_bipush (v := (-11)) (pc := 23) hx hb dX6_taken_23 rfl ?_
      exact rI (pc := 25) E hr hlk hI hf dX6_taken_25
  · have hf := hf.2 c3
    refine lv_bipush (v := (-2)) (pc := 12) hx hb dX6_taken_12 rfl ?_
    exact rI (pc := 14) E hr hlk hI hf dX6_taken_14
theorem tX6_taken {l : Launch} {D : va_G} {F : (Nat → Prop) → State → Prop} {σ : St} {ad : Nat → Nat → Nat} {cy : Nat → ClassId} {Rr : va_W} {Q : Int32 → St → Prop} {p1 : Int32} {p2 : Int32} (hF : Stab F) (hf : wX6_taken p1 p2 σ Q) : CtI l yX6_taken cX6_taken 4 .int 2 (D, tysM cy, F) (LM ad cy Rr) [.ref (ad 16 99), .int p1, .int p2] σ Q := mkI (by decide) (Nat.le_of_ble_eq_true rfl) (fun p e s m below meth c A E hr hlk hI ls hl => bX6_taken hF E hr hlk hf hI hl)

def wX6_name (σ : St) (Q : Int32 → St → Prop) : Prop := wX6_isWord 108 111 111 107 101 100 0 0 σ (fun r2 σ1 => ((r2 = 0 → wX6_isWord 99 111 108 111 117 114 0 0 σ1 (fun r5 σ4 => ((r5 = 0 → wX6_isWord 110 117 109 98 101 114 0 0 σ4 (fun r8 σ7 => ((r8 = 0 → wX6_isWord 100 97 121 0 0 0 0 0 σ7 (fun r11 σ10 => ((r11 = 0 → wX6_isWord 102 105 108 108 101 100 0 0 σ10 (fun r14 σ13 => ((r14 = 0 → wX6_isWord 98 111 120 0 0 0 0 0 σ13 (fun r17 σ16 => ((r17 = 0 → wX6_fail σ16 (fun σ19 => Q 0 σ19)) ∧ (¬ r17 = 0 → Q (gI σ16 16 19) σ16)))) ∧ (¬ r14 = 0 → Q (gI σ13 16 18) σ13)))) ∧ (¬ r11 = 0 → Q (gI σ10 16 17) σ10)))) ∧ (¬ r8 = 0 → Q (gI σ7 16 16) σ7)))) ∧ (¬ r5 = 0 → Q (gI σ4 16 15) σ4)))) ∧ (¬ r2 = 0 → Q (gI σ1 16 14) σ1)))
set_option maxRecDepth 100000 in
set_option maxHeartbeats 4000000 in
theorem bX6_name {p : Program} {l : Launch} {e : Env} {s : State} {m : MethodId} {args : Array Value} {below : List Frame} {meth : Method} {c : Code} {H : Heap} {locs : List Loc} {ls : Array Slot} {D : va_G} {F : (Nat → Prop) → State → Prop} {A : Nat → Prop} {σ : St} {ad : Nat → Nat → Nat} {cy : Nat → ClassId} {Rr : va_W} {Q : Int32 → St → Prop} (hF : Stab F) (E : CallFix p m c cX6_name 1 s args TB RX6) (hr : meth.sig.returnType = some .int) (hlk : meth.locks = false) (hf : wX6_name σ Q) (hI : In (D, tysM cy, F) (LM ad cy Rr σ) A s H locs) (hl : lv_has ls 1 [(0, .ref (ad 16 99))]) : W p l e (rmD 3) s m args below meth c H locs 0 0 (PI below args s (D, tysM cy, F) A (LM ad cy Rr) Q) (F0 m 0 ls []) := by
  have hx := E.1
  have hb := E.2.1
  unfold wX6_name at hf
  refine lv_aload_n (pc := 0) hx hb dX6_name_0 rfl (lv_at hl 0 rfl) ?_
  refine lv_bipush (v := 108) (pc := 1) hx hb dX6_name_1 rfl ?_
  refine lv_bipush (v := 111) (pc := 3) hx hb dX6_name_3 rfl ?_
  refine lv_bipush (v := 111) (pc := 5) hx hb dX6_name_5 rfl ?_
  refine lv_bipush (v := 107) (pc := 7) hx hb dX6_name_7 rfl ?_
  refine lv_bipush (v := 101) (pc := 9) hx hb dX6_name_9 rfl ?_
  refine lv_bipush (v := 100) (pc := 11) hx hb dX6_name_11 rfl ?_
  refine lv_iconst (v := 0) (pc := 13) hx hb dX6_name_13 rfl ?_
  refine lv_iconst (v := 0) (pc := 14) hx hb dX6_name_14 rfl ?_
  refine callVI (G := (D, tysM cy, F)) (L := LM ad cy Rr) (pc := 15) (As := [.int 108, .int 111, .int 111, .int 107, .int 101, .int 100, .int 0, .int 0]) (rest := []) hF E cs0 hl hI (tX6_isWord hF hf) mwX6_200 (fitD (by decide)) (at6) rfl rfl rfl rfl (Nat.le_of_ble_eq_true rfl) dX6_name_15 (fun r2 σ1 H locs hf hI => ?_)
  refine lv_if_eq (tgt := 26) (pc := 18) hx hb dX6_name_18 (by decide) (fun c3 => ?_) (fun c3 => ?_)
  · have hf := hf.1 c3
    refine lv_aload_n (pc := 26) hx hb dX6_name_26 rfl (lv_at hl 0 rfl) ?_
    refine lv_bipush (v := 99) (pc := 27) hx hb dX6_name_27 rfl ?_
    refine lv_bipush (v := 111) (pc := 29) hx hb dX6_name_29 rfl ?_
    refine lv_bipush (v := 108) (pc := 31) hx hb dX6_name_31 rfl ?_
    refine lv_bipush (v := 111) (pc := 33) hx hb dX6_name_33 rfl ?_
    refine lv_bipush (v := 117) (pc := 35) hx hb dX6_name_35 rfl ?_
    refine lv_bipush (v := 114) (pc := 37) hx hb dX6_name_37 rfl ?_
    refine lv_iconst (v := 0) (pc := 39) hx hb dX6_name_39 rfl ?_
    refine lv_iconst (v := 0) (pc := 40) hx hb dX6_name_40 rfl ?_
    refine callVI (G := (D, tysM cy, F)) (L := LM ad cy Rr) (pc := 41) (As := [.int 99, .int 111, .int 108, .int 111, .int 117, .int 114, .int 0, .int 0]) (rest := []) hF E cs0 hl hI (tX6_isWord hF hf) mwX6_200 (fitD (by decide)) (at6) rfl rfl rfl rfl (Nat.le_of_ble_eq_true rfl) dX6_name_41 (fun r5 σ4 H locs hf hI => ?_)
    refine lv_if_eq (tgt := 52) (pc := 44) hx hb dX6_name_44 (by decide) (fun c6 => ?_) (fun c6 => ?_)
    · have hf := hf.1 c6
      refine lv_aload_n (pc := 52) hx hb dX6_name_52 rfl (lv_at hl 0 rfl) ?_
      refine lv_bipush (v := 110) (pc := 53) hx hb dX6_name_53 rfl ?_
      refine lv_bipush (v := 117) (pc := 55) hx hb dX6_name_55 rfl ?_
      refine lv_bipush (v := 109) (pc := 57) hx hb dX6_name_57 rfl ?_
      refine lv_bipush (v := 98) (pc := 59) hx hb dX6_name_59 rfl ?_
      refine lv_bipush (v := 101) (pc := 61) hx hb dX6_name_61 rfl ?_
      refine lv_bipush (v := 114) (pc := 63) hx hb dX6_name_63 rfl ?_
      refine lv_iconst (v := 0) (pc := 65) hx hb dX6_name_65 rfl ?_
      refine lv_iconst (v := 0) (pc := 66) hx hb dX6_name_66 rfl ?_
      refine callVI (G := (D, tysM cy, F)) (L := LM ad cy Rr) (pc := 67) (As := [.int 110, .int 117, .int 109, .int 98, .int 101, .int 114, .int 0, .int 0]) (rest := []) hF E cs0 hl hI (tX6_isWord hF hf) mwX6_200 (fitD (by decide)) (at6) rfl rfl rfl rfl (Nat.le_of_ble_eq_true rfl) dX6_name_67 (fun r8 σ7 H locs hf hI => ?_)
      refine lv_if_eq (tgt := 78) (pc := 70) hx hb dX6_name_70 (by decide) (fun c9 => ?_) (fun c9 => ?_)
      · have hf := hf.1 c9
        refine lv_aload_n (pc := 78) hx hb dX6_name_78 rfl (lv_at hl 0 rfl) ?_
        refine lv_bipush (v := 100) (pc := 79) hx hb dX6_name_79 rfl ?_
        refine lv_bipush (v := 97) (pc := 81) hx hb dX6_name_81 rfl ?_
        refine lv_bipush (v := 121) (pc := 83) hx hb dX6_name_83 rfl ?_
        refine lv_iconst (v := 0) (pc := 85) hx hb dX6_name_85 rfl ?_
        refine lv_iconst (v := 0) (pc := 86) hx hb dX6_name_86 rfl ?_
        refine lv_iconst (v := 0) (pc := 87) hx hb dX6_name_87 rfl ?_
        refine lv_iconst (v := 0) (pc := 88) hx hb dX6_name_88 rfl ?_
        refine lv_iconst (v := 0) (pc := 89) hx hb dX6_name_89 rfl ?_
        refine callVI (G := (D, tysM cy, F)) (L := LM ad cy Rr) (pc := 90) (As := [.int 100, .int 97, .int 121, .int 0, .int 0, .int 0, .int 0, .int 0]) (rest := []) hF E cs0 hl hI (tX6_isWord hF hf) mwX6_200 (fitD (by decide)) (at6) rfl rfl rfl rfl (Nat.le_of_ble_eq_true rfl) dX6_name_90 (fun r11 σ10 H locs hf hI => ?_)
        refine lv_if_eq (tgt := 101) (pc := 93) hx hb dX6_name_93 (by decide) (fun c12 => ?_) (fun c12 => ?_)
        · have hf := hf.1 c12
          refine lv_aload_n (pc := 101) hx hb dX6_name_101 rfl (lv_at hl 0 rfl) ?_
          refine lv_bipush (v := 102) (pc := 102) hx hb dX6_name_102 rfl ?_
          refine lv_bipush (v := 105) (pc := 104) hx hb dX6_name_104 rfl ?_
          refine lv_bipush (v := 108) (pc := 106) hx hb dX6_name_106 rfl ?_
          refine lv_bipush (v := 108) (pc := 108) hx hb dX6_name_108 rfl ?_
          refine lv_bipush (v := 101) (pc := 110) hx hb dX6_name_110 rfl ?_
          refine lv_bipush (v := 100) (pc := 112) hx hb dX6_name_112 rfl ?_
          refine lv_iconst (v := 0) (pc := 114) hx hb dX6_name_114 rfl ?_
          refine lv_iconst (v := 0) (pc := 115) hx hb dX6_name_115 rfl ?_
          refine callVI (G := (D, tysM cy, F)) (L := LM ad cy Rr) (pc := 116) (As := [.int 102, .int 105, .int 108, .int 108, .int 101, .int 100, .int 0, .int 0]) (rest := []) hF E cs0 hl hI (tX6_isWord hF hf) mwX6_200 (fitD (by decide)) (at6) rfl rfl rfl rfl (Nat.le_of_ble_eq_true rfl) dX6_name_116 (fun r14 σ13 H locs hf hI => ?_)
          refine lv_if_eq (tgt := 127) (pc := 119) hx hb dX6_name_119 (by decide) (fun c15 => ?_) (fun c15 => ?_)
          · have hf := hf.1 c15
            refine lv_aload_n (pc := 127) hx hb dX6_name_127 rfl (lv_at hl 0 rfl) ?_
            refine lv_bipush (v := 98) (pc := 128) hx hb dX6_name_128 rfl ?_
            refine lv_bipush (v := 111) (pc := 130) hx hb dX6_name_130 rfl ?_
            refine lv_bipush (v := 120) (pc := 132) hx hb dX6_name_132 rfl ?_
            refine lv_iconst (v := 0) (pc := 134) hx hb dX6_name_134 rfl ?_
            refine lv_iconst (v := 0) (pc := 135) hx hb dX6_name_135 rfl ?_
            refine lv_iconst (v := 0) (pc := 136) hx hb dX6_name_136 rfl ?_
            refine lv_iconst (v := 0) (pc := 137) hx hb dX6_name_137 rfl ?_
            refine lv_iconst (v := 0) (pc := 138) hx hb dX6_name_138 rfl ?_
            refine callVI (G := (D, tysM cy, F)) (L := LM ad cy Rr) (pc := 139) (As := [.int 98, .int 111, .int 120, .int 0, .int 0, .int 0, .int 0, .int 0]) (rest := []) hF E cs0 hl hI (tX6_isWord hF hf) mwX6_200 (fitD (by decide)) (at6) rfl rfl rfl rfl (Nat.le_of_ble_eq_true rfl) dX6_name_139 (fun r17 σ16 H locs hf hI => ?_)
            refine lv_if_eq (tgt := 150) (pc := 142) hx hb dX6_name_142 (by decide) (fun c18 => ?_) (fun c18 => ?_)
            · have hf := hf.1 c18
              refine lv_aload_n (pc := 150) hx hb dX6_name_150 rfl (lv_at hl 0 rfl) ?_
              refine callVV (G := (D, tysM cy, F)) (L := LM ad cy Rr) (pc := 151) (As := []) (rest := []) hF E cs0 hl hI (tX6_fail hF hf) mwX6_194 (fitD (by decide)) (at6) rfl rfl rfl rfl (Nat.le_of_ble_eq_true rfl) dX6_name_151 (fun σ19 H locs hf hI => ?_)
              refine lv_iconst (v := 0) (pc := 154) hx hb dX6_name_154 rfl ?_
              exact rI (pc := 155) E hr hlk hI hf dX6_name_155
            · have hf := hf.2 c18
              refine lv_aload_n (pc := 145) hx hb dX6_name_145 rfl (lv_at hl 0 rfl) ?_
              refine g6_19 (pc := 146) E hI lkX6_219 dX6_name_146 ?_
              exact rI (pc := 149) E hr hlk hI hf dX6_name_149
          · have hf := hf.2 c15
            refine lv_aload_n (pc := 122) hx hb dX6_name_122 rfl (lv_at hl 0 rfl) ?_
            refine g6_18 (pc := 123) E hI lkX6_216 dX6_name_123 ?_
            exact rI (pc := 126) E hr hlk hI hf dX6_name_126
        · have hf := hf.2 c12
          refine lv_aload_n (pc := 96) hx hb dX6_name_96 rfl (lv_at hl 0 rfl) ?_
          refine g6_17 (pc := 97) E hI lkX6_213 dX6_name_97 ?_
          exact rI (pc := 100) E hr hlk hI hf dX6_name_100
      · have hf := hf.2 c9
        refine lv_aload_n (pc := 73) hx hb dX6_name_73 rfl (lv_at hl 0 rfl) ?_
        refine g6_16 (pc := 74) E hI lkX6_210 dX6_name_74 ?_
        exact rI (pc := 77) E hr hlk hI hf dX6_name_77
    · have hf := hf.2 c6
      refine lv_aload_n (pc := 47) hx hb dX6_name_47 rfl (lv_at hl 0 rfl) ?_
      refine g6_15 (pc := 48) E hI lkX6_207 dX6_name_48 ?_
      exact rI (pc := 51) E hr hlk hI hf dX6_name_51
  · have hf := hf.2 c3
    refine lv_aload_n (pc := 21) hx hb dX6_name_21 rfl (lv_at hl 0 rfl) ?_
    refine g6_14 (pc := 22) E hI lkX6_204 dX6_name_22 ?_
    exact rI (pc := 25) E hr hlk hI hf dX6_name_25
theorem tX6_name {l : Launch} {D : va_G} {F : (Nat → Prop) → State → Prop} {σ : St} {ad : Nat → Nat → Nat} {cy : Nat → ClassId} {Rr : va_W} {Q : Int32 → St → Prop} (hF : Stab F) (hf : wX6_name σ Q) : CtI l yX6_name cX6_name 1 .int 3 (D, tysM cy, F) (LM ad cy Rr) [.ref (ad 16 99)] σ Q := mkI (by decide) (Nat.le_of_ble_eq_true rfl) (fun p e s m below meth c A E hr hlk hI ls hl => bX6_name hF E hr hlk hf hI hl)

def wX6_atom5_j98 (a1 : Int32) (σ : St) (Q : Int32 → St → Prop) : Prop := wX6_fail σ (fun σ9 => Q a1 σ9)
set_option maxRecDepth 100000 in
set_option maxHeartbeats 4000000 in
theorem bX6_atom5_98 {p : Program} {l : Launch} {e : Env} {s : State} {m : MethodId} {args : Array Value} {below : List Frame} {meth : Method} {c : Code} {H : Heap} {locs : List Loc} {ls : Array Slot} {D : va_G} {F : (Nat → Prop) → State → Prop} {A : Nat → Prop} {σ : St} {ad : Nat → Nat → Nat} {cy : Nat → ClassId} {Rr : va_W} {Q : Int32 → St → Prop} {a1 : Int32} (hF : Stab F) (E : CallFix p m c cX6_atom5 2 s args TB RX6) (hr : meth.sig.returnType = some .int) (hlk : meth.locks = false) (hf : wX6_atom5_j98 a1 σ Q) (hI : In (D, tysM cy, F) (LM ad cy Rr σ) A s H locs) (hl : lv_has ls 2 [(0, .ref (ad 16 99)), (1, .int a1)]) : W p l e (rmD 4) s m args below meth c H locs 0 0 (PI below args s (D, tysM cy, F) A (LM ad cy Rr) Q) (F0 m 98 ls []) := by
  have hx := E.1
  have hb := E.2.1
  unfold wX6_atom5_j98 at hf
  refine lv_aload_n (pc := 98) hx hb dX6_atom5_98 rfl (lv_at hl 0 rfl) ?_
  refine callVV (G := (D, tysM cy, F)) (L := LM ad cy Rr) (pc := 99) (As := []) (rest := []) hF E cs0 hl hI (tX6_fail hF hf) mwX6_194 (fitD (by decide)) (at6) rfl rfl rfl rfl (Nat.le_of_ble_eq_true rfl) dX6_atom5_99 (fun σ9 H locs hf hI => ?_)
  refine lv_iload_n (pc := 102) hx hb dX6_atom5_102 rfl (lv_at hl 1 rfl) ?_
  exact rI (pc := 103) E hr hlk hI hf dX6_atom5_103
def wX6_atom5_j64 (a1 : Int32) (σ : St) (Q : Int32 → St → Prop) : Prop := ((¬ (gI σ 16 27) = 0 → (wX6_atom5_j98 a1 σ Q)) ∧ ((gI σ 16 27) = 0 → ((¬ (gI σ 16 23) = 1 → (wX6_atom5_j98 a1 σ Q)) ∧ ((gI σ 16 23) = 1 → wX6_name σ (fun r12 σ11 => ((¬ (gI σ11 16 27) = 0 → Q r12 σ11) ∧ ((gI σ11 16 27) = 0 → wX6_next σ11 (fun σ14 => Q r12 σ14))))))))
set_option maxRecDepth 100000 in
set_option maxHeartbeats 4000000 in
theorem bX6_atom5_64 {p : Program} {l : Launch} {e : Env} {s : State} {m : MethodId} {args : Array Value} {below : List Frame} {meth : Method} {c : Code} {H : Heap} {locs : List Loc} {ls : Array Slot} {D : va_G} {F : (Nat → Prop) → State → Prop} {A : Nat → Prop} {σ : St} {ad : Nat → Nat → Nat} {cy : Nat → ClassId} {Rr : va_W} {Q : Int32 → St → Prop} {a1 : Int32} (hF : Stab F) (E : CallFix p m c cX6_atom5 2 s args TB RX6) (hr : meth.sig.returnType = some .int) (hlk : meth.locks = false) (hf : wX6_atom5_j64 a1 σ Q) (hI : In (D, tysM cy, F) (LM ad cy Rr σ) A s H locs) (hl : lv_has ls 2 [(0, .ref (ad 16 99)), (1, .int a1)]) : W p l e (rmD 4) s m args below meth c H locs 0 0 (PI below args s (D, tysM cy, F) A (LM ad cy Rr) Q) (F0 m 64 ls []) := by
  have hx := E.1
  have hb := E.2.1
  unfold wX6_atom5_j64 at hf
  refine lv_aload_n (pc := 64) hx hb dX6_atom5_64 rfl (lv_at hl 0 rfl) ?_
  refine g6_27 (pc := 65) E hI lkX6_181 dX6_atom5_65 ?_
  refine lv_if_ne (tgt := 98) (pc := 68) hx hb dX6_atom5_68 (by decide) (fun c8 => ?_) (fun c8 => ?_)
  · have hf := hf.1 c8
    exact bX6_atom5_98 hF E hr hlk hf hI (lv_sub hl [0, 1] rfl)
  · have hf := hf.2 c8
    refine lv_aload_n (pc := 71) hx hb dX6_atom5_71 rfl (lv_at hl 0 rfl) ?_
    refine g6_23 (pc := 72) E hI lkX6_165 dX6_atom5_72 ?_
    refine lv_iconst (v := 1) (pc := 75) hx hb dX6_atom5_75 rfl ?_
    refine lv_icmp_ne (tgt := 98) (pc := 76) hx hb dX6_atom5_76 (by decide) (fun c10 => ?_) (fun c10 => ?_)
    · have hf := hf.1 c10
      exact bX6_atom5_98 hF E hr hlk hf hI (lv_sub hl [0, 1] rfl)
    · have hf := hf.2 c10
      refine lv_aload_n (pc := 79) hx hb dX6_atom5_79 rfl (lv_at hl 0 rfl) ?_
      refine callVI (G := (D, tysM cy, F)) (L := LM ad cy Rr) (pc := 80) (As := []) (rest := []) hF E cs0 hl hI (tX6_name hF hf) mwX6_229 (fitD (by decide)) (at6) rfl rfl rfl rfl (Nat.le_of_ble_eq_true rfl) dX6_atom5_80 (fun r12 σ11 H locs hf hI => ?_)
      refine lv_istore_n (lv' := [(1, .int r12), (0, .ref (ad 16 99))]) (pc := 83) hx hb dX6_atom5_83 rfl hl (by decide) rfl (fun ls hl => ?_)
      refine lv_aload_n (pc := 84) hx hb dX6_atom5_84 rfl (lv_at hl 1 rfl) ?_
      refine g6_27 (pc := 85) E hI lkX6_181 dX6_atom5_85 ?_
      refine lv_if_ne (tgt := 102) (pc := 88) hx hb dX6_atom5_88 (by decide) (fun c13 => ?_) (fun c13 => ?_)
      · have hf := hf.1 c13
        refine lv_iload_n (pc := 102) hx hb dX6_atom5_102 rfl (lv_at hl 0 rfl) ?_
        exact rI (pc := 103) E hr hlk hI hf dX6_atom5_103
      · have hf := hf.2 c13
        refine lv_aload_n (pc := 91) hx hb dX6_atom5_91 rfl (lv_at hl 1 rfl) ?_
        refine callVV (G := (D, tysM cy, F)) (L := LM ad cy Rr) (pc := 92) (As := []) (rest := []) hF E cs0 hl hI (tX6_next hF hf) mwX6_197 (fitD (by decide)) (at6) rfl rfl rfl rfl (Nat.le_of_ble_eq_true rfl) dX6_atom5_92 (fun σ14 H locs hf hI => ?_)
        refine lv_goto (tgt := 102) (pc := 95) hx hb dX6_atom5_95 (by decide) ?_
        refine lv_iload_n (pc := 102) hx hb dX6_atom5_102 rfl (lv_at hl 0 rfl) ?_
        exact rI (pc := 103) E hr hlk hI hf dX6_atom5_103
def wX6_atom5 (σ : St) (Q : Int32 → St → Prop) : Prop := wX6_isSign 45 σ (fun r2 σ1 => ((r2 = 0 → wX6_isSign 40 σ1 (fun r5 σ4 => ((r5 = 0 → ((¬ (gI σ4 16 27) = 0 → (wX6_atom5_j64 0 σ4 Q)) ∧ ((gI σ4 16 27) = 0 → ((¬ (gI σ4 16 23) = 2 → (wX6_atom5_j64 0 σ4 Q)) ∧ ((gI σ4 16 23) = 2 → ∀ x16 : Int32, x16 = (((gJ σ4 16 25)).toInt32) → wX6_next σ4 (fun σ17 => Q x16 σ17)))))) ∧ (¬ r5 = 0 → wX6_opens σ4 (fun r19 σ18 => Q 0 σ18))))) ∧ (¬ r2 = 0 → wX6_opens σ1 (fun r21 σ20 => Q 0 σ20))))
set_option maxRecDepth 100000 in
set_option maxHeartbeats 4000000 in
theorem bX6_atom5 {p : Program} {l : Launch} {e : Env} {s : State} {m : MethodId} {args : Array Value} {below : List Frame} {meth : Method} {c : Code} {H : Heap} {locs : List Loc} {ls : Array Slot} {D : va_G} {F : (Nat → Prop) → State → Prop} {A : Nat → Prop} {σ : St} {ad : Nat → Nat → Nat} {cy : Nat → ClassId} {Rr : va_W} {Q : Int32 → St → Prop} (hF : Stab F) (E : CallFix p m c cX6_atom5 2 s args TB RX6) (hr : meth.sig.returnType = some .int) (hlk : meth.locks = false) (hf : wX6_atom5 σ Q) (hI : In (D, tysM cy, F) (LM ad cy Rr σ) A s H locs) (hl : lv_has ls 2 [(0, .ref (ad 16 99))]) : W p l e (rmD 4) s m args below meth c H locs 0 0 (PI below args s (D, tysM cy, F) A (LM ad cy Rr) Q) (F0 m 0 ls []) := by
  have hx := E.1
  have hb := E.2.1
  unfold wX6_atom5 at hf
  refine lv_iconst (v := 0) (pc := 0) hx hb dX6_atom5_0 rfl ?_
  refine lv_istore_n (lv' := [(1, .int 0), (0, .ref (ad 16 99))]) (pc := 1) hx hb dX6_atom5_1 rfl hl (by decide) rfl (fun ls hl => ?_)
  refine lv_aload_n (pc := 2) hx hb dX6_atom5_2 rfl (lv_at hl 1 rfl) ?_
  refine lv_bipush (v := 45) (pc := 3) hx hb dX6_atom5_3 rfl ?_
  refine callVI (G := (D, tysM cy, F)) (L := LM ad cy Rr) (pc := 5) (As := [.int 45]) (rest := []) hF E cs0 hl hI (tX6_isSign hF hf) mwX6_222 (fitD (by decide)) (at6) rfl rfl rfl rfl (Nat.le_of_ble_eq_true rfl) dX6_atom5_5 (fun r2 σ1 H locs hf hI => ?_)
  refine lv_if_eq (tgt := 19) (pc := 8) hx hb dX6_atom5_8 (by decide) (fun c3 => ?_) (fun c3 => ?_)
  · have hf := hf.1 c3
    refine lv_aload_n (pc := 19) hx hb dX6_atom5_19 rfl (lv_at hl 1 rfl) ?_
    refine lv_bipush (v := 40) (pc := 20) hx hb dX6_atom5_20 rfl ?_
    refine callVI (G := (D, tysM cy, F)) (L := LM ad cy Rr) (pc := 22) (As := [.int 40]) (rest := []) hF E cs0 hl hI (tX6_isSign hF hf) mwX6_222 (fitD (by decide)) (at6) rfl rfl rfl rfl (Nat.le_of_ble_eq_true rfl) dX6_atom5_22 (fun r5 σ4 H locs hf hI => ?_)
    refine lv_if_eq (tgt := 36) (pc := 25) hx hb dX6_atom5_25 (by decide) (fun c6 => ?_) (fun c6 => ?_)
    · have hf := hf.1 c6
      refine lv_aload_n (pc := 36) hx hb dX6_atom5_36 rfl (lv_at hl 1 rfl) ?_
      refine g6_27 (pc := 37) E hI lkX6_181 dX6_atom5_37 ?_
      refine lv_if_ne (tgt := 64) (pc := 40) hx hb dX6_atom5_40 (by decide) (fun c7 => ?_) (fun c7 => ?_)
      · have hf := hf.1 c7
        exact bX6_atom5_64 hF E hr hlk hf hI (lv_sub hl [1, 0] rfl)
      · have hf := hf.2 c7
        refine lv_aload_n (pc := 43) hx hb dX6_atom5_43 rfl (lv_at hl 1 rfl) ?_
        refine g6_23 (pc := 44) E hI lkX6_165 dX6_atom5_44 ?_
        refine lv_iconst (v := 2) (pc := 47) hx hb dX6_atom5_47 rfl ?_
        refine lv_icmp_ne (tgt := 64) (pc := 48) hx hb dX6_atom5_48 (by decide) (fun c15 => ?_) (fun c15 => ?_)
        · have hf := hf.1 c15
          exact bX6_atom5_64 hF E hr hlk hf hI (lv_sub hl [1, 0] rfl)
        · have hf := hf.2 c15
          refine lv_aload_n (pc := 51) hx hb dX6_atom5_51 rfl (lv_at hl 1 rfl) ?_
          refine g6_25 (pc := 52) E hI lkX6_176 dX6_atom5_52 ?_
          refine lv_l2i (v := (((gJ σ4 16 25)).toInt32)) (pc := 55) hx hb dX6_atom5_55 rfl ?_
          refine lv_topi (fun x16 ex16 => ?_)
          have hf := hf x16 ex16
          refine lv_istore_n (lv' := [(1, .int x16), (0, .ref (ad 16 99))]) (pc := 56) hx hb dX6_atom5_56 rfl hl (by decide) rfl (fun ls hl => ?_)
          refine lv_aload_n (pc := 57) hx hb dX6_atom5_57 rfl (lv_at hl 1 rfl) ?_
          refine callVV (G := (D, tysM cy, F)) (L := LM ad cy Rr) (pc := 58) (As := []) (rest := []) hF E cs0 hl hI (tX6_next hF hf) mwX6_197 (fitD (by decide)) (at6) rfl rfl rfl rfl (Nat.le_of_ble_eq_true rfl) dX6_atom5_58 (fun σ17 H locs hf hI => ?_)
          refine lv_goto (tgt := 102) (pc := 61) hx hb dX6_atom5_61 (by decide) ?_
          refine lv_iload_n (pc := 102) hx hb dX6_atom5_102 rfl (lv_at hl 0 rfl) ?_
          exact rI (pc := 103) E hr hlk hI hf dX6_atom5_103
    · have hf := hf.2 c6
      refine lv_aload_n (pc := 28) hx hb dX6_atom5_28 rfl (lv_at hl 1 rfl) ?_
      refine callVI (G := (D, tysM cy, F)) (L := LM ad cy Rr) (pc := 29) (As := []) (rest := []) hF E cs0 hl hI (tX6_opens hF hf) mwX6_225 (fitD (by decide)) (at6) rfl rfl rfl rfl (Nat.le_of_ble_eq_true rfl) dX6_atom5_29 (fun r19 σ18 H locs hf hI => ?_)
      refine lv_pop (pc := 32) hx hb dX6_atom5_32 rfl ?_
      refine lv_goto (tgt := 102) (pc := 33) hx hb dX6_atom5_33 (by decide) ?_
      refine lv_iload_n (pc := 102) hx hb dX6_atom5_102 rfl (lv_at hl 0 rfl) ?_
      exact rI (pc := 103) E hr hlk hI hf dX6_atom5_103
  · have hf := hf.2 c3
    refine lv_aload_n (pc := 11) hx hb dX6_atom5_11 rfl (lv_at hl 1 rfl) ?_
    refine callVI (G := (D, tysM cy, F)) (L := LM ad cy Rr) (pc := 12) (As := []) (rest := []) hF E cs0 hl hI (tX6_opens hF hf) mwX6_225 (fitD (by decide)) (at6) rfl rfl rfl rfl (Nat.le_of_ble_eq_true rfl) dX6_atom5_12 (fun r21 σ20 H locs hf hI => ?_)
    refine lv_pop (pc := 15) hx hb dX6_atom5_15 rfl ?_
    refine lv_goto (tgt := 102) (pc := 16) hx hb dX6_atom5_16 (by decide) ?_
    refine lv_iload_n (pc := 102) hx hb dX6_atom5_102 rfl (lv_at hl 0 rfl) ?_
    exact rI (pc := 103) E hr hlk hI hf dX6_atom5_103
theorem tX6_atom5 {l : Launch} {D : va_G} {F : (Nat → Prop) → State → Prop} {σ : St} {ad : Nat → Nat → Nat} {cy : Nat → ClassId} {Rr : va_W} {Q : Int32 → St → Prop} (hF : Stab F) (hf : wX6_atom5 σ Q) : CtI l yX6_atom5 cX6_atom5 2 .int 4 (D, tysM cy, F) (LM ad cy Rr) [.ref (ad 16 99)] σ Q := mkI (by decide) (Nat.le_of_ble_eq_true rfl) (fun p e s m below meth c A E hr hlk hI ls hl => bX6_atom5 hF E hr hlk hf hI hl)

def wX6_term5_l5s (ih : Int32 → St → Prop) (a1 : Int32) (σ : St) (Q : Int32 → St → Prop) : Prop := wX6_isSign 42 σ (fun r4 σ3 => ((r4 = 0 → Q a1 σ3) ∧ (¬ r4 = 0 → wX6_next σ3 (fun σ6 => wX6_atom5 σ6 (fun r8 σ7 => ∀ x9 : Int32, x9 = (a1 * r8) → (ih x9 σ7))))))
def wX6_term5_l5 (n : Nat) : Int32 → St → (Int32 → St → Prop) → Prop := @Nat.rec (fun _ => Int32 → St → (Int32 → St → Prop) → Prop) (fun _ _ _ => False) (fun _ ih a1 σ Q => wX6_term5_l5s (fun a1 σ => ih a1 σ Q) a1 σ Q) n
set_option maxRecDepth 100000 in
set_option maxHeartbeats 4000000 in
theorem bX6_term5_5 {p : Program} {l : Launch} {e : Env} {s : State} {m : MethodId} {args : Array Value} {below : List Frame} {meth : Method} {c : Code} {D : va_G} {F : (Nat → Prop) → State → Prop} {A : Nat → Prop} {ad : Nat → Nat → Nat} {cy : Nat → ClassId} {Rr : va_W} {Q : Int32 → St → Prop} (hF : Stab F) (E : CallFix p m c cX6_term5 2 s args TB RX6) (hr : meth.sig.returnType = some .int) (hlk : meth.locks = false) : ∀ (n : Nat) {a1 : Int32} {σ : St} {H : Heap} {locs : List Loc} {ls : Array Slot}, wX6_term5_l5 n a1 σ Q → In (D, tysM cy, F) (LM ad cy Rr σ) A s H locs → lv_has ls 2 [(0, .ref (ad 16 99)), (1, .int a1)] → W p l e (rmD 5) s m args below meth c H locs 0 0 (PI below args s (D, tysM cy, F) A (LM ad cy Rr) Q) (F0 m 5 ls []) := by
  have hx := E.1
  have hb := E.2.1
  intro n
  induction n with
  | zero => intro a1 σ H locs ls hf hI hl; exact False.elim hf
  | succ n ih =>
    intro a1 σ H locs ls hf hI hl
    have hf : wX6_term5_l5s (fun a1 σ => wX6_term5_l5 n a1 σ Q) a1 σ Q := hf
    unfold wX6_term5_l5s at hf
    refine lv_aload_n (pc := 5) hx hb dX6_term5_5 rfl (lv_at hl 0 rfl) ?_
    refine lv_bipush (v := 42) (pc := 6) hx hb dX6_term5_6 rfl ?_
    refine callVI (G := (D, tysM cy, F)) (L := LM ad cy Rr) (pc := 8) (As := [.int 42]) (rest := []) hF E cs0 hl hI (tX6_isSign hF hf) mwX6_222 (fitD (by decide)) (at6) rfl rfl rfl rfl (Nat.le_of_ble_eq_true rfl) dX6_term5_8 (fun r4 σ3 H locs hf hI => ?_)
    refine lv_if_eq (tgt := 28) (pc := 11) hx hb dX6_term5_11 (by decide) (fun c5 => ?_) (fun c5 => ?_)
    · have hf := hf.1 c5
      refine lv_iload_n (pc := 28) hx hb dX6_term5_28 rfl (lv_at hl 1 rfl) ?_
      exact rI (pc := 29) E hr hlk hI hf dX6_term5_29
    · have hf := hf.2 c5
      refine lv_aload_n (pc := 14) hx hb dX6_term5_14 rfl (lv_at hl 0 rfl) ?_
      refine callVV (G := (D, tysM cy, F)) (L := LM ad cy Rr) (pc := 15) (As := []) (rest := []) hF E cs0 hl hI (tX6_next hF hf) mwX6_197 (fitD (by decide)) (at6) rfl rfl rfl rfl (Nat.le_of_ble_eq_true rfl) dX6_term5_15 (fun σ6 H locs hf hI => ?_)
      refine lv_iload_n (pc := 18) hx hb dX6_term5_18 rfl (lv_at hl 1 rfl) ?_
      refine lv_aload_n (pc := 19) hx hb dX6_term5_19 rfl (lv_at hl 0 rfl) ?_
      refine callVI (G := (D, tysM cy, F)) (L := LM ad cy Rr) (pc := 20) (As := []) (rest := [.int a1]) hF E cs0 hl hI (tX6_atom5 hF hf) mwX6_233 (fitD (by decide)) (at6) rfl rfl rfl rfl (Nat.le_of_ble_eq_true rfl) dX6_term5_20 (fun r8 σ7 H locs hf hI => ?_)
      refine lv_imul (pc := 23) hx hb dX6_term5_23 ?_
      refine lv_topi (fun x9 ex9 => ?_)
      have hf := hf x9 ex9
      refine lv_istore_n (lv' := [(1, .int x9), (0, .ref (ad 16 99))]) (pc := 24) hx hb dX6_term5_24 rfl hl (by decide) rfl (fun ls hl => ?_)
      refine lv_goto (tgt := 5) (pc := 25) hx hb dX6_term5_25 (by decide) ?_
      exact ih hf hI (lv_sub hl [1, 0] rfl)
def wX6_term5 (σ : St) (Q : Int32 → St → Prop) : Prop := wX6_atom5 σ (fun r2 σ1 => ∃ n10 : Nat, wX6_term5_l5 n10 r2 σ1 Q)
set_option maxRecDepth 100000 in
set_option maxHeartbeats 4000000 in
theorem bX6_term5 {p : Program} {l : Launch} {e : Env} {s : State} {m : MethodId} {args : Array Value} {below : List Frame} {meth : Method} {c : Code} {H : Heap} {locs : List Loc} {ls : Array Slot} {D : va_G} {F : (Nat → Prop) → State → Prop} {A : Nat → Prop} {σ : St} {ad : Nat → Nat → Nat} {cy : Nat → ClassId} {Rr : va_W} {Q : Int32 → St → Prop} (hF : Stab F) (E : CallFix p m c cX6_term5 2 s args TB RX6) (hr : meth.sig.returnType = some .int) (hlk : meth.locks = false) (hf : wX6_term5 σ Q) (hI : In (D, tysM cy, F) (LM ad cy Rr σ) A s H locs) (hl : lv_has ls 2 [(0, .ref (ad 16 99))]) : W p l e (rmD 5) s m args below meth c H locs 0 0 (PI below args s (D, tysM cy, F) A (LM ad cy Rr) Q) (F0 m 0 ls []) := by
  have hx := E.1
  have hb := E.2.1
  unfold wX6_term5 at hf
  refine lv_aload_n (pc := 0) hx hb dX6_term5_0 rfl (lv_at hl 0 rfl) ?_
  refine callVI (G := (D, tysM cy, F)) (L := LM ad cy Rr) (pc := 1) (As := []) (rest := []) hF E cs0 hl hI (tX6_atom5 hF hf) mwX6_233 (fitD (by decide)) (at6) rfl rfl rfl rfl (Nat.le_of_ble_eq_true rfl) dX6_term5_1 (fun r2 σ1 H locs hf hI => ?_)
  refine lv_istore_n (lv' := [(1, .int r2), (0, .ref (ad 16 99))]) (pc := 4) hx hb dX6_term5_4 rfl hl (by decide) rfl (fun ls hl => ?_)
  obtain ⟨n10, hf⟩ := hf
  exact bX6_term5_5 hF E hr hlk n10 hf hI (lv_sub hl [1, 0] rfl)
theorem tX6_term5 {l : Launch} {D : va_G} {F : (Nat → Prop) → State → Prop} {σ : St} {ad : Nat → Nat → Nat} {cy : Nat → ClassId} {Rr : va_W} {Q : Int32 → St → Prop} (hF : Stab F) (hf : wX6_term5 σ Q) : CtI l yX6_term5 cX6_term5 2 .int 5 (D, tysM cy, F) (LM ad cy Rr) [.ref (ad 16 99)] σ Q := mkI (by decide) (Nat.le_of_ble_eq_true rfl) (fun p e s m below meth c A E hr hlk hI ls hl => bX6_term5 hF E hr hlk hf hI hl)

def wX6_added5_j62 (s0 : Int32) (σ : St) (K : Int32 → St → Prop) (Q : Int32 → St → Prop) : Prop := (K s0 σ)
set_option maxRecDepth 100000 in
set_option maxHeartbeats 4000000 in
theorem bX6_added5_62 {p : Program} {l : Launch} {e : Env} {s : State} {m : MethodId} {args : Array Value} {below : List Frame} {meth : Method} {c : Code} {H : Heap} {locs : List Loc} {ls : Array Slot} {D : va_G} {F : (Nat → Prop) → State → Prop} {A : Nat → Prop} {σ : St} {ad : Nat → Nat → Nat} {cy : Nat → ClassId} {Rr : va_W} {Q : Int32 → St → Prop} {s0 : Int32} {K : Int32 → St → Prop} (hF : Stab F) (E : CallFix p m c cX6_added5 4 s args TB RX6) (hr : meth.sig.returnType = some .int) (hlk : meth.locks = false) (hK : ∀ (a1 : Int32) (σ : St) (H : Heap) (locs : List Loc) (ls : Array Slot), K a1 σ → In (D, tysM cy, F) (LM ad cy Rr σ) A s H locs → lv_has ls 4 [(0, .ref (ad 16 99)), (1, .int a1)] → W p l e (rmD 6) s m args below meth c H locs 0 0 (PI below args s (D, tysM cy, F) A (LM ad cy Rr) Q) (F0 m 5 ls [])) (hf : wX6_added5_j62 s0 σ K Q) (hI : In (D, tysM cy, F) (LM ad cy Rr σ) A s H locs) (hl : lv_has ls 4 [(0, .ref (ad 16 99))]) : W p l e (rmD 6) s m args below meth c H locs 0 0 (PI below args s (D, tysM cy, F) A (LM ad cy Rr) Q) (F0 m 62 ls [.int s0]) := by
  have hx := E.1
  have hb := E.2.1
  unfold wX6_added5_j62 at hf
  refine lv_istore_n (lv' := [(1, .int s0), (0, .ref (ad 16 99))]) (pc := 62) hx hb dX6_added5_62 rfl hl (by decide) rfl (fun ls hl => ?_)
  refine lv_goto (tgt := 5) (pc := 63) hx hb dX6_added5_63 (by decide) ?_
  exact hK _ _ _ _ _ hf hI (lv_sub hl [1, 0] rfl)
def wX6_added5_j39 (a1 : Int32) (s0 : Int32) (σ : St) (K : Int32 → St → Prop) (Q : Int32 → St → Prop) : Prop := wX6_next σ (fun σ7 => wX6_term5 σ7 (fun r9 σ8 => ((s0 = 0 → (wX6_added5_j62 (a1 - r9) σ8 K Q)) ∧ (¬ s0 = 0 → (wX6_added5_j62 (a1 + r9) σ8 K Q)))))
set_option maxRecDepth 100000 in
set_option maxHeartbeats 4000000 in
theorem bX6_added5_39 {p : Program} {l : Launch} {e : Env} {s : State} {m : MethodId} {args : Array Value} {below : List Frame} {meth : Method} {c : Code} {H : Heap} {locs : List Loc} {ls : Array Slot} {D : va_G} {F : (Nat → Prop) → State → Prop} {A : Nat → Prop} {σ : St} {ad : Nat → Nat → Nat} {cy : Nat → ClassId} {Rr : va_W} {Q : Int32 → St → Prop} {a1 : Int32} {s0 : Int32} {K : Int32 → St → Prop} (hF : Stab F) (E : CallFix p m c cX6_added5 4 s args TB RX6) (hr : meth.sig.returnType = some .int) (hlk : meth.locks = false) (hK : ∀ (a1 : Int32) (σ : St) (H : Heap) (locs : List Loc) (ls : Array Slot), K a1 σ → In (D, tysM cy, F) (LM ad cy Rr σ) A s H locs → lv_has ls 4 [(0, .ref (ad 16 99)), (1, .int a1)] → W p l e (rmD 6) s m args below meth c H locs 0 0 (PI below args s (D, tysM cy, F) A (LM ad cy Rr) Q) (F0 m 5 ls [])) (hf : wX6_added5_j39 a1 s0 σ K Q) (hI : In (D, tysM cy, F) (LM ad cy Rr σ) A s H locs) (hl : lv_has ls 4 [(0, .ref (ad 16 99)), (1, .int a1)]) : W p l e (rmD 6) s m args below meth c H locs 0 0 (PI below args s (D, tysM cy, F) A (LM ad cy Rr) Q) (F0 m 39 ls [.int s0]) := by
  have hx := E.1
  have hb := E.2.1
  unfold wX6_added5_j39 at hf
  refine lv_istore_n (lv' := [(2, .int s0), (0, .ref (ad 16 99)), (1, .int a1)]) (pc := 39) hx hb dX6_added5_39 rfl hl (by decide) rfl (fun ls hl => ?_)
  refine lv_aload_n (pc := 40) hx hb dX6_added5_40 rfl (lv_at hl 1 rfl) ?_
  refine callVV (G := (D, tysM cy, F)) (L := LM ad cy Rr) (pc := 41) (As := []) (rest := []) hF E cs0 hl hI (tX6_next hF hf) mwX6_197 (fitD (by decide)) (at6) rfl rfl rfl rfl (Nat.le_of_ble_eq_true rfl) dX6_added5_41 (fun σ7 H locs hf hI => ?_)
  refine lv_aload_n (pc := 44) hx hb dX6_added5_44 rfl (lv_at hl 1 rfl) ?_
  refine callVI (G := (D, tysM cy, F)) (L := LM ad cy Rr) (pc := 45) (As := []) (rest := []) hF E cs0 hl hI (tX6_term5 hF hf) mwX6_236 (fitD (by decide)) (at6) rfl rfl rfl rfl (Nat.le_of_ble_eq_true rfl) dX6_added5_45 (fun r9 σ8 H locs hf hI => ?_)
  refine lv_istore_n (lv' := [(3, .int r9), (2, .int s0), (0, .ref (ad 16 99)), (1, .int a1)]) (pc := 48) hx hb dX6_added5_48 rfl hl (by decide) rfl (fun ls hl => ?_)
  refine lv_iload_n (pc := 49) hx hb dX6_added5_49 rfl (lv_at hl 1 rfl) ?_
  refine lv_if_eq (tgt := 59) (pc := 50) hx hb dX6_added5_50 (by decide) (fun c10 => ?_) (fun c10 => ?_)
  · have hf := hf.1 c10
    refine lv_iload_n (pc := 59) hx hb dX6_added5_59 rfl (lv_at hl 3 rfl) ?_
    refine lv_iload_n (pc := 60) hx hb dX6_added5_60 rfl (lv_at hl 0 rfl) ?_
    refine lv_isub (pc := 61) hx hb dX6_added5_61 ?_
    exact bX6_added5_62 hF E hr hlk hK hf hI (lv_sub hl [2] rfl)
  · have hf := hf.2 c10
    refine lv_iload_n (pc := 53) hx hb dX6_added5_53 rfl (lv_at hl 3 rfl) ?_
    refine lv_iload_n (pc := 54) hx hb dX6_added5_54 rfl (lv_at hl 0 rfl) ?_
    refine lv_iadd (pc := 55) hx hb dX6_added5_55 ?_
    refine lv_goto (tgt := 62) (pc := 56) hx hb dX6_added5_56 (by decide) ?_
    exact bX6_added5_62 hF E hr hlk hK hf hI (lv_sub hl [2] rfl)
def wX6_added5_j23 (a1 : Int32) (σ : St) (K : Int32 → St → Prop) (Q : Int32 → St → Prop) : Prop := ((¬ (lg_cmp (gJ σ 16 25) 43) = 0 → (wX6_added5_j39 a1 0 σ K Q)) ∧ ((lg_cmp (gJ σ 16 25) 43) = 0 → (wX6_added5_j39 a1 1 σ K Q)))
set_option maxRecDepth 100000 in
set_option maxHeartbeats 4000000 in
theorem bX6_added5_23 {p : Program} {l : Launch} {e : Env} {s : State} {m : MethodId} {args : Array Value} {below : List Frame} {meth : Method} {c : Code} {H : Heap} {locs : List Loc} {ls : Array Slot} {D : va_G} {F : (Nat → Prop) → State → Prop} {A : Nat → Prop} {σ : St} {ad : Nat → Nat → Nat} {cy : Nat → ClassId} {Rr : va_W} {Q : Int32 → St → Prop} {a1 : Int32} {K : Int32 → St → Prop} (hF : Stab F) (E : CallFix p m c cX6_added5 4 s args TB RX6) (hr : meth.sig.returnType = some .int) (hlk : meth.locks = false) (hK : ∀ (a1 : Int32) (σ : St) (H : Heap) (locs : List Loc) (ls : Array Slot), K a1 σ → In (D, tysM cy, F) (LM ad cy Rr σ) A s H locs → lv_has ls 4 [(0, .ref (ad 16 99)), (1, .int a1)] → W p l e (rmD 6) s m args below meth c H locs 0 0 (PI below args s (D, tysM cy, F) A (LM ad cy Rr) Q) (F0 m 5 ls [])) (hf : wX6_added5_j23 a1 σ K Q) (hI : In (D, tysM cy, F) (LM ad cy Rr σ) A s H locs) (hl : lv_has ls 4 [(0, .ref (ad 16 99)), (1, .int a1)]) : W p l e (rmD 6) s m args below meth c H locs 0 0 (PI below args s (D, tysM cy, F) A (LM ad cy Rr) Q) (F0 m 23 ls []) := by
  have hx := E.1
  have hb := E.2.1
  unfold wX6_added5_j23 at hf
  refine lv_aload_n (pc := 23) hx hb dX6_added5_23 rfl (lv_at hl 0 rfl) ?_
  refine g6_25 (pc := 24) E hI lkX6_176 dX6_added5_24 ?_
  refine lv_ldc2 (pc := 27) E.1 E.2.1 E.2.2.2.1 (E.2.2.2.2 _ kcX6_239) dX6_added5_27 ?_
  refine W.lcmp (pc := 30) hx hb dX6_added5_30 ?_
  refine lv_if_ne (tgt := 38) (pc := 31) hx hb dX6_added5_31 (by decide) (fun c6 => ?_) (fun c6 => ?_)
  · have hf := hf.1 c6
    refine lv_iconst (v := 0) (pc := 38) hx hb dX6_added5_38 rfl ?_
    exact bX6_added5_39 hF E hr hlk hK hf hI (lv_sub hl [0, 1] rfl)
  · have hf := hf.2 c6
    refine lv_iconst (v := 1) (pc := 34) hx hb dX6_added5_34 rfl ?_
    refine lv_goto (tgt := 39) (pc := 35) hx hb dX6_added5_35 (by decide) ?_
    exact bX6_added5_39 hF E hr hlk hK hf hI (lv_sub hl [0, 1] rfl)
def wX6_added5_l5s (ih : Int32 → St → Prop) (a1 : Int32) (σ : St) (Q : Int32 → St → Prop) : Prop := wX6_isSign 43 σ (fun r4 σ3 => ((¬ r4 = 0 → (wX6_added5_j23 a1 σ3 ih Q)) ∧ (r4 = 0 → wX6_isSign 45 σ3 (fun r12 σ11 => ((r12 = 0 → Q a1 σ11) ∧ (¬ r12 = 0 → (wX6_added5_j23 a1 σ11 ih Q)))))))
def wX6_added5_l5 (n : Nat) : Int32 → St → (Int32 → St → Prop) → Prop := @Nat.rec (fun _ => Int32 → St → (Int32 → St → Prop) → Prop) (fun _ _ _ => False) (fun _ ih a1 σ Q => wX6_added5_l5s (fun a1 σ => ih a1 σ Q) a1 σ Q) n
set_option maxRecDepth 100000 in
set_option maxHeartbeats 4000000 in
theorem bX6_added5_5 {p : Program} {l : Launch} {e : Env} {s : State} {m : MethodId} {args : Array Value} {below : List Frame} {meth : Method} {c : Code} {D : va_G} {F : (Nat → Prop) → State → Prop} {A : Nat → Prop} {ad : Nat → Nat → Nat} {cy : Nat → ClassId} {Rr : va_W} {Q : Int32 → St → Prop} (hF : Stab F) (E : CallFix p m c cX6_added5 4 s args TB RX6) (hr : meth.sig.returnType = some .int) (hlk : meth.locks = false) : ∀ (n : Nat) {a1 : Int32} {σ : St} {H : Heap} {locs : List Loc} {ls : Array Slot}, wX6_added5_l5 n a1 σ Q → In (D, tysM cy, F) (LM ad cy Rr σ) A s H locs → lv_has ls 4 [(0, .ref (ad 16 99)), (1, .int a1)] → W p l e (rmD 6) s m args below meth c H locs 0 0 (PI below args s (D, tysM cy, F) A (LM ad cy Rr) Q) (F0 m 5 ls []) := by
  have hx := E.1
  have hb := E.2.1
  intro n
  induction n with
  | zero => intro a1 σ H locs ls hf hI hl; exact False.elim hf
  | succ n ih =>
    intro a1 σ H locs ls hf hI hl
    have hf : wX6_added5_l5s (fun a1 σ => wX6_added5_l5 n a1 σ Q) a1 σ Q := hf
    unfold wX6_added5_l5s at hf
    refine lv_aload_n (pc := 5) hx hb dX6_added5_5 rfl (lv_at hl 0 rfl) ?_
    refine lv_bipush (v := 43) (pc := 6) hx hb dX6_added5_6 rfl ?_
    refine callVI (G := (D, tysM cy, F)) (L := LM ad cy Rr) (pc := 8) (As := [.int 43]) (rest := []) hF E cs0 hl hI (tX6_isSign hF hf) mwX6_222 (fitD (by decide)) (at6) rfl rfl rfl rfl (Nat.le_of_ble_eq_true rfl) dX6_added5_8 (fun r4 σ3 H locs hf hI => ?_)
    refine lv_if_ne (tgt := 23) (pc := 11) hx hb dX6_added5_11 (by decide) (fun c5 => ?_) (fun c5 => ?_)
    · have hf := hf.1 c5
      exact bX6_added5_23 hF E hr hlk (fun _ _ _ _ _ hf hI hl => ih hf hI hl) hf hI (lv_sub hl [0, 1] rfl)
    · have hf := hf.2 c5
      refine lv_aload_n (pc := 14) hx hb dX6_added5_14 rfl (lv_at hl 0 rfl) ?_
      refine lv_bipush (v := 45) (pc := 15) hx hb dX6_added5_15 rfl ?_
      refine callVI (G := (D, tysM cy, F)) (L := LM ad cy Rr) (pc := 17) (As := [.int 45]) (rest := []) hF E cs0 hl hI (tX6_isSign hF hf) mwX6_222 (fitD (by decide)) (at6) rfl rfl rfl rfl (Nat.le_of_ble_eq_true rfl) dX6_added5_17 (fun r12 σ11 H locs hf hI => ?_)
      refine lv_if_eq (tgt := 66) (pc := 20) hx hb dX6_added5_20 (by decide) (fun c13 => ?_) (fun c13 => ?_)
      · have hf := hf.1 c13
        refine lv_iload_n (pc := 66) hx hb dX6_added5_66 rfl (lv_at hl 1 rfl) ?_
        exact rI (pc := 67) E hr hlk hI hf dX6_added5_67
      · have hf := hf.2 c13
        exact bX6_added5_23 hF E hr hlk (fun _ _ _ _ _ hf hI hl => ih hf hI hl) hf hI (lv_sub hl [0, 1] rfl)
def wX6_added5 (σ : St) (Q : Int32 → St → Prop) : Prop := wX6_term5 σ (fun r2 σ1 => ∃ n14 : Nat, wX6_added5_l5 n14 r2 σ1 Q)
set_option maxRecDepth 100000 in
set_option maxHeartbeats 4000000 in
theorem bX6_added5 {p : Program} {l : Launch} {e : Env} {s : State} {m : MethodId} {args : Array Value} {below : List Frame} {meth : Method} {c : Code} {H : Heap} {locs : List Loc} {ls : Array Slot} {D : va_G} {F : (Nat → Prop) → State → Prop} {A : Nat → Prop} {σ : St} {ad : Nat → Nat → Nat} {cy : Nat → ClassId} {Rr : va_W} {Q : Int32 → St → Prop} (hF : Stab F) (E : CallFix p m c cX6_added5 4 s args TB RX6) (hr : meth.sig.returnType = some .int) (hlk : meth.locks = false) (hf : wX6_added5 σ Q) (hI : In (D, tysM cy, F) (LM ad cy Rr σ) A s H locs) (hl : lv_has ls 4 [(0, .ref (ad 16 99))]) : W p l e (rmD 6) s m args below meth c H locs 0 0 (PI below args s (D, tysM cy, F) A (LM ad cy Rr) Q) (F0 m 0 ls []) := by
  have hx := E.1
  have hb := E.2.1
  unfold wX6_added5 at hf
  refine lv_aload_n (pc := 0) hx hb dX6_added5_0 rfl (lv_at hl 0 rfl) ?_
  refine callVI (G := (D, tysM cy, F)) (L := LM ad cy Rr) (pc := 1) (As := []) (rest := []) hF E cs0 hl hI (tX6_term5 hF hf) mwX6_236 (fitD (by decide)) (at6) rfl rfl rfl rfl (Nat.le_of_ble_eq_true rfl) dX6_added5_1 (fun r2 σ1 H locs hf hI => ?_)
  refine lv_istore_n (lv' := [(1, .int r2), (0, .ref (ad 16 99))]) (pc := 4) hx hb dX6_added5_4 rfl hl (by decide) rfl (fun ls hl => ?_)
  obtain ⟨n14, hf⟩ := hf
  exact bX6_added5_5 hF E hr hlk n14 hf hI (lv_sub hl [1, 0] rfl)
theorem tX6_added5 {l : Launch} {D : va_G} {F : (Nat → Prop) → State → Prop} {σ : St} {ad : Nat → Nat → Nat} {cy : Nat → ClassId} {Rr : va_W} {Q : Int32 → St → Prop} (hF : Stab F) (hf : wX6_added5 σ Q) : CtI l yX6_added5 cX6_added5 4 .int 6 (D, tysM cy, F) (LM ad cy Rr) [.ref (ad 16 99)] σ Q := mkI (by decide) (Nat.le_of_ble_eq_true rfl) (fun p e s m below meth c A E hr hlk hI ls hl => bX6_added5 hF E hr hlk hf hI hl)

def wX6_not5_j66 (a1 : Int32) (s0 : Int32) (σ : St) (Q : Int32 → St → Prop) : Prop := wX6_next σ (fun σ10 => wX6_added5 σ10 (fun r12 σ11 => ((s0 = 0 → ((¬ a1 = r12 → Q 0 σ11) ∧ (a1 = r12 → Q 1 σ11))) ∧ (¬ s0 = 0 → ((r12 ≤ a1 → Q 0 σ11) ∧ (¬ r12 ≤ a1 → Q 1 σ11))))))
set_option maxRecDepth 100000 in
set_option maxHeartbeats 4000000 in
theorem bX6_not5_66 {p : Program} {l : Launch} {e : Env} {s : State} {m : MethodId} {args : Array Value} {below : List Frame} {meth : Method} {c : Code} {H : Heap} {locs : List Loc} {ls : Array Slot} {D : va_G} {F : (Nat → Prop) → State → Prop} {A : Nat → Prop} {σ : St} {ad : Nat → Nat → Nat} {cy : Nat → ClassId} {Rr : va_W} {Q : Int32 → St → Prop} {a1 : Int32} {s0 : Int32} (hF : Stab F) (E : CallFix p m c cX6_not5 4 s args TB RX6) (hr : meth.sig.returnType = some .int) (hlk : meth.locks = false) (hf : wX6_not5_j66 a1 s0 σ Q) (hI : In (D, tysM cy, F) (LM ad cy Rr σ) A s H locs) (hl : lv_has ls 4 [(0, .ref (ad 16 99)), (1, .int a1)]) : W p l e (rmD 7) s m args below meth c H locs 0 0 (PI below args s (D, tysM cy, F) A (LM ad cy Rr) Q) (F0 m 66 ls [.int s0]) := by
  have hx := E.1
  have hb := E.2.1
  unfold wX6_not5_j66 at hf
  refine lv_istore_n (lv' := [(2, .int s0), (0, .ref (ad 16 99)), (1, .int a1)]) (pc := 66) hx hb dX6_not5_66 rfl hl (by decide) rfl (fun ls hl => ?_)
  refine lv_aload_n (pc := 67) hx hb dX6_not5_67 rfl (lv_at hl 1 rfl) ?_
  refine callVV (G := (D, tysM cy, F)) (L := LM ad cy Rr) (pc := 68) (As := []) (rest := []) hF E cs0 hl hI (tX6_next hF hf) mwX6_197 (fitD (by decide)) (at6) rfl rfl rfl rfl (Nat.le_of_ble_eq_true rfl) dX6_not5_68 (fun σ10 H locs hf hI => ?_)
  refine lv_aload_n (pc := 71) hx hb dX6_not5_71 rfl (lv_at hl 1 rfl) ?_
  refine callVI (G := (D, tysM cy, F)) (L := LM ad cy Rr) (pc := 72) (As := []) (rest := []) hF E cs0 hl hI (tX6_added5 hF hf) mwX6_241 (fitD (by decide)) (at6) rfl rfl rfl rfl (Nat.le_of_ble_eq_true rfl) dX6_not5_72 (fun r12 σ11 H locs hf hI => ?_)
  refine lv_istore_n (lv' := [(3, .int r12), (2, .int s0), (0, .ref (ad 16 99)), (1, .int a1)]) (pc := 75) hx hb dX6_not5_75 rfl hl (by decide) rfl (fun ls hl => ?_)
  refine lv_iload_n (pc := 76) hx hb dX6_not5_76 rfl (lv_at hl 1 rfl) ?_
  refine lv_if_eq (tgt := 88) (pc := 77) hx hb dX6_not5_77 (by decide) (fun c13 => ?_) (fun c13 => ?_)
  · have hf := hf.1 c13
    refine lv_iload_n (pc := 88) hx hb dX6_not5_88 rfl (lv_at hl 3 rfl) ?_
    refine lv_iload_n (pc := 89) hx hb dX6_not5_89 rfl (lv_at hl 0 rfl) ?_
    refine lv_icmp_ne (tgt := 97) (pc := 90) hx hb dX6_not5_90 (by decide) (fun c14 => ?_) (fun c14 => ?_)
    · have hf := hf.1 c14
      refine lv_iconst (v := 0) (pc := 97) hx hb dX6_not5_97 rfl ?_
      exact rI (pc := 98) E hr hlk hI hf dX6_not5_98
    · have hf := hf.2 c14
      refine lv_iconst (v := 1) (pc := 93) hx hb dX6_not5_93 rfl ?_
      refine lv_goto (tgt := 98) (pc := 94) hx hb dX6_not5_94 (by decide) ?_
      exact rI (pc := 98) E hr hlk hI hf dX6_not5_98
  · have hf := hf.2 c13
    refine lv_iload_n (pc := 80) hx hb dX6_not5_80 rfl (lv_at hl 3 rfl) ?_
    refine lv_iload_n (pc := 81) hx hb dX6_not5_81 rfl (lv_at hl 0 rfl) ?_
    refine lv_icmp_ge (tgt := 97) (pc := 82) hx hb dX6_not5_82 (by decide) (fun c15 => ?_) (fun c15 => ?_)
    · have hf := hf.1 c15
      refine lv_iconst (v := 0) (pc := 97) hx hb dX6_not5_97 rfl ?_
      exact rI (pc := 98) E hr hlk hI hf dX6_not5_98
    · have hf := hf.2 c15
      refine lv_goto (tgt := 93) (pc := 85) hx hb dX6_not5_85 (by decide) ?_
      refine lv_iconst (v := 1) (pc := 93) hx hb dX6_not5_93 rfl ?_
      refine lv_goto (tgt := 98) (pc := 94) hx hb dX6_not5_94 (by decide) ?_
      exact rI (pc := 98) E hr hlk hI hf dX6_not5_98
def wX6_not5_j50 (a1 : Int32) (σ : St) (Q : Int32 → St → Prop) : Prop := ((¬ (lg_cmp (gJ σ 16 25) 60) = 0 → (wX6_not5_j66 a1 0 σ Q)) ∧ ((lg_cmp (gJ σ 16 25) 60) = 0 → (wX6_not5_j66 a1 1 σ Q)))
set_option maxRecDepth 100000 in
set_option maxHeartbeats 4000000 in
theorem bX6_not5_50 {p : Program} {l : Launch} {e : Env} {s : State} {m : MethodId} {args : Array Value} {below : List Frame} {meth : Method} {c : Code} {H : Heap} {locs : List Loc} {ls : Array Slot} {D : va_G} {F : (Nat → Prop) → State → Prop} {A : Nat → Prop} {σ : St} {ad : Nat → Nat → Nat} {cy : Nat → ClassId} {Rr : va_W} {Q : Int32 → St → Prop} {a1 : Int32} (hF : Stab F) (E : CallFix p m c cX6_not5 4 s args TB RX6) (hr : meth.sig.returnType = some .int) (hlk : meth.locks = false) (hf : wX6_not5_j50 a1 σ Q) (hI : In (D, tysM cy, F) (LM ad cy Rr σ) A s H locs) (hl : lv_has ls 4 [(0, .ref (ad 16 99)), (1, .int a1)]) : W p l e (rmD 7) s m args below meth c H locs 0 0 (PI below args s (D, tysM cy, F) A (LM ad cy Rr) Q) (F0 m 50 ls []) := by
  have hx := E.1
  have hb := E.2.1
  unfold wX6_not5_j50 at hf
  refine lv_aload_n (pc := 50) hx hb dX6_not5_50 rfl (lv_at hl 0 rfl) ?_
  refine g6_25 (pc := 51) E hI lkX6_176 dX6_not5_51 ?_
  refine lv_ldc2 (pc := 54) E.1 E.2.1 E.2.2.2.1 (E.2.2.2.2 _ kcX6_244) dX6_not5_54 ?_
  refine W.lcmp (pc := 57) hx hb dX6_not5_57 ?_
  refine lv_if_ne (tgt := 65) (pc := 58) hx hb dX6_not5_58 (by decide) (fun c9 => ?_) (fun c9 => ?_)
  · have hf := hf.1 c9
    refine lv_iconst (v := 0) (pc := 65) hx hb dX6_not5_65 rfl ?_
    exact bX6_not5_66 hF E hr hlk hf hI (lv_sub hl [0, 1] rfl)
  · have hf := hf.2 c9
    refine lv_iconst (v := 1) (pc := 61) hx hb dX6_not5_61 rfl ?_
    refine lv_goto (tgt := 66) (pc := 62) hx hb dX6_not5_62 (by decide) ?_
    exact bX6_not5_66 hF E hr hlk hf hI (lv_sub hl [0, 1] rfl)
def wX6_not5 (σ : St) (Q : Int32 → St → Prop) : Prop := wX6_isWord 110 111 116 0 0 0 0 0 σ (fun r2 σ1 => ((r2 = 0 → wX6_added5 σ1 (fun r5 σ4 => wX6_isSign 60 σ4 (fun r7 σ6 => ((¬ r7 = 0 → (wX6_not5_j50 r5 σ6 Q)) ∧ (r7 = 0 → wX6_isSign 61 σ6 (fun r17 σ16 => ((¬ r17 = 0 → (wX6_not5_j50 r5 σ16 Q)) ∧ (r17 = 0 → Q r5 σ16)))))))) ∧ (¬ r2 = 0 → wX6_opens σ1 (fun r20 σ19 => Q 0 σ19))))
set_option maxRecDepth 100000 in
set_option maxHeartbeats 4000000 in
theorem bX6_not5 {p : Program} {l : Launch} {e : Env} {s : State} {m : MethodId} {args : Array Value} {below : List Frame} {meth : Method} {c : Code} {H : Heap} {locs : List Loc} {ls : Array Slot} {D : va_G} {F : (Nat → Prop) → State → Prop} {A : Nat → Prop} {σ : St} {ad : Nat → Nat → Nat} {cy : Nat → ClassId} {Rr : va_W} {Q : Int32 → St → Prop} (hF : Stab F) (E : CallFix p m c cX6_not5 4 s args TB RX6) (hr : meth.sig.returnType = some .int) (hlk : meth.locks = false) (hf : wX6_not5 σ Q) (hI : In (D, tysM cy, F) (LM ad cy Rr σ) A s H locs) (hl : lv_has ls 4 [(0, .ref (ad 16 99))]) : W p l e (rmD 7) s m args below meth c H locs 0 0 (PI below args s (D, tysM cy, F) A (LM ad cy Rr) Q) (F0 m 0 ls []) := by
  have hx := E.1
  have hb := E.2.1
  unfold wX6_not5 at hf
  refine lv_aload_n (pc := 0) hx hb dX6_not5_0 rfl (lv_at hl 0 rfl) ?_
  refine lv_bipush (v := 110) (pc := 1) hx hb dX6_not5_1 rfl ?_
  refine lv_bipush (v := 111) (pc := 3) hx hb dX6_not5_3 rfl ?_
  refine lv_bipush (v := 116) (pc := 5) hx hb dX6_not5_5 rfl ?_
  refine lv_iconst (v := 0) (pc := 7) hx hb dX6_not5_7 rfl ?_
  refine lv_iconst (v := 0) (pc := 8) hx hb dX6_not5_8 rfl ?_
  refine lv_iconst (v := 0) (pc := 9) hx hb dX6_not5_9 rfl ?_
  refine lv_iconst (v := 0) (pc := 10) hx hb dX6_not5_10 rfl ?_
  refine lv_iconst (v := 0) (pc := 11) hx hb dX6_not5_11 rfl ?_
  refine callVI (G := (D, tysM cy, F)) (L := LM ad cy Rr) (pc := 12) (As := [.int 110, .int 111, .int 116, .int 0, .int 0, .int 0, .int 0, .int 0]) (rest := []) hF E cs0 hl hI (tX6_isWord hF hf) mwX6_200 (fitD (by decide)) (at6) rfl rfl rfl rfl (Nat.le_of_ble_eq_true rfl) dX6_not5_12 (fun r2 σ1 H locs hf hI => ?_)
  refine lv_if_eq (tgt := 25) (pc := 15) hx hb dX6_not5_15 (by decide) (fun c3 => ?_) (fun c3 => ?_)
  · have hf := hf.1 c3
    refine lv_aload_n (pc := 25) hx hb dX6_not5_25 rfl (lv_at hl 0 rfl) ?_
    refine callVI (G := (D, tysM cy, F)) (L := LM ad cy Rr) (pc := 26) (As := []) (rest := []) hF E cs0 hl hI (tX6_added5 hF hf) mwX6_241 (fitD (by decide)) (at6) rfl rfl rfl rfl (Nat.le_of_ble_eq_true rfl) dX6_not5_26 (fun r5 σ4 H locs hf hI => ?_)
    refine lv_istore_n (lv' := [(1, .int r5), (0, .ref (ad 16 99))]) (pc := 29) hx hb dX6_not5_29 rfl hl (by decide) rfl (fun ls hl => ?_)
    refine lv_aload_n (pc := 30) hx hb dX6_not5_30 rfl (lv_at hl 1 rfl) ?_
    refine lv_bipush (v := 60) (pc := 31) hx hb dX6_not5_31 rfl ?_
    refine callVI (G := (D, tysM cy, F)) (L := LM ad cy Rr) (pc := 33) (As := [.int 60]) (rest := []) hF E cs0 hl hI (tX6_isSign hF hf) mwX6_222 (fitD (by decide)) (at6) rfl rfl rfl rfl (Nat.le_of_ble_eq_true rfl) dX6_not5_33 (fun r7 σ6 H locs hf hI => ?_)
    refine lv_if_ne (tgt := 50) (pc := 36) hx hb dX6_not5_36 (by decide) (fun c8 => ?_) (fun c8 => ?_)
    · have hf := hf.1 c8
      exact bX6_not5_50 hF E hr hlk hf hI (lv_sub hl [1, 0] rfl)
    · have hf := hf.2 c8
      refine lv_aload_n (pc := 39) hx hb dX6_not5_39 rfl (lv_at hl 1 rfl) ?_
      refine lv_bipush (v := 61) (pc := 40) hx hb dX6_not5_40 rfl ?_
      refine callVI (G := (D, tysM cy, F)) (L := LM ad cy Rr) (pc := 42) (As := [.int 61]) (rest := []) hF E cs0 hl hI (tX6_isSign hF hf) mwX6_222 (fitD (by decide)) (at6) rfl rfl rfl rfl (Nat.le_of_ble_eq_true rfl) dX6_not5_42 (fun r17 σ16 H locs hf hI => ?_)
      refine lv_if_ne (tgt := 50) (pc := 45) hx hb dX6_not5_45 (by decide) (fun c18 => ?_) (fun c18 => ?_)
      · have hf := hf.1 c18
        exact bX6_not5_50 hF E hr hlk hf hI (lv_sub hl [1, 0] rfl)
      · have hf := hf.2 c18
        refine lv_iload_n (pc := 48) hx hb dX6_not5_48 rfl (lv_at hl 0 rfl) ?_
        exact rI (pc := 49) E hr hlk hI hf dX6_not5_49
  · have hf := hf.2 c3
    refine lv_aload_n (pc := 18) hx hb dX6_not5_18 rfl (lv_at hl 0 rfl) ?_
    refine callVI (G := (D, tysM cy, F)) (L := LM ad cy Rr) (pc := 19) (As := []) (rest := []) hF E cs0 hl hI (tX6_opens hF hf) mwX6_225 (fitD (by decide)) (at6) rfl rfl rfl rfl (Nat.le_of_ble_eq_true rfl) dX6_not5_19 (fun r20 σ19 H locs hf hI => ?_)
    refine lv_pop (pc := 22) hx hb dX6_not5_22 rfl ?_
    refine lv_iconst (v := 0) (pc := 23) hx hb dX6_not5_23 rfl ?_
    exact rI (pc := 24) E hr hlk hI hf dX6_not5_24
theorem tX6_not5 {l : Launch} {D : va_G} {F : (Nat → Prop) → State → Prop} {σ : St} {ad : Nat → Nat → Nat} {cy : Nat → ClassId} {Rr : va_W} {Q : Int32 → St → Prop} (hF : Stab F) (hf : wX6_not5 σ Q) : CtI l yX6_not5 cX6_not5 4 .int 7 (D, tysM cy, F) (LM ad cy Rr) [.ref (ad 16 99)] σ Q := mkI (by decide) (Nat.le_of_ble_eq_true rfl) (fun p e s m below meth c A E hr hlk hI ls hl => bX6_not5 hF E hr hlk hf hI hl)

def wX6_both5_j45 (s0 : Int32) (σ : St) (K : Int32 → St → Prop) (Q : Int32 → St → Prop) : Prop := (K s0 σ)
set_option maxRecDepth 100000 in
set_option maxHeartbeats 4000000 in
theorem bX6_both5_45 {p : Program} {l : Launch} {e : Env} {s : State} {m : MethodId} {args : Array Value} {below : List Frame} {meth : Method} {c : Code} {H : Heap} {locs : List Loc} {ls : Array Slot} {D : va_G} {F : (Nat → Prop) → State → Prop} {A : Nat → Prop} {σ : St} {ad : Nat → Nat → Nat} {cy : Nat → ClassId} {Rr : va_W} {Q : Int32 → St → Prop} {s0 : Int32} {K : Int32 → St → Prop} (hF : Stab F) (E : CallFix p m c cX6_both5 3 s args TB RX6) (hr : meth.sig.returnType = some .int) (hlk : meth.locks = false) (hK : ∀ (a1 : Int32) (σ : St) (H : Heap) (locs : List Loc) (ls : Array Slot), K a1 σ → In (D, tysM cy, F) (LM ad cy Rr σ) A s H locs → lv_has ls 3 [(0, .ref (ad 16 99)), (1, .int a1)] → W p l e (rmD 8) s m args below meth c H locs 0 0 (PI below args s (D, tysM cy, F) A (LM ad cy Rr) Q) (F0 m 5 ls [])) (hf : wX6_both5_j45 s0 σ K Q) (hI : In (D, tysM cy, F) (LM ad cy Rr σ) A s H locs) (hl : lv_has ls 3 [(0, .ref (ad 16 99))]) : W p l e (rmD 8) s m args below meth c H locs 0 0 (PI below args s (D, tysM cy, F) A (LM ad cy Rr) Q) (F0 m 45 ls [.int s0]) := by
  have hx := E.1
  have hb := E.2.1
  unfold wX6_both5_j45 at hf
  refine lv_istore_n (lv' := [(1, .int s0), (0, .ref (ad 16 99))]) (pc := 45) hx hb dX6_both5_45 rfl hl (by decide) rfl (fun ls hl => ?_)
  refine lv_goto (tgt := 5) (pc := 46) hx hb dX6_both5_46 (by decide) ?_
  exact hK _ _ _ _ _ hf hI (lv_sub hl [1, 0] rfl)
def wX6_both5_j44 (σ : St) (K : Int32 → St → Prop) (Q : Int32 → St → Prop) : Prop := (wX6_both5_j45 0 σ K Q)
set_option maxRecDepth 100000 in
set_option maxHeartbeats 4000000 in
theorem bX6_both5_44 {p : Program} {l : Launch} {e : Env} {s : State} {m : MethodId} {args : Array Value} {below : List Frame} {meth : Method} {c : Code} {H : Heap} {locs : List Loc} {ls : Array Slot} {D : va_G} {F : (Nat → Prop) → State → Prop} {A : Nat → Prop} {σ : St} {ad : Nat → Nat → Nat} {cy : Nat → ClassId} {Rr : va_W} {Q : Int32 → St → Prop} {K : Int32 → St → Prop} (hF : Stab F) (E : CallFix p m c cX6_both5 3 s args TB RX6) (hr : meth.sig.returnType = some .int) (hlk : meth.locks = false) (hK : ∀ (a1 : Int32) (σ : St) (H : Heap) (locs : List Loc) (ls : Array Slot), K a1 σ → In (D, tysM cy, F) (LM ad cy Rr σ) A s H locs → lv_has ls 3 [(0, .ref (ad 16 99)), (1, .int a1)] → W p l e (rmD 8) s m args below meth c H locs 0 0 (PI below args s (D, tysM cy, F) A (LM ad cy Rr) Q) (F0 m 5 ls [])) (hf : wX6_both5_j44 σ K Q) (hI : In (D, tysM cy, F) (LM ad cy Rr σ) A s H locs) (hl : lv_has ls 3 [(0, .ref (ad 16 99))]) : W p l e (rmD 8) s m args below meth c H locs 0 0 (PI below args s (D, tysM cy, F) A (LM ad cy Rr) Q) (F0 m 44 ls []) := by
  have hx := E.1
  have hb := E.2.1
  unfold wX6_both5_j44 at hf
  refine lv_iconst (v := 0) (pc := 44) hx hb dX6_both5_44 rfl ?_
  exact bX6_both5_45 hF E hr hlk hK hf hI (lv_sub hl [0] rfl)
def wX6_both5_l5s (ih : Int32 → St → Prop) (a1 : Int32) (σ : St) (Q : Int32 → St → Prop) : Prop := wX6_isWord 97 110 100 0 0 0 0 0 σ (fun r4 σ3 => ((r4 = 0 → Q a1 σ3) ∧ (¬ r4 = 0 → wX6_next σ3 (fun σ6 => wX6_not5 σ6 (fun r8 σ7 => ((a1 = 0 → (wX6_both5_j44 σ7 ih Q)) ∧ (¬ a1 = 0 → ((r8 = 0 → (wX6_both5_j44 σ7 ih Q)) ∧ (¬ r8 = 0 → (wX6_both5_j45 1 σ7 ih Q))))))))))
def wX6_both5_l5 (n : Nat) : Int32 → St → (Int32 → St → Prop) → Prop := @Nat.rec (fun _ => Int32 → St → (Int32 → St → Prop) → Prop) (fun _ _ _ => False) (fun _ ih a1 σ Q => wX6_both5_l5s (fun a1 σ => ih a1 σ Q) a1 σ Q) n
set_option maxRecDepth 100000 in
set_option maxHeartbeats 4000000 in
theorem bX6_both5_5 {p : Program} {l : Launch} {e : Env} {s : State} {m : MethodId} {args : Array Value} {below : List Frame} {meth : Method} {c : Code} {D : va_G} {F : (Nat → Prop) → State → Prop} {A : Nat → Prop} {ad : Nat → Nat → Nat} {cy : Nat → ClassId} {Rr : va_W} {Q : Int32 → St → Prop} (hF : Stab F) (E : CallFix p m c cX6_both5 3 s args TB RX6) (hr : meth.sig.returnType = some .int) (hlk : meth.locks = false) : ∀ (n : Nat) {a1 : Int32} {σ : St} {H : Heap} {locs : List Loc} {ls : Array Slot}, wX6_both5_l5 n a1 σ Q → In (D, tysM cy, F) (LM ad cy Rr σ) A s H locs → lv_has ls 3 [(0, .ref (ad 16 99)), (1, .int a1)] → W p l e (rmD 8) s m args below meth c H locs 0 0 (PI below args s (D, tysM cy, F) A (LM ad cy Rr) Q) (F0 m 5 ls []) := by
  have hx := E.1
  have hb := E.2.1
  intro n
  induction n with
  | zero => intro a1 σ H locs ls hf hI hl; exact False.elim hf
  | succ n ih =>
    intro a1 σ H locs ls hf hI hl
    have hf : wX6_both5_l5s (fun a1 σ => wX6_both5_l5 n a1 σ Q) a1 σ Q := hf
    unfold wX6_both5_l5s at hf
    refine lv_aload_n (pc := 5) hx hb dX6_both5_5 rfl (lv_at hl 0 rfl) ?_
    refine lv_bipush (v := 97) (pc := 6) hx hb dX6_both5_6 rfl ?_
    refine lv_bipush (v := 110) (pc := 8) hx hb dX6_both5_8 rfl ?_
    refine lv_bipush (v := 100) (pc := 10) hx hb dX6_both5_10 rfl ?_
    refine lv_iconst (v := 0) (pc := 12) hx hb dX6_both5_12 rfl ?_
    refine lv_iconst (v := 0) (pc := 13) hx hb dX6_both5_13 rfl ?_
    refine lv_iconst (v := 0) (pc := 14) hx hb dX6_both5_14 rfl ?_
    refine lv_iconst (v := 0) (pc := 15) hx hb dX6_both5_15 rfl ?_
    refine lv_iconst (v := 0) (pc := 16) hx hb dX6_both5_16 rfl ?_
    refine callVI (G := (D, tysM cy, F)) (L := LM ad cy Rr) (pc := 17) (As := [.int 97, .int 110, .int 100, .int 0, .int 0, .int 0, .int 0, .int 0]) (rest := []) hF E cs0 hl hI (tX6_isWord hF hf) mwX6_200 (fitD (by decide)) (at6) rfl rfl rfl rfl (Nat.le_of_ble_eq_true rfl) dX6_both5_17 (fun r4 σ3 H locs hf hI => ?_)
    refine lv_if_eq (tgt := 49) (pc := 20) hx hb dX6_both5_20 (by decide) (fun c5 => ?_) (fun c5 => ?_)
    · have hf := hf.1 c5
      refine lv_iload_n (pc := 49) hx hb dX6_both5_49 rfl (lv_at hl 1 rfl) ?_
      exact rI (pc := 50) E hr hlk hI hf dX6_both5_50
    · have hf := hf.2 c5
      refine lv_aload_n (pc := 23) hx hb dX6_both5_23 rfl (lv_at hl 0 rfl) ?_
      refine callVV (G := (D, tysM cy, F)) (L := LM ad cy Rr) (pc := 24) (As := []) (rest := []) hF E cs0 hl hI (tX6_next hF hf) mwX6_197 (fitD (by decide)) (at6) rfl rfl rfl rfl (Nat.le_of_ble_eq_true rfl) dX6_both5_24 (fun σ6 H locs hf hI => ?_)
      refine lv_aload_n (pc := 27) hx hb dX6_both5_27 rfl (lv_at hl 0 rfl) ?_
      refine callVI (G := (D, tysM cy, F)) (L := LM ad cy Rr) (pc := 28) (As := []) (rest := []) hF E cs0 hl hI (tX6_not5 hF hf) mwX6_246 (fitD (by decide)) (at6) rfl rfl rfl rfl (Nat.le_of_ble_eq_true rfl) dX6_both5_28 (fun r8 σ7 H locs hf hI => ?_)
      refine lv_istore_n (lv' := [(2, .int r8), (0, .ref (ad 16 99)), (1, .int a1)]) (pc := 31) hx hb dX6_both5_31 rfl hl (by decide) rfl (fun ls hl => ?_)
      refine lv_iload_n (pc := 32) hx hb dX6_both5_32 rfl (lv_at hl 2 rfl) ?_
      refine lv_if_eq (tgt := 44) (pc := 33) hx hb dX6_both5_33 (by decide) (fun c9 => ?_) (fun c9 => ?_)
      · have hf := hf.1 c9
        exact bX6_both5_44 hF E hr hlk (fun _ _ _ _ _ hf hI hl => ih hf hI hl) hf hI (lv_sub hl [1] rfl)
      · have hf := hf.2 c9
        refine lv_iload_n (pc := 36) hx hb dX6_both5_36 rfl (lv_at hl 0 rfl) ?_
        refine lv_if_eq (tgt := 44) (pc := 37) hx hb dX6_both5_37 (by decide) (fun c10 => ?_) (fun c10 => ?_)
        · have hf := hf.1 c10
          exact bX6_both5_44 hF E hr hlk (fun _ _ _ _ _ hf hI hl => ih hf hI hl) hf hI (lv_sub hl [1] rfl)
        · have hf := hf.2 c10
          refine lv_iconst (v := 1) (pc := 40) hx hb dX6_both5_40 rfl ?_
          refine lv_goto (tgt := 45) (pc := 41) hx hb dX6_both5_41 (by decide) ?_
          exact bX6_both5_45 hF E hr hlk (fun _ _ _ _ _ hf hI hl => ih hf hI hl) hf hI (lv_sub hl [1] rfl)
def wX6_both5 (σ : St) (Q : Int32 → St → Prop) : Prop := wX6_not5 σ (fun r2 σ1 => ∃ n11 : Nat, wX6_both5_l5 n11 r2 σ1 Q)
set_option maxRecDepth 100000 in
set_option maxHeartbeats 4000000 in
theorem bX6_both5 {p : Program} {l : Launch} {e : Env} {s : State} {m : MethodId} {args : Array Value} {below : List Frame} {meth : Method} {c : Code} {H : Heap} {locs : List Loc} {ls : Array Slot} {D : va_G} {F : (Nat → Prop) → State → Prop} {A : Nat → Prop} {σ : St} {ad : Nat → Nat → Nat} {cy : Nat → ClassId} {Rr : va_W} {Q : Int32 → St → Prop} (hF : Stab F) (E : CallFix p m c cX6_both5 3 s args TB RX6) (hr : meth.sig.returnType = some .int) (hlk : meth.locks = false) (hf : wX6_both5 σ Q) (hI : In (D, tysM cy, F) (LM ad cy Rr σ) A s H locs) (hl : lv_has ls 3 [(0, .ref (ad 16 99))]) : W p l e (rmD 8) s m args below meth c H locs 0 0 (PI below args s (D, tysM cy, F) A (LM ad cy Rr) Q) (F0 m 0 ls []) := by
  have hx := E.1
  have hb := E.2.1
  unfold wX6_both5 at hf
  refine lv_aload_n (pc := 0) hx hb dX6_both5_0 rfl (lv_at hl 0 rfl) ?_
  refine callVI (G := (D, tysM cy, F)) (L := LM ad cy Rr) (pc := 1) (As := []) (rest := []) hF E cs0 hl hI (tX6_not5 hF hf) mwX6_246 (fitD (by decide)) (at6) rfl rfl rfl rfl (Nat.le_of_ble_eq_true rfl) dX6_both5_1 (fun r2 σ1 H locs hf hI => ?_)
  refine lv_istore_n (lv' := [(1, .int r2), (0, .ref (ad 16 99))]) (pc := 4) hx hb dX6_both5_4 rfl hl (by decide) rfl (fun ls hl => ?_)
  obtain ⟨n11, hf⟩ := hf
  exact bX6_both5_5 hF E hr hlk n11 hf hI (lv_sub hl [1, 0] rfl)
theorem tX6_both5 {l : Launch} {D : va_G} {F : (Nat → Prop) → State → Prop} {σ : St} {ad : Nat → Nat → Nat} {cy : Nat → ClassId} {Rr : va_W} {Q : Int32 → St → Prop} (hF : Stab F) (hf : wX6_both5 σ Q) : CtI l yX6_both5 cX6_both5 3 .int 8 (D, tysM cy, F) (LM ad cy Rr) [.ref (ad 16 99)] σ Q := mkI (by decide) (Nat.le_of_ble_eq_true rfl) (fun p e s m below meth c A E hr hlk hI ls hl => bX6_both5 hF E hr hlk hf hI hl)

def wX6_either5_j44 (s0 : Int32) (σ : St) (K : Int32 → St → Prop) (Q : Int32 → St → Prop) : Prop := (K s0 σ)
set_option maxRecDepth 100000 in
set_option maxHeartbeats 4000000 in
theorem bX6_either5_44 {p : Program} {l : Launch} {e : Env} {s : State} {m : MethodId} {args : Array Value} {below : List Frame} {meth : Method} {c : Code} {H : Heap} {locs : List Loc} {ls : Array Slot} {D : va_G} {F : (Nat → Prop) → State → Prop} {A : Nat → Prop} {σ : St} {ad : Nat → Nat → Nat} {cy : Nat → ClassId} {Rr : va_W} {Q : Int32 → St → Prop} {s0 : Int32} {K : Int32 → St → Prop} (hF : Stab F) (E : CallFix p m c cX6_either5 3 s args TB RX6) (hr : meth.sig.returnType = some .int) (hlk : meth.locks = false) (hK : ∀ (a1 : Int32) (σ : St) (H : Heap) (locs : List Loc) (ls : Array Slot), K a1 σ → In (D, tysM cy, F) (LM ad cy Rr σ) A s H locs → lv_has ls 3 [(0, .ref (ad 16 99)), (1, .int a1)] → W p l e (rmD 9) s m args below meth c H locs 0 0 (PI below args s (D, tysM cy, F) A (LM ad cy Rr) Q) (F0 m 5 ls [])) (hf : wX6_either5_j44 s0 σ K Q) (hI : In (D, tysM cy, F) (LM ad cy Rr σ) A s H locs) (hl : lv_has ls 3 [(0, .ref (ad 16 99))]) : W p l e (rmD 9) s m args below meth c H locs 0 0 (PI below args s (D, tysM cy, F) A (LM ad cy Rr) Q) (F0 m 44 ls [.int s0]) := by
  have hx := E.1
  have hb := E.2.1
  unfold wX6_either5_j44 at hf
  refine lv_istore_n (lv' := [(1, .int s0), (0, .ref (ad 16 99))]) (pc := 44) hx hb dX6_either5_44 rfl hl (by decide) rfl (fun ls hl => ?_)
  refine lv_goto (tgt := 5) (pc := 45) hx hb dX6_either5_45 (by decide) ?_
  exact hK _ _ _ _ _ hf hI (lv_sub hl [1, 0] rfl)
def wX6_either5_j39 (σ : St) (K : Int32 → St → Prop) (Q : Int32 → St → Prop) : Prop := (wX6_either5_j44 1 σ K Q)
set_option maxRecDepth 100000 in
set_option maxHeartbeats 4000000 in
theorem bX6_either5_39 {p : Program} {l : Launch} {e : Env} {s : State} {m : MethodId} {args : Array Value} {below : List Frame} {meth : Method} {c : Code} {H : Heap} {locs : List Loc} {ls : Array Slot} {D : va_G} {F : (Nat → Prop) → State → Prop} {A : Nat → Prop} {σ : St} {ad : Nat → Nat → Nat} {cy : Nat → ClassId} {Rr : va_W} {Q : Int32 → St → Prop} {K : Int32 → St → Prop} (hF : Stab F) (E : CallFix p m c cX6_either5 3 s args TB RX6) (hr : meth.sig.returnType = some .int) (hlk : meth.locks = false) (hK : ∀ (a1 : Int32) (σ : St) (H : Heap) (locs : List Loc) (ls : Array Slot), K a1 σ → In (D, tysM cy, F) (LM ad cy Rr σ) A s H locs → lv_has ls 3 [(0, .ref (ad 16 99)), (1, .int a1)] → W p l e (rmD 9) s m args below meth c H locs 0 0 (PI below args s (D, tysM cy, F) A (LM ad cy Rr) Q) (F0 m 5 ls [])) (hf : wX6_either5_j39 σ K Q) (hI : In (D, tysM cy, F) (LM ad cy Rr σ) A s H locs) (hl : lv_has ls 3 [(0, .ref (ad 16 99))]) : W p l e (rmD 9) s m args below meth c H locs 0 0 (PI below args s (D, tysM cy, F) A (LM ad cy Rr) Q) (F0 m 39 ls []) := by
  have hx := E.1
  have hb := E.2.1
  unfold wX6_either5_j39 at hf
  refine lv_iconst (v := 1) (pc := 39) hx hb dX6_either5_39 rfl ?_
  refine lv_goto (tgt := 44) (pc := 40) hx hb dX6_either5_40 (by decide) ?_
  exact bX6_either5_44 hF E hr hlk hK hf hI (lv_sub hl [0] rfl)
def wX6_either5_l5s (ih : Int32 → St → Prop) (a1 : Int32) (σ : St) (Q : Int32 → St → Prop) : Prop := wX6_isWord 111 114 0 0 0 0 0 0 σ (fun r4 σ3 => ((r4 = 0 → Q a1 σ3) ∧ (¬ r4 = 0 → wX6_next σ3 (fun σ6 => wX6_both5 σ6 (fun r8 σ7 => ((¬ a1 = 0 → (wX6_either5_j39 σ7 ih Q)) ∧ (a1 = 0 → ((r8 = 0 → (wX6_either5_j44 0 σ7 ih Q)) ∧ (¬ r8 = 0 → (wX6_either5_j39 σ7 ih Q))))))))))
def wX6_either5_l5 (n : Nat) : Int32 → St → (Int32 → St → Prop) → Prop := @Nat.rec (fun _ => Int32 → St → (Int32 → St → Prop) → Prop) (fun _ _ _ => False) (fun _ ih a1 σ Q => wX6_either5_l5s (fun a1 σ => ih a1 σ Q) a1 σ Q) n
set_option maxRecDepth 100000 in
set_option maxHeartbeats 4000000 in
theorem bX6_either5_5 {p : Program} {l : Launch} {e : Env} {s : State} {m : MethodId} {args : Array Value} {below : List Frame} {meth : Method} {c : Code} {D : va_G} {F : (Nat → Prop) → State → Prop} {A : Nat → Prop} {ad : Nat → Nat → Nat} {cy : Nat → ClassId} {Rr : va_W} {Q : Int32 → St → Prop} (hF : Stab F) (E : CallFix p m c cX6_either5 3 s args TB RX6) (hr : meth.sig.returnType = some .int) (hlk : meth.locks = false) : ∀ (n : Nat) {a1 : Int32} {σ : St} {H : Heap} {locs : List Loc} {ls : Array Slot}, wX6_either5_l5 n a1 σ Q → In (D, tysM cy, F) (LM ad cy Rr σ) A s H locs → lv_has ls 3 [(0, .ref (ad 16 99)), (1, .int a1)] → W p l e (rmD 9) s m args below meth c H locs 0 0 (PI below args s (D, tysM cy, F) A (LM ad cy Rr) Q) (F0 m 5 ls []) := by
  have hx := E.1
  have hb := E.2.1
  intro n
  induction n with
  | zero => intro a1 σ H locs ls hf hI hl; exact False.elim hf
  | succ n ih =>
    intro a1 σ H locs ls hf hI hl
    have hf : wX6_either5_l5s (fun a1 σ => wX6_either5_l5 n a1 σ Q) a1 σ Q := hf
    unfold wX6_either5_l5s at hf
    refine lv_aload_n (pc := 5) hx hb dX6_either5_5 rfl (lv_at hl 0 rfl) ?_
    refine lv_bipush (v := 111) (pc := 6) hx hb dX6_either5_6 rfl ?_
    refine lv_bipush (v := 114) (pc := 8) hx hb dX6_either5_8 rfl ?_
    refine lv_iconst (v := 0) (pc := 10) hx hb dX6_either5_10 rfl ?_
    refine lv_iconst (v := 0) (pc := 11) hx hb dX6_either5_11 rfl ?_
    refine lv_iconst (v := 0) (pc := 12) hx hb dX6_either5_12 rfl ?_
    refine lv_iconst (v := 0) (pc := 13) hx hb dX6_either5_13 rfl ?_
    refine lv_iconst (v := 0) (pc := 14) hx hb dX6_either5_14 rfl ?_
    refine lv_iconst (v := 0) (pc := 15) hx hb dX6_either5_15 rfl ?_
    refine callVI (G := (D, tysM cy, F)) (L := LM ad cy Rr) (pc := 16) (As := [.int 111, .int 114, .int 0, .int 0, .int 0, .int 0, .int 0, .int 0]) (rest := []) hF E cs0 hl hI (tX6_isWord hF hf) mwX6_200 (fitD (by decide)) (at6) rfl rfl rfl rfl (Nat.le_of_ble_eq_true rfl) dX6_either5_16 (fun r4 σ3 H locs hf hI => ?_)
    refine lv_if_eq (tgt := 48) (pc := 19) hx hb dX6_either5_19 (by decide) (fun c5 => ?_) (fun c5 => ?_)
    · have hf := hf.1 c5
      refine lv_iload_n (pc := 48) hx hb dX6_either5_48 rfl (lv_at hl 1 rfl) ?_
      exact rI (pc := 49) E hr hlk hI hf dX6_either5_49
    · have hf := hf.2 c5
      refine lv_aload_n (pc := 22) hx hb dX6_either5_22 rfl (lv_at hl 0 rfl) ?_
      refine callVV (G := (D, tysM cy, F)) (L := LM ad cy Rr) (pc := 23) (As := []) (rest := []) hF E cs0 hl hI (tX6_next hF hf) mwX6_197 (fitD (by decide)) (at6) rfl rfl rfl rfl (Nat.le_of_ble_eq_true rfl) dX6_either5_23 (fun σ6 H locs hf hI => ?_)
      refine lv_aload_n (pc := 26) hx hb dX6_either5_26 rfl (lv_at hl 0 rfl) ?_
      refine callVI (G := (D, tysM cy, F)) (L := LM ad cy Rr) (pc := 27) (As := []) (rest := []) hF E cs0 hl hI (tX6_both5 hF hf) mwX6_249 (fitD (by decide)) (at6) rfl rfl rfl rfl (Nat.le_of_ble_eq_true rfl) dX6_either5_27 (fun r8 σ7 H locs hf hI => ?_)
      refine lv_istore_n (lv' := [(2, .int r8), (0, .ref (ad 16 99)), (1, .int a1)]) (pc := 30) hx hb dX6_either5_30 rfl hl (by decide) rfl (fun ls hl => ?_)
      refine lv_iload_n (pc := 31) hx hb dX6_either5_31 rfl (lv_at hl 2 rfl) ?_
      refine lv_if_ne (tgt := 39) (pc := 32) hx hb dX6_either5_32 (by decide) (fun c9 => ?_) (fun c9 => ?_)
      · have hf := hf.1 c9
        exact bX6_either5_39 hF E hr hlk (fun _ _ _ _ _ hf hI hl => ih hf hI hl) hf hI (lv_sub hl [1] rfl)
      · have hf := hf.2 c9
        refine lv_iload_n (pc := 35) hx hb dX6_either5_35 rfl (lv_at hl 0 rfl) ?_
        refine lv_if_eq (tgt := 43) (pc := 36) hx hb dX6_either5_36 (by decide) (fun c10 => ?_) (fun c10 => ?_)
        · have hf := hf.1 c10
          refine lv_iconst (v := 0) (pc := 43) hx hb dX6_either5_43 rfl ?_
          exact bX6_either5_44 hF E hr hlk (fun _ _ _ _ _ hf hI hl => ih hf hI hl) hf hI (lv_sub hl [1] rfl)
        · have hf := hf.2 c10
          exact bX6_either5_39 hF E hr hlk (fun _ _ _ _ _ hf hI hl => ih hf hI hl) hf hI (lv_sub hl [1] rfl)
def wX6_either5 (σ : St) (Q : Int32 → St → Prop) : Prop := wX6_both5 σ (fun r2 σ1 => ∃ n11 : Nat, wX6_either5_l5 n11 r2 σ1 Q)
set_option maxRecDepth 100000 in
set_option maxHeartbeats 4000000 in
theorem bX6_either5 {p : Program} {l : Launch} {e : Env} {s : State} {m : MethodId} {args : Array Value} {below : List Frame} {meth : Method} {c : Code} {H : Heap} {locs : List Loc} {ls : Array Slot} {D : va_G} {F : (Nat → Prop) → State → Prop} {A : Nat → Prop} {σ : St} {ad : Nat → Nat → Nat} {cy : Nat → ClassId} {Rr : va_W} {Q : Int32 → St → Prop} (hF : Stab F) (E : CallFix p m c cX6_either5 3 s args TB RX6) (hr : meth.sig.returnType = some .int) (hlk : meth.locks = false) (hf : wX6_either5 σ Q) (hI : In (D, tysM cy, F) (LM ad cy Rr σ) A s H locs) (hl : lv_has ls 3 [(0, .ref (ad 16 99))]) : W p l e (rmD 9) s m args below meth c H locs 0 0 (PI below args s (D, tysM cy, F) A (LM ad cy Rr) Q) (F0 m 0 ls []) := by
  have hx := E.1
  have hb := E.2.1
  unfold wX6_either5 at hf
  refine lv_aload_n (pc := 0) hx hb dX6_either5_0 rfl (lv_at hl 0 rfl) ?_
  refine callVI (G := (D, tysM cy, F)) (L := LM ad cy Rr) (pc := 1) (As := []) (rest := []) hF E cs0 hl hI (tX6_both5 hF hf) mwX6_249 (fitD (by decide)) (at6) rfl rfl rfl rfl (Nat.le_of_ble_eq_true rfl) dX6_either5_1 (fun r2 σ1 H locs hf hI => ?_)
  refine lv_istore_n (lv' := [(1, .int r2), (0, .ref (ad 16 99))]) (pc := 4) hx hb dX6_either5_4 rfl hl (by decide) rfl (fun ls hl => ?_)
  obtain ⟨n11, hf⟩ := hf
  exact bX6_either5_5 hF E hr hlk n11 hf hI (lv_sub hl [1, 0] rfl)
theorem tX6_either5 {l : Launch} {D : va_G} {F : (Nat → Prop) → State → Prop} {σ : St} {ad : Nat → Nat → Nat} {cy : Nat → ClassId} {Rr : va_W} {Q : Int32 → St → Prop} (hF : Stab F) (hf : wX6_either5 σ Q) : CtI l yX6_either5 cX6_either5 3 .int 9 (D, tysM cy, F) (LM ad cy Rr) [.ref (ad 16 99)] σ Q := mkI (by decide) (Nat.le_of_ble_eq_true rfl) (fun p e s m below meth c A E hr hlk hI ls hl => bX6_either5 hF E hr hlk hf hI hl)

def wX6_atom4_j157 (a1 : Int32) (σ : St) (Q : Int32 → St → Prop) : Prop := wX6_fail σ (fun σ9 => Q a1 σ9)
set_option maxRecDepth 100000 in
set_option maxHeartbeats 4000000 in
theorem bX6_atom4_157 {p : Program} {l : Launch} {e : Env} {s : State} {m : MethodId} {args : Array Value} {below : List Frame} {meth : Method} {c : Code} {H : Heap} {locs : List Loc} {ls : Array Slot} {D : va_G} {F : (Nat → Prop) → State → Prop} {A : Nat → Prop} {σ : St} {ad : Nat → Nat → Nat} {cy : Nat → ClassId} {Rr : va_W} {Q : Int32 → St → Prop} {a1 : Int32} (hF : Stab F) (E : CallFix p m c cX6_atom4 2 s args TB RX6) (hr : meth.sig.returnType = some .int) (hlk : meth.locks = false) (hf : wX6_atom4_j157 a1 σ Q) (hI : In (D, tysM cy, F) (LM ad cy Rr σ) A s H locs) (hl : lv_has ls 2 [(0, .ref (ad 16 99)), (1, .int a1)]) : W p l e (rmD 10) s m args below meth c H locs 0 0 (PI below args s (D, tysM cy, F) A (LM ad cy Rr) Q) (F0 m 157 ls []) := by
  have hx := E.1
  have hb := E.2.1
  unfold wX6_atom4_j157 at hf
  refine lv_aload_n (pc := 157) hx hb dX6_atom4_157 rfl (lv_at hl 0 rfl) ?_
  refine callVV (G := (D, tysM cy, F)) (L := LM ad cy Rr) (pc := 158) (As := []) (rest := []) hF E cs0 hl hI (tX6_fail hF hf) mwX6_194 (fitD (by decide)) (at6) rfl rfl rfl rfl (Nat.le_of_ble_eq_true rfl) dX6_atom4_158 (fun σ9 H locs hf hI => ?_)
  refine lv_iload_n (pc := 161) hx hb dX6_atom4_161 rfl (lv_at hl 1 rfl) ?_
  exact rI (pc := 162) E hr hlk hI hf dX6_atom4_162
def wX6_atom4_j123 (a1 : Int32) (σ : St) (Q : Int32 → St → Prop) : Prop := ((¬ (gI σ 16 27) = 0 → (wX6_atom4_j157 a1 σ Q)) ∧ ((gI σ 16 27) = 0 → ((¬ (gI σ 16 23) = 1 → (wX6_atom4_j157 a1 σ Q)) ∧ ((gI σ 16 23) = 1 → wX6_name σ (fun r12 σ11 => ((¬ (gI σ11 16 27) = 0 → Q r12 σ11) ∧ ((gI σ11 16 27) = 0 → wX6_next σ11 (fun σ14 => Q r12 σ14))))))))
set_option maxRecDepth 100000 in
set_option maxHeartbeats 4000000 in
theorem bX6_atom4_123 {p : Program} {l : Launch} {e : Env} {s : State} {m : MethodId} {args : Array Value} {below : List Frame} {meth : Method} {c : Code} {H : Heap} {locs : List Loc} {ls : Array Slot} {D : va_G} {F : (Nat → Prop) → State → Prop} {A : Nat → Prop} {σ : St} {ad : Nat → Nat → Nat} {cy : Nat → ClassId} {Rr : va_W} {Q : Int32 → St → Prop} {a1 : Int32} (hF : Stab F) (E : CallFix p m c cX6_atom4 2 s args TB RX6) (hr : meth.sig.returnType = some .int) (hlk : meth.locks = false) (hf : wX6_atom4_j123 a1 σ Q) (hI : In (D, tysM cy, F) (LM ad cy Rr σ) A s H locs) (hl : lv_has ls 2 [(0, .ref (ad 16 99)), (1, .int a1)]) : W p l e (rmD 10) s m args below meth c H locs 0 0 (PI below args s (D, tysM cy, F) A (LM ad cy Rr) Q) (F0 m 123 ls []) := by
  have hx := E.1
  have hb := E.2.1
  unfold wX6_atom4_j123 at hf
  refine lv_aload_n (pc := 123) hx hb dX6_atom4_123 rfl (lv_at hl 0 rfl) ?_
  refine g6_27 (pc := 124) E hI lkX6_181 dX6_atom4_124 ?_
  refine lv_if_ne (tgt := 157) (pc := 127) hx hb dX6_atom4_127 (by decide) (fun c8 => ?_) (fun c8 => ?_)
  · have hf := hf.1 c8
    exact bX6_atom4_157 hF E hr hlk hf hI (lv_sub hl [0, 1] rfl)
  · have hf := hf.2 c8
    refine lv_aload_n (pc := 130) hx hb dX6_atom4_130 rfl (lv_at hl 0 rfl) ?_
    refine g6_23 (pc := 131) E hI lkX6_165 dX6_atom4_131 ?_
    refine lv_iconst (v := 1) (pc := 134) hx hb dX6_atom4_134 rfl ?_
    refine lv_icmp_ne (tgt := 157) (pc := 135) hx hb dX6_atom4_135 (by decide) (fun c10 => ?_) (fun c10 => ?_)
    · have hf := hf.1 c10
      exact bX6_atom4_157 hF E hr hlk hf hI (lv_sub hl [0, 1] rfl)
    · have hf := hf.2 c10
      refine lv_aload_n (pc := 138) hx hb dX6_atom4_138 rfl (lv_at hl 0 rfl) ?_
      refine callVI (G := (D, tysM cy, F)) (L := LM ad cy Rr) (pc := 139) (As := []) (rest := []) hF E cs0 hl hI (tX6_name hF hf) mwX6_229 (fitD (by decide)) (at6) rfl rfl rfl rfl (Nat.le_of_ble_eq_true rfl) dX6_atom4_139 (fun r12 σ11 H locs hf hI => ?_)
      refine lv_istore_n (lv' := [(1, .int r12), (0, .ref (ad 16 99))]) (pc := 142) hx hb dX6_atom4_142 rfl hl (by decide) rfl (fun ls hl => ?_)
      refine lv_aload_n (pc := 143) hx hb dX6_atom4_143 rfl (lv_at hl 1 rfl) ?_
      refine g6_27 (pc := 144) E hI lkX6_181 dX6_atom4_144 ?_
      refine lv_if_ne (tgt := 161) (pc := 147) hx hb dX6_atom4_147 (by decide) (fun c13 => ?_) (fun c13 => ?_)
      · have hf := hf.1 c13
        refine lv_iload_n (pc := 161) hx hb dX6_atom4_161 rfl (lv_at hl 0 rfl) ?_
        exact rI (pc := 162) E hr hlk hI hf dX6_atom4_162
      · have hf := hf.2 c13
        refine lv_aload_n (pc := 150) hx hb dX6_atom4_150 rfl (lv_at hl 1 rfl) ?_
        refine callVV (G := (D, tysM cy, F)) (L := LM ad cy Rr) (pc := 151) (As := []) (rest := []) hF E cs0 hl hI (tX6_next hF hf) mwX6_197 (fitD (by decide)) (at6) rfl rfl rfl rfl (Nat.le_of_ble_eq_true rfl) dX6_atom4_151 (fun σ14 H locs hf hI => ?_)
        refine lv_goto (tgt := 161) (pc := 154) hx hb dX6_atom4_154 (by decide) ?_
        refine lv_iload_n (pc := 161) hx hb dX6_atom4_161 rfl (lv_at hl 0 rfl) ?_
        exact rI (pc := 162) E hr hlk hI hf dX6_atom4_162
def wX6_atom4_j71 (a1 : Int32) (σ : St) (Q : Int32 → St → Prop) : Prop := ∀ σ26 : St, σ26 = sI σ 16 26 ((gI σ 16 26) - 1) → ((¬ (gI σ26 16 27) = 0 → Q a1 σ26) ∧ ((gI σ26 16 27) = 0 → wX6_next σ26 (fun σ28 => Q a1 σ28)))
set_option maxRecDepth 100000 in
set_option maxHeartbeats 4000000 in
theorem bX6_atom4_71 {p : Program} {l : Launch} {e : Env} {s : State} {m : MethodId} {args : Array Value} {below : List Frame} {meth : Method} {c : Code} {H : Heap} {locs : List Loc} {ls : Array Slot} {D : va_G} {F : (Nat → Prop) → State → Prop} {A : Nat → Prop} {σ : St} {ad : Nat → Nat → Nat} {cy : Nat → ClassId} {Rr : va_W} {Q : Int32 → St → Prop} {a1 : Int32} (hF : Stab F) (E : CallFix p m c cX6_atom4 2 s args TB RX6) (hr : meth.sig.returnType = some .int) (hlk : meth.locks = false) (hf : wX6_atom4_j71 a1 σ Q) (hI : In (D, tysM cy, F) (LM ad cy Rr σ) A s H locs) (hl : lv_has ls 2 [(0, .ref (ad 16 99)), (1, .int a1)]) : W p l e (rmD 10) s m args below meth c H locs 0 0 (PI below args s (D, tysM cy, F) A (LM ad cy Rr) Q) (F0 m 71 ls []) := by
  have hx := E.1
  have hb := E.2.1
  unfold wX6_atom4_j71 at hf
  refine lv_aload_n (pc := 71) hx hb dX6_atom4_71 rfl (lv_at hl 0 rfl) ?_
  refine lv_dup (pc := 72) hx hb dX6_atom4_72 rfl ?_
  refine g6_26 (pc := 73) E hI lkX6_191 dX6_atom4_73 ?_
  refine lv_iconst (v := 1) (pc := 76) hx hb dX6_atom4_76 rfl ?_
  refine lv_isub (pc := 77) hx hb dX6_atom4_77 ?_
  refine p6_26 (pc := 78) E hI lkX6_191 dX6_atom4_78 (fun H locs σ26 eσ26 hI => ?_)
  have hf := hf σ26 eσ26
  refine lv_aload_n (pc := 81) hx hb dX6_atom4_81 rfl (lv_at hl 0 rfl) ?_
  refine g6_27 (pc := 82) E hI lkX6_181 dX6_atom4_82 ?_
  refine lv_if_ne (tgt := 161) (pc := 85) hx hb dX6_atom4_85 (by decide) (fun c27 => ?_) (fun c27 => ?_)
  · have hf := hf.1 c27
    refine lv_iload_n (pc := 161) hx hb dX6_atom4_161 rfl (lv_at hl 1 rfl) ?_
    exact rI (pc := 162) E hr hlk hI hf dX6_atom4_162
  · have hf := hf.2 c27
    refine lv_aload_n (pc := 88) hx hb dX6_atom4_88 rfl (lv_at hl 0 rfl) ?_
    refine callVV (G := (D, tysM cy, F)) (L := LM ad cy Rr) (pc := 89) (As := []) (rest := []) hF E cs0 hl hI (tX6_next hF hf) mwX6_197 (fitD (by decide)) (at6) rfl rfl rfl rfl (Nat.le_of_ble_eq_true rfl) dX6_atom4_89 (fun σ28 H locs hf hI => ?_)
    refine lv_goto (tgt := 161) (pc := 92) hx hb dX6_atom4_92 (by decide) ?_
    refine lv_iload_n (pc := 161) hx hb dX6_atom4_161 rfl (lv_at hl 1 rfl) ?_
    exact rI (pc := 162) E hr hlk hI hf dX6_atom4_162
def wX6_atom4 (σ : St) (Q : Int32 → St → Prop) : Prop := wX6_isSign 45 σ (fun r2 σ1 => ((r2 = 0 → wX6_isSign 40 σ1 (fun r5 σ4 => ((r5 = 0 → ((¬ (gI σ4 16 27) = 0 → (wX6_atom4_j123 0 σ4 Q)) ∧ ((gI σ4 16 27) = 0 → ((¬ (gI σ4 16 23) = 2 → (wX6_atom4_j123 0 σ4 Q)) ∧ ((gI σ4 16 23) = 2 → ∀ x16 : Int32, x16 = (((gJ σ4 16 25)).toInt32) → wX6_next σ4 (fun σ17 => Q x16 σ17)))))) ∧ (¬ r5 = 0 → wX6_opens σ4 (fun r19 σ18 => ((r19 = 0 → Q 0 σ18) ∧ (¬ r19 = 0 → wX6_either5 σ18 (fun r22 σ21 => wX6_isSign 41 σ21 (fun r24 σ23 => ((¬ r24 = 0 → (wX6_atom4_j71 r22 σ23 Q)) ∧ (r24 = 0 → wX6_fail σ23 (fun σ29 => (wX6_atom4_j71 r22 σ29 Q))))))))))))) ∧ (¬ r2 = 0 → wX6_opens σ1 (fun r31 σ30 => ((r31 = 0 → Q 0 σ30) ∧ (¬ r31 = 0 → wX6_atom5 σ30 (fun r34 σ33 => ∀ x35 : Int32, x35 = (-r34) → ∀ σ36 : St, σ36 = sI σ33 16 26 ((gI σ33 16 26) - 1) → Q x35 σ36)))))))
set_option maxRecDepth 100000 in
set_option maxHeartbeats 4000000 in
theorem bX6_atom4 {p : Program} {l : Launch} {e : Env} {s : State} {m : MethodId} {args : Array Value} {below : List Frame} {meth : Method} {c : Code} {H : Heap} {locs : List Loc} {ls : Array Slot} {D : va_G} {F : (Nat → Prop) → State → Prop} {A : Nat → Prop} {σ : St} {ad : Nat → Nat → Nat} {cy : Nat → ClassId} {Rr : va_W} {Q : Int32 → St → Prop} (hF : Stab F) (E : CallFix p m c cX6_atom4 2 s args TB RX6) (hr : meth.sig.returnType = some .int) (hlk : meth.locks = false) (hf : wX6_atom4 σ Q) (hI : In (D, tysM cy, F) (LM ad cy Rr σ) A s H locs) (hl : lv_has ls 2 [(0, .ref (ad 16 99))]) : W p l e (rmD 10) s m args below meth c H locs 0 0 (PI below args s (D, tysM cy, F) A (LM ad cy Rr) Q) (F0 m 0 ls []) := by
  have hx := E.1
  have hb := E.2.1
  unfold wX6_atom4 at hf
  refine lv_iconst (v := 0) (pc := 0) hx hb dX6_atom4_0 rfl ?_
  refine lv_istore_n (lv' := [(1, .int 0), (0, .ref (ad 16 99))]) (pc := 1) hx hb dX6_atom4_1 rfl hl (by decide) rfl (fun ls hl => ?_)
  refine lv_aload_n (pc := 2) hx hb dX6_atom4_2 rfl (lv_at hl 1 rfl) ?_
  refine lv_bipush (v := 45) (pc := 3) hx hb dX6_atom4_3 rfl ?_
  refine callVI (G := (D, tysM cy, F)) (L := LM ad cy Rr) (pc := 5) (As := [.int 45]) (rest := []) hF E cs0 hl hI (tX6_isSign hF hf) mwX6_222 (fitD (by decide)) (at6) rfl rfl rfl rfl (Nat.le_of_ble_eq_true rfl) dX6_atom4_5 (fun r2 σ1 H locs hf hI => ?_)
  refine lv_if_eq (tgt := 37) (pc := 8) hx hb dX6_atom4_8 (by decide) (fun c3 => ?_) (fun c3 => ?_)
  · have hf := hf.1 c3
    refine lv_aload_n (pc := 37) hx hb dX6_atom4_37 rfl (lv_at hl 1 rfl) ?_
    refine lv_bipush (v := 40) (pc := 38) hx hb dX6_atom4_38 rfl ?_
    refine callVI (G := (D, tysM cy, F)) (L := LM ad cy Rr) (pc := 40) (As := [.int 40]) (rest := []) hF E cs0 hl hI (tX6_isSign hF hf) mwX6_222 (fitD (by decide)) (at6) rfl rfl rfl rfl (Nat.le_of_ble_eq_true rfl) dX6_atom4_40 (fun r5 σ4 H locs hf hI => ?_)
    refine lv_if_eq (tgt := 95) (pc := 43) hx hb dX6_atom4_43 (by decide) (fun c6 => ?_) (fun c6 => ?_)
    · have hf := hf.1 c6
      refine lv_aload_n (pc := 95) hx hb dX6_atom4_95 rfl (lv_at hl 1 rfl) ?_
      refine g6_27 (pc := 96) E hI lkX6_181 dX6_atom4_96 ?_
      refine lv_if_ne (tgt := 123) (pc := 99) hx hb dX6_atom4_99 (by decide) (fun c7 => ?_) (fun c7 => ?_)
      · have hf := hf.1 c7
        exact bX6_atom4_123 hF E hr hlk hf hI (lv_sub hl [1, 0] rfl)
      · have hf := hf.2 c7
        refine lv_aload_n (pc := 102) hx hb dX6_atom4_102 rfl (lv_at hl 1 rfl) ?_
        refine g6_23 (pc := 103) E hI lkX6_165 dX6_atom4_103 ?_
        refine lv_iconst (v := 2) (pc := 106) hx hb dX6_atom4_106 rfl ?_
        refine lv_icmp_ne (tgt := 123) (pc := 107) hx hb dX6_atom4_107 (by decide) (fun c15 => ?_) (fun c15 => ?_)
        · have hf := hf.1 c15
          exact bX6_atom4_123 hF E hr hlk hf hI (lv_sub hl [1, 0] rfl)
        · have hf := hf.2 c15
          refine lv_aload_n (pc := 110) hx hb dX6_atom4_110 rfl (lv_at hl 1 rfl) ?_
          refine g6_25 (pc := 111) E hI lkX6_176 dX6_atom4_111 ?_
          refine lv_l2i (v := (((gJ σ4 16 25)).toInt32)) (pc := 114) hx hb dX6_atom4_114 rfl ?_
          refine lv_topi (fun x16 ex16 => ?_)
          have hf := hf x16 ex16
          refine lv_istore_n (lv' := [(1, .int x16), (0, .ref (ad 16 99))]) (pc := 115) hx hb dX6_atom4_115 rfl hl (by decide) rfl (fun ls hl => ?_)
          refine lv_aload_n (pc := 116) hx hb dX6_atom4_116 rfl (lv_at hl 1 rfl) ?_
          refine callVV (G := (D, tysM cy, F)) (L := LM ad cy Rr) (pc := 117) (As := []) (rest := []) hF E cs0 hl hI (tX6_next hF hf) mwX6_197 (fitD (by decide)) (at6) rfl rfl rfl rfl (Nat.le_of_ble_eq_true rfl) dX6_atom4_117 (fun σ17 H locs hf hI => ?_)
          refine lv_goto (tgt := 161) (pc := 120) hx hb dX6_atom4_120 (by decide) ?_
          refine lv_iload_n (pc := 161) hx hb dX6_atom4_161 rfl (lv_at hl 0 rfl) ?_
          exact rI (pc := 162) E hr hlk hI hf dX6_atom4_162
    · have hf := hf.2 c6
      refine lv_aload_n (pc := 46) hx hb dX6_atom4_46 rfl (lv_at hl 1 rfl) ?_
      refine callVI (G := (D, tysM cy, F)) (L := LM ad cy Rr) (pc := 47) (As := []) (rest := []) hF E cs0 hl hI (tX6_opens hF hf) mwX6_225 (fitD (by decide)) (at6) rfl rfl rfl rfl (Nat.le_of_ble_eq_true rfl) dX6_atom4_47 (fun r19 σ18 H locs hf hI => ?_)
      refine lv_if_eq (tgt := 161) (pc := 50) hx hb dX6_atom4_50 (by decide) (fun c20 => ?_) (fun c20 => ?_)
      · have hf := hf.1 c20
        refine lv_iload_n (pc := 161) hx hb dX6_atom4_161 rfl (lv_at hl 0 rfl) ?_
        exact rI (pc := 162) E hr hlk hI hf dX6_atom4_162
      · have hf := hf.2 c20
        refine lv_aload_n (pc := 53) hx hb dX6_atom4_53 rfl (lv_at hl 1 rfl) ?_
        refine callVI (G := (D, tysM cy, F)) (L := LM ad cy Rr) (pc := 54) (As := []) (rest := []) hF E cs0 hl hI (tX6_either5 hF hf) mwX6_252 (fitD (by decide)) (at6) rfl rfl rfl rfl (Nat.le_of_ble_eq_true rfl) dX6_atom4_54 (fun r22 σ21 H locs hf hI => ?_)
        refine lv_istore_n (lv' := [(1, .int r22), (0, .ref (ad 16 99))]) (pc := 57) hx hb dX6_atom4_57 rfl hl (by decide) rfl (fun ls hl => ?_)
        refine lv_aload_n (pc := 58) hx hb dX6_atom4_58 rfl (lv_at hl 1 rfl) ?_
        refine lv_bipush (v := 41) (pc := 59) hx hb dX6_atom4_59 rfl ?_
        refine callVI (G := (D, tysM cy, F)) (L := LM ad cy Rr) (pc := 61) (As := [.int 41]) (rest := []) hF E cs0 hl hI (tX6_isSign hF hf) mwX6_222 (fitD (by decide)) (at6) rfl rfl rfl rfl (Nat.le_of_ble_eq_true rfl) dX6_atom4_61 (fun r24 σ23 H locs hf hI => ?_)
        refine lv_if_ne (tgt := 71) (pc := 64) hx hb dX6_atom4_64 (by decide) (fun c25 => ?_) (fun c25 => ?_)
        · have hf := hf.1 c25
          exact bX6_atom4_71 hF E hr hlk hf hI (lv_sub hl [1, 0] rfl)
        · have hf := hf.2 c25
          refine lv_aload_n (pc := 67) hx hb dX6_atom4_67 rfl (lv_at hl 1 rfl) ?_
          refine callVV (G := (D, tysM cy, F)) (L := LM ad cy Rr) (pc := 68) (As := []) (rest := []) hF E cs0 hl hI (tX6_fail hF hf) mwX6_194 (fitD (by decide)) (at6) rfl rfl rfl rfl (Nat.le_of_ble_eq_true rfl) dX6_atom4_68 (fun σ29 H locs hf hI => ?_)
          exact bX6_atom4_71 hF E hr hlk hf hI (lv_sub hl [1, 0] rfl)
  · have hf := hf.2 c3
    refine lv_aload_n (pc := 11) hx hb dX6_atom4_11 rfl (lv_at hl 1 rfl) ?_
    refine callVI (G := (D, tysM cy, F)) (L := LM ad cy Rr) (pc := 12) (As := []) (rest := []) hF E cs0 hl hI (tX6_opens hF hf) mwX6_225 (fitD (by decide)) (at6) rfl rfl rfl rfl (Nat.le_of_ble_eq_true rfl) dX6_atom4_12 (fun r31 σ30 H locs hf hI => ?_)
    refine lv_if_eq (tgt := 161) (pc := 15) hx hb dX6_atom4_15 (by decide) (fun c32 => ?_) (fun c32 => ?_)
    · have hf := hf.1 c32
      refine lv_iload_n (pc := 161) hx hb dX6_atom4_161 rfl (lv_at hl 0 rfl) ?_
      exact rI (pc := 162) E hr hlk hI hf dX6_atom4_162
    · have hf := hf.2 c32
      refine lv_aload_n (pc := 18) hx hb dX6_atom4_18 rfl (lv_at hl 1 rfl) ?_
      refine callVI (G := (D, tysM cy, F)) (L := LM ad cy Rr) (pc := 19) (As := []) (rest := []) hF E cs0 hl hI (tX6_atom5 hF hf) mwX6_233 (fitD (by decide)) (at6) rfl rfl rfl rfl (Nat.le_of_ble_eq_true rfl) dX6_atom4_19 (fun r34 σ33 H locs hf hI => ?_)
      refine lv_ineg (pc := 22) hx hb dX6_atom4_22 ?_
      refine lv_topi (fun x35 ex35 => ?_)
      have hf := hf x35 ex35
      refine lv_istore_n (lv' := [(1, .int x35), (0, .ref (ad 16 99))]) (pc := 23) hx hb dX6_atom4_23 rfl hl (by decide) rfl (fun ls hl => ?_)
      refine lv_aload_n (pc := 24) hx hb dX6_atom4_24 rfl (lv_at hl 1 rfl) ?_
      refine lv_dup (pc := 25) hx hb dX6_atom4_25 rfl ?_
      refine g6_26 (pc := 26) E hI lkX6_191 dX6_atom4_26 ?_
      refine lv_iconst (v := 1) (pc := 29) hx hb dX6_atom4_29 rfl ?_
      refine lv_isub (pc := 30) hx hb dX6_atom4_30 ?_
      refine p6_26 (pc := 31) E hI lkX6_191 dX6_atom4_31 (fun H locs σ36 eσ36 hI => ?_)
      have hf := hf σ36 eσ36
      refine lv_goto (tgt := 161) (pc := 34) hx hb dX6_atom4_34 (by decide) ?_
      refine lv_iload_n (pc := 161) hx hb dX6_atom4_161 rfl (lv_at hl 0 rfl) ?_
      exact rI (pc := 162) E hr hlk hI hf dX6_atom4_162
theorem tX6_atom4 {l : Launch} {D : va_G} {F : (Nat → Prop) → State → Prop} {σ : St} {ad : Nat → Nat → Nat} {cy : Nat → ClassId} {Rr : va_W} {Q : Int32 → St → Prop} (hF : Stab F) (hf : wX6_atom4 σ Q) : CtI l yX6_atom4 cX6_atom4 2 .int 10 (D, tysM cy, F) (LM ad cy Rr) [.ref (ad 16 99)] σ Q := mkI (by decide) (Nat.le_of_ble_eq_true rfl) (fun p e s m below meth c A E hr hlk hI ls hl => bX6_atom4 hF E hr hlk hf hI hl)

def wX6_term4_l5s (ih : Int32 → St → Prop) (a1 : Int32) (σ : St) (Q : Int32 → St → Prop) : Prop := wX6_isSign 42 σ (fun r4 σ3 => ((r4 = 0 → Q a1 σ3) ∧ (¬ r4 = 0 → wX6_next σ3 (fun σ6 => wX6_atom4 σ6 (fun r8 σ7 => ∀ x9 : Int32, x9 = (a1 * r8) → (ih x9 σ7))))))
def wX6_term4_l5 (n : Nat) : Int32 → St → (Int32 → St → Prop) → Prop := @Nat.rec (fun _ => Int32 → St → (Int32 → St → Prop) → Prop) (fun _ _ _ => False) (fun _ ih a1 σ Q => wX6_term4_l5s (fun a1 σ => ih a1 σ Q) a1 σ Q) n
set_option maxRecDepth 100000 in
set_option maxHeartbeats 4000000 in
theorem bX6_term4_5 {p : Program} {l : Launch} {e : Env} {s : State} {m : MethodId} {args : Array Value} {below : List Frame} {meth : Method} {c : Code} {D : va_G} {F : (Nat → Prop) → State → Prop} {A : Nat → Prop} {ad : Nat → Nat → Nat} {cy : Nat → ClassId} {Rr : va_W} {Q : Int32 → St → Prop} (hF : Stab F) (E : CallFix p m c cX6_term4 2 s args TB RX6) (hr : meth.sig.returnType = some .int) (hlk : meth.locks = false) : ∀ (n : Nat) {a1 : Int32} {σ : St} {H : Heap} {locs : List Loc} {ls : Array Slot}, wX6_term4_l5 n a1 σ Q → In (D, tysM cy, F) (LM ad cy Rr σ) A s H locs → lv_has ls 2 [(0, .ref (ad 16 99)), (1, .int a1)] → W p l e (rmD 11) s m args below meth c H locs 0 0 (PI below args s (D, tysM cy, F) A (LM ad cy Rr) Q) (F0 m 5 ls []) := by
  have hx := E.1
  have hb := E.2.1
  intro n
  induction n with
  | zero => intro a1 σ H locs ls hf hI hl; exact False.elim hf
  | succ n ih =>
    intro a1 σ H locs ls hf hI hl
    have hf : wX6_term4_l5s (fun a1 σ => wX6_term4_l5 n a1 σ Q) a1 σ Q := hf
    unfold wX6_term4_l5s at hf
    refine lv_aload_n (pc := 5) hx hb dX6_term4_5 rfl (lv_at hl 0 rfl) ?_
    refine lv_bipush (v := 42) (pc := 6) hx hb dX6_term4_6 rfl ?_
    refine callVI (G := (D, tysM cy, F)) (L := LM ad cy Rr) (pc := 8) (As := [.int 42]) (rest := []) hF E cs0 hl hI (tX6_isSign hF hf) mwX6_222 (fitD (by decide)) (at6) rfl rfl rfl rfl (Nat.le_of_ble_eq_true rfl) dX6_term4_8 (fun r4 σ3 H locs hf hI => ?_)
    refine lv_if_eq (tgt := 28) (pc := 11) hx hb dX6_term4_11 (by decide) (fun c5 => ?_) (fun c5 => ?_)
    · have hf := hf.1 c5
      refine lv_iload_n (pc := 28) hx hb dX6_term4_28 rfl (lv_at hl 1 rfl) ?_
      exact rI (pc := 29) E hr hlk hI hf dX6_term4_29
    · have hf := hf.2 c5
      refine lv_aload_n (pc := 14) hx hb dX6_term4_14 rfl (lv_at hl 0 rfl) ?_
      refine callVV (G := (D, tysM cy, F)) (L := LM ad cy Rr) (pc := 15) (As := []) (rest := []) hF E cs0 hl hI (tX6_next hF hf) mwX6_197 (fitD (by decide)) (at6) rfl rfl rfl rfl (Nat.le_of_ble_eq_true rfl) dX6_term4_15 (fun σ6 H locs hf hI => ?_)
      refine lv_iload_n (pc := 18) hx hb dX6_term4_18 rfl (lv_at hl 1 rfl) ?_
      refine lv_aload_n (pc := 19) hx hb dX6_term4_19 rfl (lv_at hl 0 rfl) ?_
      refine callVI (G := (D, tysM cy, F)) (L := LM ad cy Rr) (pc := 20) (As := []) (rest := [.int a1]) hF E cs0 hl hI (tX6_atom4 hF hf) mwX6_255 (fitD (by decide)) (at6) rfl rfl rfl rfl (Nat.le_of_ble_eq_true rfl) dX6_term4_20 (fun r8 σ7 H locs hf hI => ?_)
      refine lv_imul (pc := 23) hx hb dX6_term4_23 ?_
      refine lv_topi (fun x9 ex9 => ?_)
      have hf := hf x9 ex9
      refine lv_istore_n (lv' := [(1, .int x9), (0, .ref (ad 16 99))]) (pc := 24) hx hb dX6_term4_24 rfl hl (by decide) rfl (fun ls hl => ?_)
      refine lv_goto (tgt := 5) (pc := 25) hx hb dX6_term4_25 (by decide) ?_
      exact ih hf hI (lv_sub hl [1, 0] rfl)
def wX6_term4 (σ : St) (Q : Int32 → St → Prop) : Prop := wX6_atom4 σ (fun r2 σ1 => ∃ n10 : Nat, wX6_term4_l5 n10 r2 σ1 Q)
set_option maxRecDepth 100000 in
set_option maxHeartbeats 4000000 in
theorem bX6_term4 {p : Program} {l : Launch} {e : Env} {s : State} {m : MethodId} {args : Array Value} {below : List Frame} {meth : Method} {c : Code} {H : Heap} {locs : List Loc} {ls : Array Slot} {D : va_G} {F : (Nat → Prop) → State → Prop} {A : Nat → Prop} {σ : St} {ad : Nat → Nat → Nat} {cy : Nat → ClassId} {Rr : va_W} {Q : Int32 → St → Prop} (hF : Stab F) (E : CallFix p m c cX6_term4 2 s args TB RX6) (hr : meth.sig.returnType = some .int) (hlk : meth.locks = false) (hf : wX6_term4 σ Q) (hI : In (D, tysM cy, F) (LM ad cy Rr σ) A s H locs) (hl : lv_has ls 2 [(0, .ref (ad 16 99))]) : W p l e (rmD 11) s m args below meth c H locs 0 0 (PI below args s (D, tysM cy, F) A (LM ad cy Rr) Q) (F0 m 0 ls []) := by
  have hx := E.1
  have hb := E.2.1
  unfold wX6_term4 at hf
  refine lv_aload_n (pc := 0) hx hb dX6_term4_0 rfl (lv_at hl 0 rfl) ?_
  refine callVI (G := (D, tysM cy, F)) (L := LM ad cy Rr) (pc := 1) (As := []) (rest := []) hF E cs0 hl hI (tX6_atom4 hF hf) mwX6_255 (fitD (by decide)) (at6) rfl rfl rfl rfl (Nat.le_of_ble_eq_true rfl) dX6_term4_1 (fun r2 σ1 H locs hf hI => ?_)
  refine lv_istore_n (lv' := [(1, .int r2), (0, .ref (ad 16 99))]) (pc := 4) hx hb dX6_term4_4 rfl hl (by decide) rfl (fun ls hl => ?_)
  obtain ⟨n10, hf⟩ := hf
  exact bX6_term4_5 hF E hr hlk n10 hf hI (lv_sub hl [1, 0] rfl)
theorem tX6_term4 {l : Launch} {D : va_G} {F : (Nat → Prop) → State → Prop} {σ : St} {ad : Nat → Nat → Nat} {cy : Nat → ClassId} {Rr : va_W} {Q : Int32 → St → Prop} (hF : Stab F) (hf : wX6_term4 σ Q) : CtI l yX6_term4 cX6_term4 2 .int 11 (D, tysM cy, F) (LM ad cy Rr) [.ref (ad 16 99)] σ Q := mkI (by decide) (Nat.le_of_ble_eq_true rfl) (fun p e s m below meth c A E hr hlk hI ls hl => bX6_term4 hF E hr hlk hf hI hl)

def wX6_added4_j62 (s0 : Int32) (σ : St) (K : Int32 → St → Prop) (Q : Int32 → St → Prop) : Prop := (K s0 σ)
set_option maxRecDepth 100000 in
set_option maxHeartbeats 4000000 in
theorem bX6_added4_62 {p : Program} {l : Launch} {e : Env} {s : State} {m : MethodId} {args : Array Value} {below : List Frame} {meth : Method} {c : Code} {H : Heap} {locs : List Loc} {ls : Array Slot} {D : va_G} {F : (Nat → Prop) → State → Prop} {A : Nat → Prop} {σ : St} {ad : Nat → Nat → Nat} {cy : Nat → ClassId} {Rr : va_W} {Q : Int32 → St → Prop} {s0 : Int32} {K : Int32 → St → Prop} (hF : Stab F) (E : CallFix p m c cX6_added4 4 s args TB RX6) (hr : meth.sig.returnType = some .int) (hlk : meth.locks = false) (hK : ∀ (a1 : Int32) (σ : St) (H : Heap) (locs : List Loc) (ls : Array Slot), K a1 σ → In (D, tysM cy, F) (LM ad cy Rr σ) A s H locs → lv_has ls 4 [(0, .ref (ad 16 99)), (1, .int a1)] → W p l e (rmD 12) s m args below meth c H locs 0 0 (PI below args s (D, tysM cy, F) A (LM ad cy Rr) Q) (F0 m 5 ls [])) (hf : wX6_added4_j62 s0 σ K Q) (hI : In (D, tysM cy, F) (LM ad cy Rr σ) A s H locs) (hl : lv_has ls 4 [(0, .ref (ad 16 99))]) : W p l e (rmD 12) s m args below meth c H locs 0 0 (PI below args s (D, tysM cy, F) A (LM ad cy Rr) Q) (F0 m 62 ls [.int s0]) := by
  have hx := E.1
  have hb := E.2.1
  unfold wX6_added4_j62 at hf
  refine lv_istore_n (lv' := [(1, .int s0), (0, .ref (ad 16 99))]) (pc := 62) hx hb dX6_added4_62 rfl hl (by decide) rfl (fun ls hl => ?_)
  refine lv_goto (tgt := 5) (pc := 63) hx hb dX6_added4_63 (by decide) ?_
  exact hK _ _ _ _ _ hf hI (lv_sub hl [1, 0] rfl)
def wX6_added4_j39 (a1 : Int32) (s0 : Int32) (σ : St) (K : Int32 → St → Prop) (Q : Int32 → St → Prop) : Prop := wX6_next σ (fun σ7 => wX6_term4 σ7 (fun r9 σ8 => ((s0 = 0 → (wX6_added4_j62 (a1 - r9) σ8 K Q)) ∧ (¬ s0 = 0 → (wX6_added4_j62 (a1 + r9) σ8 K Q)))))
set_option maxRecDepth 100000 in
set_option maxHeartbeats 4000000 in
theorem bX6_added4_39 {p : Program} {l : Launch} {e : Env} {s : State} {m : MethodId} {args : Array Value} {below : List Frame} {meth : Method} {c : Code} {H : Heap} {locs : List Loc} {ls : Array Slot} {D : va_G} {F : (Nat → Prop) → State → Prop} {A : Nat → Prop} {σ : St} {ad : Nat → Nat → Nat} {cy : Nat → ClassId} {Rr : va_W} {Q : Int32 → St → Prop} {a1 : Int32} {s0 : Int32} {K : Int32 → St → Prop} (hF : Stab F) (E : CallFix p m c cX6_added4 4 s args TB RX6) (hr : meth.sig.returnType = some .int) (hlk : meth.locks = false) (hK : ∀ (a1 : Int32) (σ : St) (H : Heap) (locs : List Loc) (ls : Array Slot), K a1 σ → In (D, tysM cy, F) (LM ad cy Rr σ) A s H locs → lv_has ls 4 [(0, .ref (ad 16 99)), (1, .int a1)] → W p l e (rmD 12) s m args below meth c H locs 0 0 (PI below args s (D, tysM cy, F) A (LM ad cy Rr) Q) (F0 m 5 ls [])) (hf : wX6_added4_j39 a1 s0 σ K Q) (hI : In (D, tysM cy, F) (LM ad cy Rr σ) A s H locs) (hl : lv_has ls 4 [(0, .ref (ad 16 99)), (1, .int a1)]) : W p l e (rmD 12) s m args below meth c H locs 0 0 (PI below args s (D, tysM cy, F) A (LM ad cy Rr) Q) (F0 m 39 ls [.int s0]) := by
  have hx := E.1
  have hb := E.2.1
  unfold wX6_added4_j39 at hf
  refine lv_istore_n (lv' := [(2, .int s0), (0, .ref (ad 16 99)), (1, .int a1)]) (pc := 39) hx hb dX6_added4_39 rfl hl (by decide) rfl (fun ls hl => ?_)
  refine lv_aload_n (pc := 40) hx hb dX6_added4_40 rfl (lv_at hl 1 rfl) ?_
  refine callVV (G := (D, tysM cy, F)) (L := LM ad cy Rr) (pc := 41) (As := []) (rest := []) hF E cs0 hl hI (tX6_next hF hf) mwX6_197 (fitD (by decide)) (at6) rfl rfl rfl rfl (Nat.le_of_ble_eq_true rfl) dX6_added4_41 (fun σ7 H locs hf hI => ?_)
  refine lv_aload_n (pc := 44) hx hb dX6_added4_44 rfl (lv_at hl 1 rfl) ?_
  refine callVI (G := (D, tysM cy, F)) (L := LM ad cy Rr) (pc := 45) (As := []) (rest := []) hF E cs0 hl hI (tX6_term4 hF hf) mwX6_258 (fitD (by decide)) (at6) rfl rfl rfl rfl (Nat.le_of_ble_eq_true rfl) dX6_added4_45 (fun r9 σ8 H locs hf hI => ?_)
  refine lv_istore_n (lv' := [(3, .int r9), (2, .int s0), (0, .ref (ad 16 99)), (1, .int a1)]) (pc := 48) hx hb dX6_added4_48 rfl hl (by decide) rfl (fun ls hl => ?_)
  refine lv_iload_n (pc := 49) hx hb dX6_added4_49 rfl (lv_at hl 1 rfl) ?_
  refine lv_if_eq (tgt := 59) (pc := 50) hx hb dX6_added4_50 (by decide) (fun c10 => ?_) (fun c10 => ?_)
  · have hf := hf.1 c10
    refine lv_iload_n (pc := 59) hx hb dX6_added4_59 rfl (lv_at hl 3 rfl) ?_
    refine lv_iload_n (pc := 60) hx hb dX6_added4_60 rfl (lv_at hl 0 rfl) ?_
    refine lv_isub (pc := 61) hx hb dX6_added4_61 ?_
    exact bX6_added4_62 hF E hr hlk hK hf hI (lv_sub hl [2] rfl)
  · have hf := hf.2 c10
    refine lv_iload_n (pc := 53) hx hb dX6_added4_53 rfl (lv_at hl 3 rfl) ?_
    refine lv_iload_n (pc := 54) hx hb dX6_added4_54 rfl (lv_at hl 0 rfl) ?_
    refine lv_iadd (pc := 55) hx hb dX6_added4_55 ?_
    refine lv_goto (tgt := 62) (pc := 56) hx hb dX6_added4_56 (by decide) ?_
    exact bX6_added4_62 hF E hr hlk hK hf hI (lv_sub hl [2] rfl)
def wX6_added4_j23 (a1 : Int32) (σ : St) (K : Int32 → St → Prop) (Q : Int32 → St → Prop) : Prop := ((¬ (lg_cmp (gJ σ 16 25) 43) = 0 → (wX6_added4_j39 a1 0 σ K Q)) ∧ ((lg_cmp (gJ σ 16 25) 43) = 0 → (wX6_added4_j39 a1 1 σ K Q)))
set_option maxRecDepth 100000 in
set_option maxHeartbeats 4000000 in
theorem bX6_added4_23 {p : Program} {l : Launch} {e : Env} {s : State} {m : MethodId} {args : Array Value} {below : List Frame} {meth : Method} {c : Code} {H : Heap} {locs : List Loc} {ls : Array Slot} {D : va_G} {F : (Nat → Prop) → State → Prop} {A : Nat → Prop} {σ : St} {ad : Nat → Nat → Nat} {cy : Nat → ClassId} {Rr : va_W} {Q : Int32 → St → Prop} {a1 : Int32} {K : Int32 → St → Prop} (hF : Stab F) (E : CallFix p m c cX6_added4 4 s args TB RX6) (hr : meth.sig.returnType = some .int) (hlk : meth.locks = false) (hK : ∀ (a1 : Int32) (σ : St) (H : Heap) (locs : List Loc) (ls : Array Slot), K a1 σ → In (D, tysM cy, F) (LM ad cy Rr σ) A s H locs → lv_has ls 4 [(0, .ref (ad 16 99)), (1, .int a1)] → W p l e (rmD 12) s m args below meth c H locs 0 0 (PI below args s (D, tysM cy, F) A (LM ad cy Rr) Q) (F0 m 5 ls [])) (hf : wX6_added4_j23 a1 σ K Q) (hI : In (D, tysM cy, F) (LM ad cy Rr σ) A s H locs) (hl : lv_has ls 4 [(0, .ref (ad 16 99)), (1, .int a1)]) : W p l e (rmD 12) s m args below meth c H locs 0 0 (PI below args s (D, tysM cy, F) A (LM ad cy Rr) Q) (F0 m 23 ls []) := by
  have hx := E.1
  have hb := E.2.1
  unfold wX6_added4_j23 at hf
  refine lv_aload_n (pc := 23) hx hb dX6_added4_23 rfl (lv_at hl 0 rfl) ?_
  refine g6_25 (pc := 24) E hI lkX6_176 dX6_added4_24 ?_
  refine lv_ldc2 (pc := 27) E.1 E.2.1 E.2.2.2.1 (E.2.2.2.2 _ kcX6_239) dX6_added4_27 ?_
  refine W.lcmp (pc := 30) hx hb dX6_added4_30 ?_
  refine lv_if_ne (tgt := 38) (pc := 31) hx hb dX6_added4_31 (by decide) (fun c6 => ?_) (fun c6 => ?_)
  · have hf := hf.1 c6
    refine lv_iconst (v := 0) (pc := 38) hx hb dX6_added4_38 rfl ?_
    exact bX6_added4_39 hF E hr hlk hK hf hI (lv_sub hl [0, 1] rfl)
  · have hf := hf.2 c6
    refine lv_iconst (v := 1) (pc := 34) hx hb dX6_added4_34 rfl ?_
    refine lv_goto (tgt := 39) (pc := 35) hx hb dX6_added4_35 (by decide) ?_
    exact bX6_added4_39 hF E hr hlk hK hf hI (lv_sub hl [0, 1] rfl)
def wX6_added4_l5s (ih : Int32 → St → Prop) (a1 : Int32) (σ : St) (Q : Int32 → St → Prop) : Prop := wX6_isSign 43 σ (fun r4 σ3 => ((¬ r4 = 0 → (wX6_added4_j23 a1 σ3 ih Q)) ∧ (r4 = 0 → wX6_isSign 45 σ3 (fun r12 σ11 => ((r12 = 0 → Q a1 σ11) ∧ (¬ r12 = 0 → (wX6_added4_j23 a1 σ11 ih Q)))))))
def wX6_added4_l5 (n : Nat) : Int32 → St → (Int32 → St → Prop) → Prop := @Nat.rec (fun _ => Int32 → St → (Int32 → St → Prop) → Prop) (fun _ _ _ => False) (fun _ ih a1 σ Q => wX6_added4_l5s (fun a1 σ => ih a1 σ Q) a1 σ Q) n
set_option maxRecDepth 100000 in
set_option maxHeartbeats 4000000 in
theorem bX6_added4_5 {p : Program} {l : Launch} {e : Env} {s : State} {m : MethodId} {args : Array Value} {below : List Frame} {meth : Method} {c : Code} {D : va_G} {F : (Nat → Prop) → State → Prop} {A : Nat → Prop} {ad : Nat → Nat → Nat} {cy : Nat → ClassId} {Rr : va_W} {Q : Int32 → St → Prop} (hF : Stab F) (E : CallFix p m c cX6_added4 4 s args TB RX6) (hr : meth.sig.returnType = some .int) (hlk : meth.locks = false) : ∀ (n : Nat) {a1 : Int32} {σ : St} {H : Heap} {locs : List Loc} {ls : Array Slot}, wX6_added4_l5 n a1 σ Q → In (D, tysM cy, F) (LM ad cy Rr σ) A s H locs → lv_has ls 4 [(0, .ref (ad 16 99)), (1, .int a1)] → W p l e (rmD 12) s m args below meth c H locs 0 0 (PI below args s (D, tysM cy, F) A (LM ad cy Rr) Q) (F0 m 5 ls []) := by
  have hx := E.1
  have hb := E.2.1
  intro n
  induction n with
  | zero => intro a1 σ H locs ls hf hI hl; exact False.elim hf
  | succ n ih =>
    intro a1 σ H locs ls hf hI hl
    have hf : wX6_added4_l5s (fun a1 σ => wX6_added4_l5 n a1 σ Q) a1 σ Q := hf
    unfold wX6_added4_l5s at hf
    refine lv_aload_n (pc := 5) hx hb dX6_added4_5 rfl (lv_at hl 0 rfl) ?_
    refine lv_bipush (v := 43) (pc := 6) hx hb dX6_added4_6 rfl ?_
    refine callVI (G := (D, tysM cy, F)) (L := LM ad cy Rr) (pc := 8) (As := [.int 43]) (rest := []) hF E cs0 hl hI (tX6_isSign hF hf) mwX6_222 (fitD (by decide)) (at6) rfl rfl rfl rfl (Nat.le_of_ble_eq_true rfl) dX6_added4_8 (fun r4 σ3 H locs hf hI => ?_)
    refine lv_if_ne (tgt := 23) (pc := 11) hx hb dX6_added4_11 (by decide) (fun c5 => ?_) (fun c5 => ?_)
    · have hf := hf.1 c5
      exact bX6_added4_23 hF E hr hlk (fun _ _ _ _ _ hf hI hl => ih hf hI hl) hf hI (lv_sub hl [0, 1] rfl)
    · have hf := hf.2 c5
      refine lv_aload_n (pc := 14) hx hb dX6_added4_14 rfl (lv_at hl 0 rfl) ?_
      refine lv_bipush (v := 45) (pc := 15) hx hb dX6_added4_15 rfl ?_
      refine callVI (G := (D, tysM cy, F)) (L := LM ad cy Rr) (pc := 17) (As := [.int 45]) (rest := []) hF E cs0 hl hI (tX6_isSign hF hf) mwX6_222 (fitD (by decide)) (at6) rfl rfl rfl rfl (Nat.le_of_ble_eq_true rfl) dX6_added4_17 (fun r12 σ11 H locs hf hI => ?_)
      refine lv_if_eq (tgt := 66) (pc := 20) hx hb dX6_added4_20 (by decide) (fun c13 => ?_) (fun c13 => ?_)
      · have hf := hf.1 c13
        refine lv_iload_n (pc := 66) hx hb dX6_added4_66 rfl (lv_at hl 1 rfl) ?_
        exact rI (pc := 67) E hr hlk hI hf dX6_added4_67
      · have hf := hf.2 c13
        exact bX6_added4_23 hF E hr hlk (fun _ _ _ _ _ hf hI hl => ih hf hI hl) hf hI (lv_sub hl [0, 1] rfl)
def wX6_added4 (σ : St) (Q : Int32 → St → Prop) : Prop := wX6_term4 σ (fun r2 σ1 => ∃ n14 : Nat, wX6_added4_l5 n14 r2 σ1 Q)
set_option maxRecDepth 100000 in
set_option maxHeartbeats 4000000 in
theorem bX6_added4 {p : Program} {l : Launch} {e : Env} {s : State} {m : MethodId} {args : Array Value} {below : List Frame} {meth : Method} {c : Code} {H : Heap} {locs : List Loc} {ls : Array Slot} {D : va_G} {F : (Nat → Prop) → State → Prop} {A : Nat → Prop} {σ : St} {ad : Nat → Nat → Nat} {cy : Nat → ClassId} {Rr : va_W} {Q : Int32 → St → Prop} (hF : Stab F) (E : CallFix p m c cX6_added4 4 s args TB RX6) (hr : meth.sig.returnType = some .int) (hlk : meth.locks = false) (hf : wX6_added4 σ Q) (hI : In (D, tysM cy, F) (LM ad cy Rr σ) A s H locs) (hl : lv_has ls 4 [(0, .ref (ad 16 99))]) : W p l e (rmD 12) s m args below meth c H locs 0 0 (PI below args s (D, tysM cy, F) A (LM ad cy Rr) Q) (F0 m 0 ls []) := by
  have hx := E.1
  have hb := E.2.1
  unfold wX6_added4 at hf
  refine lv_aload_n (pc := 0) hx hb dX6_added4_0 rfl (lv_at hl 0 rfl) ?_
  refine callVI (G := (D, tysM cy, F)) (L := LM ad cy Rr) (pc := 1) (As := []) (rest := []) hF E cs0 hl hI (tX6_term4 hF hf) mwX6_258 (fitD (by decide)) (at6) rfl rfl rfl rfl (Nat.le_of_ble_eq_true rfl) dX6_added4_1 (fun r2 σ1 H locs hf hI => ?_)
  refine lv_istore_n (lv' := [(1, .int r2), (0, .ref (ad 16 99))]) (pc := 4) hx hb dX6_added4_4 rfl hl (by decide) rfl (fun ls hl => ?_)
  obtain ⟨n14, hf⟩ := hf
  exact bX6_added4_5 hF E hr hlk n14 hf hI (lv_sub hl [1, 0] rfl)
theorem tX6_added4 {l : Launch} {D : va_G} {F : (Nat → Prop) → State → Prop} {σ : St} {ad : Nat → Nat → Nat} {cy : Nat → ClassId} {Rr : va_W} {Q : Int32 → St → Prop} (hF : Stab F) (hf : wX6_added4 σ Q) : CtI l yX6_added4 cX6_added4 4 .int 12 (D, tysM cy, F) (LM ad cy Rr) [.ref (ad 16 99)] σ Q := mkI (by decide) (Nat.le_of_ble_eq_true rfl) (fun p e s m below meth c A E hr hlk hI ls hl => bX6_added4 hF E hr hlk hf hI hl)

def wX6_not4_j93 (a1 : Int32) (s0 : Int32) (σ : St) (Q : Int32 → St → Prop) : Prop := wX6_next σ (fun σ10 => wX6_added4 σ10 (fun r12 σ11 => ((s0 = 0 → ((¬ a1 = r12 → Q 0 σ11) ∧ (a1 = r12 → Q 1 σ11))) ∧ (¬ s0 = 0 → ((r12 ≤ a1 → Q 0 σ11) ∧ (¬ r12 ≤ a1 → Q 1 σ11))))))
set_option maxRecDepth 100000 in
set_option maxHeartbeats 4000000 in
theorem bX6_not4_93 {p : Program} {l : Launch} {e : Env} {s : State} {m : MethodId} {args : Array Value} {below : List Frame} {meth : Method} {c : Code} {H : Heap} {locs : List Loc} {ls : Array Slot} {D : va_G} {F : (Nat → Prop) → State → Prop} {A : Nat → Prop} {σ : St} {ad : Nat → Nat → Nat} {cy : Nat → ClassId} {Rr : va_W} {Q : Int32 → St → Prop} {a1 : Int32} {s0 : Int32} (hF : Stab F) (E : CallFix p m c cX6_not4 4 s args TB RX6) (hr : meth.sig.returnType = some .int) (hlk : meth.locks = false) (hf : wX6_not4_j93 a1 s0 σ Q) (hI : In (D, tysM cy, F) (LM ad cy Rr σ) A s H locs) (hl : lv_has ls 4 [(0, .ref (ad 16 99)), (1, .int a1)]) : W p l e (rmD 13) s m args below meth c H locs 0 0 (PI below args s (D, tysM cy, F) A (LM ad cy Rr) Q) (F0 m 93 ls [.int s0]) := by
  have hx := E.1
  have hb := E.2.1
  unfold wX6_not4_j93 at hf
  refine lv_istore_n (lv' := [(2, .int s0), (0, .ref (ad 16 99)), (1, .int a1)]) (pc := 93) hx hb dX6_not4_93 rfl hl (by decide) rfl (fun ls hl => ?_)
  refine lv_aload_n (pc := 94) hx hb dX6_not4_94 rfl (lv_at hl 1 rfl) ?_
  refine callVV (G := (D, tysM cy, F)) (L := LM ad cy Rr) (pc := 95) (As := []) (rest := []) hF E cs0 hl hI (tX6_next hF hf) mwX6_197 (fitD (by decide)) (at6) rfl rfl rfl rfl (Nat.le_of_ble_eq_true rfl) dX6_not4_95 (fun σ10 H locs hf hI => ?_)
  refine lv_aload_n (pc := 98) hx hb dX6_not4_98 rfl (lv_at hl 1 rfl) ?_
  refine callVI (G := (D, tysM cy, F)) (L := LM ad cy Rr) (pc := 99) (As := []) (rest := []) hF E cs0 hl hI (tX6_added4 hF hf) mwX6_261 (fitD (by decide)) (at6) rfl rfl rfl rfl (Nat.le_of_ble_eq_true rfl) dX6_not4_99 (fun r12 σ11 H locs hf hI => ?_)
  refine lv_istore_n (lv' := [(3, .int r12), (2, .int s0), (0, .ref (ad 16 99)), (1, .int a1)]) (pc := 102) hx hb dX6_not4_102 rfl hl (by decide) rfl (fun ls hl => ?_)
  refine lv_iload_n (pc := 103) hx hb dX6_not4_103 rfl (lv_at hl 1 rfl) ?_
  refine lv_if_eq (tgt := 115) (pc := 104) hx hb dX6_not4_104 (by decide) (fun c13 => ?_) (fun c13 => ?_)
  · have hf := hf.1 c13
    refine lv_iload_n (pc := 115) hx hb dX6_not4_115 rfl (lv_at hl 3 rfl) ?_
    refine lv_iload_n (pc := 116) hx hb dX6_not4_116 rfl (lv_at hl 0 rfl) ?_
    refine lv_icmp_ne (tgt := 124) (pc := 117) hx hb dX6_not4_117 (by decide) (fun c14 => ?_) (fun c14 => ?_)
    · have hf := hf.1 c14
      refine lv_iconst (v := 0) (pc := 124) hx hb dX6_not4_124 rfl ?_
      exact rI (pc := 125) E hr hlk hI hf dX6_not4_125
    · have hf := hf.2 c14
      refine lv_iconst (v := 1) (pc := 120) hx hb dX6_not4_120 rfl ?_
      refine lv_goto (tgt := 125) (pc := 121) hx hb dX6_not4_121 (by decide) ?_
      exact rI (pc := 125) E hr hlk hI hf dX6_not4_125
  · have hf := hf.2 c13
    refine lv_iload_n (pc := 107) hx hb dX6_not4_107 rfl (lv_at hl 3 rfl) ?_
    refine lv_iload_n (pc := 108) hx hb dX6_not4_108 rfl (lv_at hl 0 rfl) ?_
    refine lv_icmp_ge (tgt := 124) (pc := 109) hx hb dX6_not4_109 (by decide) (fun c15 => ?_) (fun c15 => ?_)
    · have hf := hf.1 c15
      refine lv_iconst (v := 0) (pc := 124) hx hb dX6_not4_124 rfl ?_
      exact rI (pc := 125) E hr hlk hI hf dX6_not4_125
    · have hf := hf.2 c15
      refine lv_goto (tgt := 120) (pc := 112) hx hb dX6_not4_112 (by decide) ?_
      refine lv_iconst (v := 1) (pc := 120) hx hb dX6_not4_120 rfl ?_
      refine lv_goto (tgt := 125) (pc := 121) hx hb dX6_not4_121 (by decide) ?_
      exact rI (pc := 125) E hr hlk hI hf dX6_not4_125
def wX6_not4_j77 (a1 : Int32) (σ : St) (Q : Int32 → St → Prop) : Prop := ((¬ (lg_cmp (gJ σ 16 25) 60) = 0 → (wX6_not4_j93 a1 0 σ Q)) ∧ ((lg_cmp (gJ σ 16 25) 60) = 0 → (wX6_not4_j93 a1 1 σ Q)))
set_option maxRecDepth 100000 in
set_option maxHeartbeats 4000000 in
theorem bX6_not4_77 {p : Program} {l : Launch} {e : Env} {s : State} {m : MethodId} {args : Array Value} {below : List Frame} {meth : Method} {c : Code} {H : Heap} {locs : List Loc} {ls : Array Slot} {D : va_G} {F : (Nat → Prop) → State → Prop} {A : Nat → Prop} {σ : St} {ad : Nat → Nat → Nat} {cy : Nat → ClassId} {Rr : va_W} {Q : Int32 → St → Prop} {a1 : Int32} (hF : Stab F) (E : CallFix p m c cX6_not4 4 s args TB RX6) (hr : meth.sig.returnType = some .int) (hlk : meth.locks = false) (hf : wX6_not4_j77 a1 σ Q) (hI : In (D, tysM cy, F) (LM ad cy Rr σ) A s H locs) (hl : lv_has ls 4 [(0, .ref (ad 16 99)), (1, .int a1)]) : W p l e (rmD 13) s m args below meth c H locs 0 0 (PI below args s (D, tysM cy, F) A (LM ad cy Rr) Q) (F0 m 77 ls []) := by
  have hx := E.1
  have hb := E.2.1
  unfold wX6_not4_j77 at hf
  refine lv_aload_n (pc := 77) hx hb dX6_not4_77 rfl (lv_at hl 0 rfl) ?_
  refine g6_25 (pc := 78) E hI lkX6_176 dX6_not4_78 ?_
  refine lv_ldc2 (pc := 81) E.1 E.2.1 E.2.2.2.1 (E.2.2.2.2 _ kcX6_244) dX6_not4_81 ?_
  refine W.lcmp (pc := 84) hx hb dX6_not4_84 ?_
  refine lv_if_ne (tgt := 92) (pc := 85) hx hb dX6_not4_85 (by decide) (fun c9 => ?_) (fun c9 => ?_)
  · have hf := hf.1 c9
    refine lv_iconst (v := 0) (pc := 92) hx hb dX6_not4_92 rfl ?_
    exact bX6_not4_93 hF E hr hlk hf hI (lv_sub hl [0, 1] rfl)
  · have hf := hf.2 c9
    refine lv_iconst (v := 1) (pc := 88) hx hb dX6_not4_88 rfl ?_
    refine lv_goto (tgt := 93) (pc := 89) hx hb dX6_not4_89 (by decide) ?_
    exact bX6_not4_93 hF E hr hlk hf hI (lv_sub hl [0, 1] rfl)
def wX6_not4 (σ : St) (Q : Int32 → St → Prop) : Prop := wX6_isWord 110 111 116 0 0 0 0 0 σ (fun r2 σ1 => ((r2 = 0 → wX6_added4 σ1 (fun r5 σ4 => wX6_isSign 60 σ4 (fun r7 σ6 => ((¬ r7 = 0 → (wX6_not4_j77 r5 σ6 Q)) ∧ (r7 = 0 → wX6_isSign 61 σ6 (fun r17 σ16 => ((¬ r17 = 0 → (wX6_not4_j77 r5 σ16 Q)) ∧ (r17 = 0 → Q r5 σ16)))))))) ∧ (¬ r2 = 0 → wX6_opens σ1 (fun r20 σ19 => ((¬ r20 = 0 → wX6_not5 σ19 (fun r23 σ22 => ∀ σ24 : St, σ24 = sI σ22 16 26 ((gI σ22 16 26) - 1) → ((¬ r23 = 0 → Q 0 σ24) ∧ (r23 = 0 → Q 1 σ24)))) ∧ (r20 = 0 → Q 0 σ19))))))
set_option maxRecDepth 100000 in
set_option maxHeartbeats 4000000 in
theorem bX6_not4 {p : Program} {l : Launch} {e : Env} {s : State} {m : MethodId} {args : Array Value} {below : List Frame} {meth : Method} {c : Code} {H : Heap} {locs : List Loc} {ls : Array Slot} {D : va_G} {F : (Nat → Prop) → State → Prop} {A : Nat → Prop} {σ : St} {ad : Nat → Nat → Nat} {cy : Nat → ClassId} {Rr : va_W} {Q : Int32 → St → Prop} (hF : Stab F) (E : CallFix p m c cX6_not4 4 s args TB RX6) (hr : meth.sig.returnType = some .int) (hlk : meth.locks = false) (hf : wX6_not4 σ Q) (hI : In (D, tysM cy, F) (LM ad cy Rr σ) A s H locs) (hl : lv_has ls 4 [(0, .ref (ad 16 99))]) : W p l e (rmD 13) s m args below meth c H locs 0 0 (PI below args s (D, tysM cy, F) A (LM ad cy Rr) Q) (F0 m 0 ls []) := by
  have hx := E.1
  have hb := E.2.1
  unfold wX6_not4 at hf
  refine lv_aload_n (pc := 0) hx hb dX6_not4_0 rfl (lv_at hl 0 rfl) ?_
  refine lv_bipush (v := 110) (pc := 1) hx hb dX6_not4_1 rfl ?_
  refine lv_bipush (v := 111) (pc := 3) hx hb dX6_not4_3 rfl ?_
  refine lv_bipush (v := 116) (pc := 5) hx hb dX6_not4_5 rfl ?_
  refine lv_iconst (v := 0) (pc := 7) hx hb dX6_not4_7 rfl ?_
  refine lv_iconst (v := 0) (pc := 8) hx hb dX6_not4_8 rfl ?_
  refine lv_iconst (v := 0) (pc := 9) hx hb dX6_not4_9 rfl ?_
  refine lv_iconst (v := 0) (pc := 10) hx hb dX6_not4_10 rfl ?_
  refine lv_iconst (v := 0) (pc := 11) hx hb dX6_not4_11 rfl ?_
  refine callVI (G := (D, tysM cy, F)) (L := LM ad cy Rr) (pc := 12) (As := [.int 110, .int 111, .int 116, .int 0, .int 0, .int 0, .int 0, .int 0]) (rest := []) hF E cs0 hl hI (tX6_isWord hF hf) mwX6_200 (fitD (by decide)) (at6) rfl rfl rfl rfl (Nat.le_of_ble_eq_true rfl) dX6_not4_12 (fun r2 σ1 H locs hf hI => ?_)
  refine lv_if_eq (tgt := 52) (pc := 15) hx hb dX6_not4_15 (by decide) (fun c3 => ?_) (fun c3 => ?_)
  · have hf := hf.1 c3
    refine lv_aload_n (pc := 52) hx hb dX6_not4_52 rfl (lv_at hl 0 rfl) ?_
    refine callVI (G := (D, tysM cy, F)) (L := LM ad cy Rr) (pc := 53) (As := []) (rest := []) hF E cs0 hl hI (tX6_added4 hF hf) mwX6_261 (fitD (by decide)) (at6) rfl rfl rfl rfl (Nat.le_of_ble_eq_true rfl) dX6_not4_53 (fun r5 σ4 H locs hf hI => ?_)
    refine lv_istore_n (lv' := [(1, .int r5), (0, .ref (ad 16 99))]) (pc := 56) hx hb dX6_not4_56 rfl hl (by decide) rfl (fun ls hl => ?_)
    refine lv_aload_n (pc := 57) hx hb dX6_not4_57 rfl (lv_at hl 1 rfl) ?_
    refine lv_bipush (v := 60) (pc := 58) hx hb dX6_not4_58 rfl ?_
    refine callVI (G := (D, tysM cy, F)) (L := LM ad cy Rr) (pc := 60) (As := [.int 60]) (rest := []) hF E cs0 hl hI (tX6_isSign hF hf) mwX6_222 (fitD (by decide)) (at6) rfl rfl rfl rfl (Nat.le_of_ble_eq_true rfl) dX6_not4_60 (fun r7 σ6 H locs hf hI => ?_)
    refine lv_if_ne (tgt := 77) (pc := 63) hx hb dX6_not4_63 (by decide) (fun c8 => ?_) (fun c8 => ?_)
    · have hf := hf.1 c8
      exact bX6_not4_77 hF E hr hlk hf hI (lv_sub hl [1, 0] rfl)
    · have hf := hf.2 c8
      refine lv_aload_n (pc := 66) hx hb dX6_not4_66 rfl (lv_at hl 1 rfl) ?_
      refine lv_bipush (v := 61) (pc := 67) hx hb dX6_not4_67 rfl ?_
      refine callVI (G := (D, tysM cy, F)) (L := LM ad cy Rr) (pc := 69) (As := [.int 61]) (rest := []) hF E cs0 hl hI (tX6_isSign hF hf) mwX6_222 (fitD (by decide)) (at6) rfl rfl rfl rfl (Nat.le_of_ble_eq_true rfl) dX6_not4_69 (fun r17 σ16 H locs hf hI => ?_)
      refine lv_if_ne (tgt := 77) (pc := 72) hx hb dX6_not4_72 (by decide) (fun c18 => ?_) (fun c18 => ?_)
      · have hf := hf.1 c18
        exact bX6_not4_77 hF E hr hlk hf hI (lv_sub hl [1, 0] rfl)
      · have hf := hf.2 c18
        refine lv_iload_n (pc := 75) hx hb dX6_not4_75 rfl (lv_at hl 0 rfl) ?_
        exact rI (pc := 76) E hr hlk hI hf dX6_not4_76
  · have hf := hf.2 c3
    refine lv_aload_n (pc := 18) hx hb dX6_not4_18 rfl (lv_at hl 0 rfl) ?_
    refine callVI (G := (D, tysM cy, F)) (L := LM ad cy Rr) (pc := 19) (As := []) (rest := []) hF E cs0 hl hI (tX6_opens hF hf) mwX6_225 (fitD (by decide)) (at6) rfl rfl rfl rfl (Nat.le_of_ble_eq_true rfl) dX6_not4_19 (fun r20 σ19 H locs hf hI => ?_)
    refine lv_if_ne (tgt := 27) (pc := 22) hx hb dX6_not4_22 (by decide) (fun c21 => ?_) (fun c21 => ?_)
    · have hf := hf.1 c21
      refine lv_aload_n (pc := 27) hx hb dX6_not4_27 rfl (lv_at hl 0 rfl) ?_
      refine callVI (G := (D, tysM cy, F)) (L := LM ad cy Rr) (pc := 28) (As := []) (rest := []) hF E cs0 hl hI (tX6_not5 hF hf) mwX6_246 (fitD (by decide)) (at6) rfl rfl rfl rfl (Nat.le_of_ble_eq_true rfl) dX6_not4_28 (fun r23 σ22 H locs hf hI => ?_)
      refine lv_istore_n (lv' := [(1, .int r23), (0, .ref (ad 16 99))]) (pc := 31) hx hb dX6_not4_31 rfl hl (by decide) rfl (fun ls hl => ?_)
      refine lv_aload_n (pc := 32) hx hb dX6_not4_32 rfl (lv_at hl 1 rfl) ?_
      refine lv_dup (pc := 33) hx hb dX6_not4_33 rfl ?_
      refine g6_26 (pc := 34) E hI lkX6_191 dX6_not4_34 ?_
      refine lv_iconst (v := 1) (pc := 37) hx hb dX6_not4_37 rfl ?_
      refine lv_isub (pc := 38) hx hb dX6_not4_38 ?_
      refine p6_26 (pc := 39) E hI lkX6_191 dX6_not4_39 (fun H locs σ24 eσ24 hI => ?_)
      have hf := hf σ24 eσ24
      refine lv_iload_n (pc := 42) hx hb dX6_not4_42 rfl (lv_at hl 0 rfl) ?_
      refine lv_if_ne (tgt := 50) (pc := 43) hx hb dX6_not4_43 (by decide) (fun c25 => ?_) (fun c25 => ?_)
      · have hf := hf.1 c25
        refine lv_iconst (v := 0) (pc := 50) hx hb dX6_not4_50 rfl ?_
        exact rI (pc := 51) E hr hlk hI hf dX6_not4_51
      · have hf := hf.2 c25
        refine lv_iconst (v := 1) (pc := 46) hx hb dX6_not4_46 rfl ?_
        refine lv_goto (tgt := 51) (pc := 47) hx hb dX6_not4_47 (by decide) ?_
        exact rI (pc := 51) E hr hlk hI hf dX6_not4_51
    · have hf := hf.2 c21
      refine lv_iconst (v := 0) (pc := 25) hx hb dX6_not4_25 rfl ?_
      exact rI (pc := 26) E hr hlk hI hf dX6_not4_26
theorem tX6_not4 {l : Launch} {D : va_G} {F : (Nat → Prop) → State → Prop} {σ : St} {ad : Nat → Nat → Nat} {cy : Nat → ClassId} {Rr : va_W} {Q : Int32 → St → Prop} (hF : Stab F) (hf : wX6_not4 σ Q) : CtI l yX6_not4 cX6_not4 4 .int 13 (D, tysM cy, F) (LM ad cy Rr) [.ref (ad 16 99)] σ Q := mkI (by decide) (Nat.le_of_ble_eq_true rfl) (fun p e s m below meth c A E hr hlk hI ls hl => bX6_not4 hF E hr hlk hf hI hl)

def wX6_both4_j45 (s0 : Int32) (σ : St) (K : Int32 → St → Prop) (Q : Int32 → St → Prop) : Prop := (K s0 σ)
set_option maxRecDepth 100000 in
set_option maxHeartbeats 4000000 in
theorem bX6_both4_45 {p : Program} {l : Launch} {e : Env} {s : State} {m : MethodId} {args : Array Value} {below : List Frame} {meth : Method} {c : Code} {H : Heap} {locs : List Loc} {ls : Array Slot} {D : va_G} {F : (Nat → Prop) → State → Prop} {A : Nat → Prop} {σ : St} {ad : Nat → Nat → Nat} {cy : Nat → ClassId} {Rr : va_W} {Q : Int32 → St → Prop} {s0 : Int32} {K : Int32 → St → Prop} (hF : Stab F) (E : CallFix p m c cX6_both4 3 s args TB RX6) (hr : meth.sig.returnType = some .int) (hlk : meth.locks = false) (hK : ∀ (a1 : Int32) (σ : St) (H : Heap) (locs : List Loc) (ls : Array Slot), K a1 σ → In (D, tysM cy, F) (LM ad cy Rr σ) A s H locs → lv_has ls 3 [(0, .ref (ad 16 99)), (1, .int a1)] → W p l e (rmD 14) s m args below meth c H locs 0 0 (PI below args s (D, tysM cy, F) A (LM ad cy Rr) Q) (F0 m 5 ls [])) (hf : wX6_both4_j45 s0 σ K Q) (hI : In (D, tysM cy, F) (LM ad cy Rr σ) A s H locs) (hl : lv_has ls 3 [(0, .ref (ad 16 99))]) : W p l e (rmD 14) s m args below meth c H locs 0 0 (PI below args s (D, tysM cy, F) A (LM ad cy Rr) Q) (F0 m 45 ls [.int s0]) := by
  have hx := E.1
  have hb := E.2.1
  unfold wX6_both4_j45 at hf
  refine lv_istore_n (lv' := [(1, .int s0), (0, .ref (ad 16 99))]) (pc := 45) hx hb dX6_both4_45 rfl hl (by decide) rfl (fun ls hl => ?_)
  refine lv_goto (tgt := 5) (pc := 46) hx hb dX6_both4_46 (by decide) ?_
  exact hK _ _ _ _ _ hf hI (lv_sub hl [1, 0] rfl)
def wX6_both4_j44 (σ : St) (K : Int32 → St → Prop) (Q : Int32 → St → Prop) : Prop := (wX6_both4_j45 0 σ K Q)
set_option maxRecDepth 100000 in
set_option maxHeartbeats 4000000 in
theorem bX6_both4_44 {p : Program} {l : Launch} {e : Env} {s : State} {m : MethodId} {args : Array Value} {below : List Frame} {meth : Method} {c : Code} {H : Heap} {locs : List Loc} {ls : Array Slot} {D : va_G} {F : (Nat → Prop) → State → Prop} {A : Nat → Prop} {σ : St} {ad : Nat → Nat → Nat} {cy : Nat → ClassId} {Rr : va_W} {Q : Int32 → St → Prop} {K : Int32 → St → Prop} (hF : Stab F) (E : CallFix p m c cX6_both4 3 s args TB RX6) (hr : meth.sig.returnType = some .int) (hlk : meth.locks = false) (hK : ∀ (a1 : Int32) (σ : St) (H : Heap) (locs : List Loc) (ls : Array Slot), K a1 σ → In (D, tysM cy, F) (LM ad cy Rr σ) A s H locs → lv_has ls 3 [(0, .ref (ad 16 99)), (1, .int a1)] → W p l e (rmD 14) s m args below meth c H locs 0 0 (PI below args s (D, tysM cy, F) A (LM ad cy Rr) Q) (F0 m 5 ls [])) (hf : wX6_both4_j44 σ K Q) (hI : In (D, tysM cy, F) (LM ad cy Rr σ) A s H locs) (hl : lv_has ls 3 [(0, .ref (ad 16 99))]) : W p l e (rmD 14) s m args below meth c H locs 0 0 (PI below args s (D, tysM cy, F) A (LM ad cy Rr) Q) (F0 m 44 ls []) := by
  have hx := E.1
  have hb := E.2.1
  unfold wX6_both4_j44 at hf
  refine lv_iconst (v := 0) (pc := 44) hx hb dX6_both4_44 rfl ?_
  exact bX6_both4_45 hF E hr hlk hK hf hI (lv_sub hl [0] rfl)
def wX6_both4_l5s (ih : Int32 → St → Prop) (a1 : Int32) (σ : St) (Q : Int32 → St → Prop) : Prop := wX6_isWord 97 110 100 0 0 0 0 0 σ (fun r4 σ3 => ((r4 = 0 → Q a1 σ3) ∧ (¬ r4 = 0 → wX6_next σ3 (fun σ6 => wX6_not4 σ6 (fun r8 σ7 => ((a1 = 0 → (wX6_both4_j44 σ7 ih Q)) ∧ (¬ a1 = 0 → ((r8 = 0 → (wX6_both4_j44 σ7 ih Q)) ∧ (¬ r8 = 0 → (wX6_both4_j45 1 σ7 ih Q))))))))))
def wX6_both4_l5 (n : Nat) : Int32 → St → (Int32 → St → Prop) → Prop := @Nat.rec (fun _ => Int32 → St → (Int32 → St → Prop) → Prop) (fun _ _ _ => False) (fun _ ih a1 σ Q => wX6_both4_l5s (fun a1 σ => ih a1 σ Q) a1 σ Q) n
set_option maxRecDepth 100000 in
set_option maxHeartbeats 4000000 in
theorem bX6_both4_5 {p : Program} {l : Launch} {e : Env} {s : State} {m : MethodId} {args : Array Value} {below : List Frame} {meth : Method} {c : Code} {D : va_G} {F : (Nat → Prop) → State → Prop} {A : Nat → Prop} {ad : Nat → Nat → Nat} {cy : Nat → ClassId} {Rr : va_W} {Q : Int32 → St → Prop} (hF : Stab F) (E : CallFix p m c cX6_both4 3 s args TB RX6) (hr : meth.sig.returnType = some .int) (hlk : meth.locks = false) : ∀ (n : Nat) {a1 : Int32} {σ : St} {H : Heap} {locs : List Loc} {ls : Array Slot}, wX6_both4_l5 n a1 σ Q → In (D, tysM cy, F) (LM ad cy Rr σ) A s H locs → lv_has ls 3 [(0, .ref (ad 16 99)), (1, .int a1)] → W p l e (rmD 14) s m args below meth c H locs 0 0 (PI below args s (D, tysM cy, F) A (LM ad cy Rr) Q) (F0 m 5 ls []) := by
  have hx := E.1
  have hb := E.2.1
  intro n
  induction n with
  | zero => intro a1 σ H locs ls hf hI hl; exact False.elim hf
  | succ n ih =>
    intro a1 σ H locs ls hf hI hl
    have hf : wX6_both4_l5s (fun a1 σ => wX6_both4_l5 n a1 σ Q) a1 σ Q := hf
    unfold wX6_both4_l5s at hf
    refine lv_aload_n (pc := 5) hx hb dX6_both4_5 rfl (lv_at hl 0 rfl) ?_
    refine lv_bipush (v := 97) (pc := 6) hx hb dX6_both4_6 rfl ?_
    refine lv_bipush (v := 110) (pc := 8) hx hb dX6_both4_8 rfl ?_
    refine lv_bipush (v := 100) (pc := 10) hx hb dX6_both4_10 rfl ?_
    refine lv_iconst (v := 0) (pc := 12) hx hb dX6_both4_12 rfl ?_
    refine lv_iconst (v := 0) (pc := 13) hx hb dX6_both4_13 rfl ?_
    refine lv_iconst (v := 0) (pc := 14) hx hb dX6_both4_14 rfl ?_
    refine lv_iconst (v := 0) (pc := 15) hx hb dX6_both4_15 rfl ?_
    refine lv_iconst (v := 0) (pc := 16) hx hb dX6_both4_16 rfl ?_
    refine callVI (G := (D, tysM cy, F)) (L := LM ad cy Rr) (pc := 17) (As := [.int 97, .int 110, .int 100, .int 0, .int 0, .int 0, .int 0, .int 0]) (rest := []) hF E cs0 hl hI (tX6_isWord hF hf) mwX6_200 (fitD (by decide)) (at6) rfl rfl rfl rfl (Nat.le_of_ble_eq_true rfl) dX6_both4_17 (fun r4 σ3 H locs hf hI => ?_)
    refine lv_if_eq (tgt := 49) (pc := 20) hx hb dX6_both4_20 (by decide) (fun c5 => ?_) (fun c5 => ?_)
    · have hf := hf.1 c5
      refine lv_iload_n (pc := 49) hx hb dX6_both4_49 rfl (lv_at hl 1 rfl) ?_
      exact rI (pc := 50) E hr hlk hI hf dX6_both4_50
    · have hf := hf.2 c5
      refine lv_aload_n (pc := 23) hx hb dX6_both4_23 rfl (lv_at hl 0 rfl) ?_
      refine callVV (G := (D, tysM cy, F)) (L := LM ad cy Rr) (pc := 24) (As := []) (rest := []) hF E cs0 hl hI (tX6_next hF hf) mwX6_197 (fitD (by decide)) (at6) rfl rfl rfl rfl (Nat.le_of_ble_eq_true rfl) dX6_both4_24 (fun σ6 H locs hf hI => ?_)
      refine lv_aload_n (pc := 27) hx hb dX6_both4_27 rfl (lv_at hl 0 rfl) ?_
      refine callVI (G := (D, tysM cy, F)) (L := LM ad cy Rr) (pc := 28) (As := []) (rest := []) hF E cs0 hl hI (tX6_not4 hF hf) mwX6_264 (fitD (by decide)) (at6) rfl rfl rfl rfl (Nat.le_of_ble_eq_true rfl) dX6_both4_28 (fun r8 σ7 H locs hf hI => ?_)
      refine lv_istore_n (lv' := [(2, .int r8), (0, .ref (ad 16 99)), (1, .int a1)]) (pc := 31) hx hb dX6_both4_31 rfl hl (by decide) rfl (fun ls hl => ?_)
      refine lv_iload_n (pc := 32) hx hb dX6_both4_32 rfl (lv_at hl 2 rfl) ?_
      refine lv_if_eq (tgt := 44) (pc := 33) hx hb dX6_both4_33 (by decide) (fun c9 => ?_) (fun c9 => ?_)
      · have hf := hf.1 c9
        exact bX6_both4_44 hF E hr hlk (fun _ _ _ _ _ hf hI hl => ih hf hI hl) hf hI (lv_sub hl [1] rfl)
      · have hf := hf.2 c9
        refine lv_iload_n (pc := 36) hx hb dX6_both4_36 rfl (lv_at hl 0 rfl) ?_
        refine lv_if_eq (tgt := 44) (pc := 37) hx hb dX6_both4_37 (by decide) (fun c10 => ?_) (fun c10 => ?_)
        · have hf := hf.1 c10
          exact bX6_both4_44 hF E hr hlk (fun _ _ _ _ _ hf hI hl => ih hf hI hl) hf hI (lv_sub hl [1] rfl)
        · have hf := hf.2 c10
          refine lv_iconst (v := 1) (pc := 40) hx hb dX6_both4_40 rfl ?_
          refine lv_goto (tgt := 45) (pc := 41) hx hb dX6_both4_41 (by decide) ?_
          exact bX6_both4_45 hF E hr hlk (fun _ _ _ _ _ hf hI hl => ih hf hI hl) hf hI (lv_sub hl [1] rfl)
def wX6_both4 (σ : St) (Q : Int32 → St → Prop) : Prop := wX6_not4 σ (fun r2 σ1 => ∃ n11 : Nat, wX6_both4_l5 n11 r2 σ1 Q)
set_option maxRecDepth 100000 in
set_option maxHeartbeats 4000000 in
theorem bX6_both4 {p : Program} {l : Launch} {e : Env} {s : State} {m : MethodId} {args : Array Value} {below : List Frame} {meth : Method} {c : Code} {H : Heap} {locs : List Loc} {ls : Array Slot} {D : va_G} {F : (Nat → Prop) → State → Prop} {A : Nat → Prop} {σ : St} {ad : Nat → Nat → Nat} {cy : Nat → ClassId} {Rr : va_W} {Q : Int32 → St → Prop} (hF : Stab F) (E : CallFix p m c cX6_both4 3 s args TB RX6) (hr : meth.sig.returnType = some .int) (hlk : meth.locks = false) (hf : wX6_both4 σ Q) (hI : In (D, tysM cy, F) (LM ad cy Rr σ) A s H locs) (hl : lv_has ls 3 [(0, .ref (ad 16 99))]) : W p l e (rmD 14) s m args below meth c H locs 0 0 (PI below args s (D, tysM cy, F) A (LM ad cy Rr) Q) (F0 m 0 ls []) := by
  have hx := E.1
  have hb := E.2.1
  unfold wX6_both4 at hf
  refine lv_aload_n (pc := 0) hx hb dX6_both4_0 rfl (lv_at hl 0 rfl) ?_
  refine callVI (G := (D, tysM cy, F)) (L := LM ad cy Rr) (pc := 1) (As := []) (rest := []) hF E cs0 hl hI (tX6_not4 hF hf) mwX6_264 (fitD (by decide)) (at6) rfl rfl rfl rfl (Nat.le_of_ble_eq_true rfl) dX6_both4_1 (fun r2 σ1 H locs hf hI => ?_)
  refine lv_istore_n (lv' := [(1, .int r2), (0, .ref (ad 16 99))]) (pc := 4) hx hb dX6_both4_4 rfl hl (by decide) rfl (fun ls hl => ?_)
  obtain ⟨n11, hf⟩ := hf
  exact bX6_both4_5 hF E hr hlk n11 hf hI (lv_sub hl [1, 0] rfl)
theorem tX6_both4 {l : Launch} {D : va_G} {F : (Nat → Prop) → State → Prop} {σ : St} {ad : Nat → Nat → Nat} {cy : Nat → ClassId} {Rr : va_W} {Q : Int32 → St → Prop} (hF : Stab F) (hf : wX6_both4 σ Q) : CtI l yX6_both4 cX6_both4 3 .int 14 (D, tysM cy, F) (LM ad cy Rr) [.ref (ad 16 99)] σ Q := mkI (by decide) (Nat.le_of_ble_eq_true rfl) (fun p e s m below meth c A E hr hlk hI ls hl => bX6_both4 hF E hr hlk hf hI hl)

def wX6_either4_j44 (s0 : Int32) (σ : St) (K : Int32 → St → Prop) (Q : Int32 → St → Prop) : Prop := (K s0 σ)
set_option maxRecDepth 100000 in
set_option maxHeartbeats 4000000 in
theorem bX6_either4_44 {p : Program} {l : Launch} {e : Env} {s : State} {m : MethodId} {args : Array Value} {below : List Frame} {meth : Method} {c : Code} {H : Heap} {locs : List Loc} {ls : Array Slot} {D : va_G} {F : (Nat → Prop) → State → Prop} {A : Nat → Prop} {σ : St} {ad : Nat → Nat → Nat} {cy : Nat → ClassId} {Rr : va_W} {Q : Int32 → St → Prop} {s0 : Int32} {K : Int32 → St → Prop} (hF : Stab F) (E : CallFix p m c cX6_either4 3 s args TB RX6) (hr : meth.sig.returnType = some .int) (hlk : meth.locks = false) (hK : ∀ (a1 : Int32) (σ : St) (H : Heap) (locs : List Loc) (ls : Array Slot), K a1 σ → In (D, tysM cy, F) (LM ad cy Rr σ) A s H locs → lv_has ls 3 [(0, .ref (ad 16 99)), (1, .int a1)] → W p l e (rmD 15) s m args below meth c H locs 0 0 (PI below args s (D, tysM cy, F) A (LM ad cy Rr) Q) (F0 m 5 ls [])) (hf : wX6_either4_j44 s0 σ K Q) (hI : In (D, tysM cy, F) (LM ad cy Rr σ) A s H locs) (hl : lv_has ls 3 [(0, .ref (ad 16 99))]) : W p l e (rmD 15) s m args below meth c H locs 0 0 (PI below args s (D, tysM cy, F) A (LM ad cy Rr) Q) (F0 m 44 ls [.int s0]) := by
  have hx := E.1
  have hb := E.2.1
  unfold wX6_either4_j44 at hf
  refine lv_istore_n (lv' := [(1, .int s0), (0, .ref (ad 16 99))]) (pc := 44) hx hb dX6_either4_44 rfl hl (by decide) rfl (fun ls hl => ?_)
  refine lv_goto (tgt := 5) (pc := 45) hx hb dX6_either4_45 (by decide) ?_
  exact hK _ _ _ _ _ hf hI (lv_sub hl [1, 0] rfl)
def wX6_either4_j39 (σ : St) (K : Int32 → St → Prop) (Q : Int32 → St → Prop) : Prop := (wX6_either4_j44 1 σ K Q)
set_option maxRecDepth 100000 in
set_option maxHeartbeats 4000000 in
theorem bX6_either4_39 {p : Program} {l : Launch} {e : Env} {s : State} {m : MethodId} {args : Array Value} {below : List Frame} {meth : Method} {c : Code} {H : Heap} {locs : List Loc} {ls : Array Slot} {D : va_G} {F : (Nat → Prop) → State → Prop} {A : Nat → Prop} {σ : St} {ad : Nat → Nat → Nat} {cy : Nat → ClassId} {Rr : va_W} {Q : Int32 → St → Prop} {K : Int32 → St → Prop} (hF : Stab F) (E : CallFix p m c cX6_either4 3 s args TB RX6) (hr : meth.sig.returnType = some .int) (hlk : meth.locks = false) (hK : ∀ (a1 : Int32) (σ : St) (H : Heap) (locs : List Loc) (ls : Array Slot), K a1 σ → In (D, tysM cy, F) (LM ad cy Rr σ) A s H locs → lv_has ls 3 [(0, .ref (ad 16 99)), (1, .int a1)] → W p l e (rmD 15) s m args below meth c H locs 0 0 (PI below args s (D, tysM cy, F) A (LM ad cy Rr) Q) (F0 m 5 ls [])) (hf : wX6_either4_j39 σ K Q) (hI : In (D, tysM cy, F) (LM ad cy Rr σ) A s H locs) (hl : lv_has ls 3 [(0, .ref (ad 16 99))]) : W p l e (rmD 15) s m args below meth c H locs 0 0 (PI below args s (D, tysM cy, F) A (LM ad cy Rr) Q) (F0 m 39 ls []) := by
  have hx := E.1
  have hb := E.2.1
  unfold wX6_either4_j39 at hf
  refine lv_iconst (v := 1) (pc := 39) hx hb dX6_either4_39 rfl ?_
  refine lv_goto (tgt := 44) (pc := 40) hx hb dX6_either4_40 (by decide) ?_
  exact bX6_either4_44 hF E hr hlk hK hf hI (lv_sub hl [0] rfl)
def wX6_either4_l5s (ih : Int32 → St → Prop) (a1 : Int32) (σ : St) (Q : Int32 → St → Prop) : Prop := wX6_isWord 111 114 0 0 0 0 0 0 σ (fun r4 σ3 => ((r4 = 0 → Q a1 σ3) ∧ (¬ r4 = 0 → wX6_next σ3 (fun σ6 => wX6_both4 σ6 (fun r8 σ7 => ((¬ a1 = 0 → (wX6_either4_j39 σ7 ih Q)) ∧ (a1 = 0 → ((r8 = 0 → (wX6_either4_j44 0 σ7 ih Q)) ∧ (¬ r8 = 0 → (wX6_either4_j39 σ7 ih Q))))))))))
def wX6_either4_l5 (n : Nat) : Int32 → St → (Int32 → St → Prop) → Prop := @Nat.rec (fun _ => Int32 → St → (Int32 → St → Prop) → Prop) (fun _ _ _ => False) (fun _ ih a1 σ Q => wX6_either4_l5s (fun a1 σ => ih a1 σ Q) a1 σ Q) n
set_option maxRecDepth 100000 in
set_option maxHeartbeats 4000000 in
theorem bX6_either4_5 {p : Program} {l : Launch} {e : Env} {s : State} {m : MethodId} {args : Array Value} {below : List Frame} {meth : Method} {c : Code} {D : va_G} {F : (Nat → Prop) → State → Prop} {A : Nat → Prop} {ad : Nat → Nat → Nat} {cy : Nat → ClassId} {Rr : va_W} {Q : Int32 → St → Prop} (hF : Stab F) (E : CallFix p m c cX6_either4 3 s args TB RX6) (hr : meth.sig.returnType = some .int) (hlk : meth.locks = false) : ∀ (n : Nat) {a1 : Int32} {σ : St} {H : Heap} {locs : List Loc} {ls : Array Slot}, wX6_either4_l5 n a1 σ Q → In (D, tysM cy, F) (LM ad cy Rr σ) A s H locs → lv_has ls 3 [(0, .ref (ad 16 99)), (1, .int a1)] → W p l e (rmD 15) s m args below meth c H locs 0 0 (PI below args s (D, tysM cy, F) A (LM ad cy Rr) Q) (F0 m 5 ls []) := by
  have hx := E.1
  have hb := E.2.1
  intro n
  induction n with
  | zero => intro a1 σ H locs ls hf hI hl; exact False.elim hf
  | succ n ih =>
    intro a1 σ H locs ls hf hI hl
    have hf : wX6_either4_l5s (fun a1 σ => wX6_either4_l5 n a1 σ Q) a1 σ Q := hf
    unfold wX6_either4_l5s at hf
    refine lv_aload_n (pc := 5) hx hb dX6_either4_5 rfl (lv_at hl 0 rfl) ?_
    refine lv_bipush (v := 111) (pc := 6) hx hb dX6_either4_6 rfl ?_
    refine lv_bipush (v := 114) (pc := 8) hx hb dX6_either4_8 rfl ?_
    refine lv_iconst (v := 0) (pc := 10) hx hb dX6_either4_10 rfl ?_
    refine lv_iconst (v := 0) (pc := 11) hx hb dX6_either4_11 rfl ?_
    refine lv_iconst (v := 0) (pc := 12) hx hb dX6_either4_12 rfl ?_
    refine lv_iconst (v := 0) (pc := 13) hx hb dX6_either4_13 rfl ?_
    refine lv_iconst (v := 0) (pc := 14) hx hb dX6_either4_14 rfl ?_
    refine lv_iconst (v := 0) (pc := 15) hx hb dX6_either4_15 rfl ?_
    refine callVI (G := (D, tysM cy, F)) (L := LM ad cy Rr) (pc := 16) (As := [.int 111, .int 114, .int 0, .int 0, .int 0, .int 0, .int 0, .int 0]) (rest := []) hF E cs0 hl hI (tX6_isWord hF hf) mwX6_200 (fitD (by decide)) (at6) rfl rfl rfl rfl (Nat.le_of_ble_eq_true rfl) dX6_either4_16 (fun r4 σ3 H locs hf hI => ?_)
    refine lv_if_eq (tgt := 48) (pc := 19) hx hb dX6_either4_19 (by decide) (fun c5 => ?_) (fun c5 => ?_)
    · have hf := hf.1 c5
      refine lv_iload_n (pc := 48) hx hb dX6_either4_48 rfl (lv_at hl 1 rfl) ?_
      exact rI (pc := 49) E hr hlk hI hf dX6_either4_49
    · have hf := hf.2 c5
      refine lv_aload_n (pc := 22) hx hb dX6_either4_22 rfl (lv_at hl 0 rfl) ?_
      refine callVV (G := (D, tysM cy, F)) (L := LM ad cy Rr) (pc := 23) (As := []) (rest := []) hF E cs0 hl hI (tX6_next hF hf) mwX6_197 (fitD (by decide)) (at6) rfl rfl rfl rfl (Nat.le_of_ble_eq_true rfl) dX6_either4_23 (fun σ6 H locs hf hI => ?_)
      refine lv_aload_n (pc := 26) hx hb dX6_either4_26 rfl (lv_at hl 0 rfl) ?_
      refine callVI (G := (D, tysM cy, F)) (L := LM ad cy Rr) (pc := 27) (As := []) (rest := []) hF E cs0 hl hI (tX6_both4 hF hf) mwX6_267 (fitD (by decide)) (at6) rfl rfl rfl rfl (Nat.le_of_ble_eq_true rfl) dX6_either4_27 (fun r8 σ7 H locs hf hI => ?_)
      refine lv_istore_n (lv' := [(2, .int r8), (0, .ref (ad 16 99)), (1, .int a1)]) (pc := 30) hx hb dX6_either4_30 rfl hl (by decide) rfl (fun ls hl => ?_)
      refine lv_iload_n (pc := 31) hx hb dX6_either4_31 rfl (lv_at hl 2 rfl) ?_
      refine lv_if_ne (tgt := 39) (pc := 32) hx hb dX6_either4_32 (by decide) (fun c9 => ?_) (fun c9 => ?_)
      · have hf := hf.1 c9
        exact bX6_either4_39 hF E hr hlk (fun _ _ _ _ _ hf hI hl => ih hf hI hl) hf hI (lv_sub hl [1] rfl)
      · have hf := hf.2 c9
        refine lv_iload_n (pc := 35) hx hb dX6_either4_35 rfl (lv_at hl 0 rfl) ?_
        refine lv_if_eq (tgt := 43) (pc := 36) hx hb dX6_either4_36 (by decide) (fun c10 => ?_) (fun c10 => ?_)
        · have hf := hf.1 c10
          refine lv_iconst (v := 0) (pc := 43) hx hb dX6_either4_43 rfl ?_
          exact bX6_either4_44 hF E hr hlk (fun _ _ _ _ _ hf hI hl => ih hf hI hl) hf hI (lv_sub hl [1] rfl)
        · have hf := hf.2 c10
          exact bX6_either4_39 hF E hr hlk (fun _ _ _ _ _ hf hI hl => ih hf hI hl) hf hI (lv_sub hl [1] rfl)
def wX6_either4 (σ : St) (Q : Int32 → St → Prop) : Prop := wX6_both4 σ (fun r2 σ1 => ∃ n11 : Nat, wX6_either4_l5 n11 r2 σ1 Q)
set_option maxRecDepth 100000 in
set_option maxHeartbeats 4000000 in
theorem bX6_either4 {p : Program} {l : Launch} {e : Env} {s : State} {m : MethodId} {args : Array Value} {below : List Frame} {meth : Method} {c : Code} {H : Heap} {locs : List Loc} {ls : Array Slot} {D : va_G} {F : (Nat → Prop) → State → Prop} {A : Nat → Prop} {σ : St} {ad : Nat → Nat → Nat} {cy : Nat → ClassId} {Rr : va_W} {Q : Int32 → St → Prop} (hF : Stab F) (E : CallFix p m c cX6_either4 3 s args TB RX6) (hr : meth.sig.returnType = some .int) (hlk : meth.locks = false) (hf : wX6_either4 σ Q) (hI : In (D, tysM cy, F) (LM ad cy Rr σ) A s H locs) (hl : lv_has ls 3 [(0, .ref (ad 16 99))]) : W p l e (rmD 15) s m args below meth c H locs 0 0 (PI below args s (D, tysM cy, F) A (LM ad cy Rr) Q) (F0 m 0 ls []) := by
  have hx := E.1
  have hb := E.2.1
  unfold wX6_either4 at hf
  refine lv_aload_n (pc := 0) hx hb dX6_either4_0 rfl (lv_at hl 0 rfl) ?_
  refine callVI (G := (D, tysM cy, F)) (L := LM ad cy Rr) (pc := 1) (As := []) (rest := []) hF E cs0 hl hI (tX6_both4 hF hf) mwX6_267 (fitD (by decide)) (at6) rfl rfl rfl rfl (Nat.le_of_ble_eq_true rfl) dX6_either4_1 (fun r2 σ1 H locs hf hI => ?_)
  refine lv_istore_n (lv' := [(1, .int r2), (0, .ref (ad 16 99))]) (pc := 4) hx hb dX6_either4_4 rfl hl (by decide) rfl (fun ls hl => ?_)
  obtain ⟨n11, hf⟩ := hf
  exact bX6_either4_5 hF E hr hlk n11 hf hI (lv_sub hl [1, 0] rfl)
theorem tX6_either4 {l : Launch} {D : va_G} {F : (Nat → Prop) → State → Prop} {σ : St} {ad : Nat → Nat → Nat} {cy : Nat → ClassId} {Rr : va_W} {Q : Int32 → St → Prop} (hF : Stab F) (hf : wX6_either4 σ Q) : CtI l yX6_either4 cX6_either4 3 .int 15 (D, tysM cy, F) (LM ad cy Rr) [.ref (ad 16 99)] σ Q := mkI (by decide) (Nat.le_of_ble_eq_true rfl) (fun p e s m below meth c A E hr hlk hI ls hl => bX6_either4 hF E hr hlk hf hI hl)

def wX6_atom3_j157 (a1 : Int32) (σ : St) (Q : Int32 → St → Prop) : Prop := wX6_fail σ (fun σ9 => Q a1 σ9)
set_option maxRecDepth 100000 in
set_option maxHeartbeats 4000000 in
theorem bX6_atom3_157 {p : Program} {l : Launch} {e : Env} {s : State} {m : MethodId} {args : Array Value} {below : List Frame} {meth : Method} {c : Code} {H : Heap} {locs : List Loc} {ls : Array Slot} {D : va_G} {F : (Nat → Prop) → State → Prop} {A : Nat → Prop} {σ : St} {ad : Nat → Nat → Nat} {cy : Nat → ClassId} {Rr : va_W} {Q : Int32 → St → Prop} {a1 : Int32} (hF : Stab F) (E : CallFix p m c cX6_atom3 2 s args TB RX6) (hr : meth.sig.returnType = some .int) (hlk : meth.locks = false) (hf : wX6_atom3_j157 a1 σ Q) (hI : In (D, tysM cy, F) (LM ad cy Rr σ) A s H locs) (hl : lv_has ls 2 [(0, .ref (ad 16 99)), (1, .int a1)]) : W p l e (rmD 16) s m args below meth c H locs 0 0 (PI below args s (D, tysM cy, F) A (LM ad cy Rr) Q) (F0 m 157 ls []) := by
  have hx := E.1
  have hb := E.2.1
  unfold wX6_atom3_j157 at hf
  refine lv_aload_n (pc := 157) hx hb dX6_atom3_157 rfl (lv_at hl 0 rfl) ?_
  refine callVV (G := (D, tysM cy, F)) (L := LM ad cy Rr) (pc := 158) (As := []) (rest := []) hF E cs0 hl hI (tX6_fail hF hf) mwX6_194 (fitD (by decide)) (at6) rfl rfl rfl rfl (Nat.le_of_ble_eq_true rfl) dX6_atom3_158 (fun σ9 H locs hf hI => ?_)
  refine lv_iload_n (pc := 161) hx hb dX6_atom3_161 rfl (lv_at hl 1 rfl) ?_
  exact rI (pc := 162) E hr hlk hI hf dX6_atom3_162
def wX6_atom3_j123 (a1 : Int32) (σ : St) (Q : Int32 → St → Prop) : Prop := ((¬ (gI σ 16 27) = 0 → (wX6_atom3_j157 a1 σ Q)) ∧ ((gI σ 16 27) = 0 → ((¬ (gI σ 16 23) = 1 → (wX6_atom3_j157 a1 σ Q)) ∧ ((gI σ 16 23) = 1 → wX6_name σ (fun r12 σ11 => ((¬ (gI σ11 16 27) = 0 → Q r12 σ11) ∧ ((gI σ11 16 27) = 0 → wX6_next σ11 (fun σ14 => Q r12 σ14))))))))
set_option maxRecDepth 100000 in
set_option maxHeartbeats 4000000 in
theorem bX6_atom3_123 {p : Program} {l : Launch} {e : Env} {s : State} {m : MethodId} {args : Array Value} {below : List Frame} {meth : Method} {c : Code} {H : Heap} {locs : List Loc} {ls : Array Slot} {D : va_G} {F : (Nat → Prop) → State → Prop} {A : Nat → Prop} {σ : St} {ad : Nat → Nat → Nat} {cy : Nat → ClassId} {Rr : va_W} {Q : Int32 → St → Prop} {a1 : Int32} (hF : Stab F) (E : CallFix p m c cX6_atom3 2 s args TB RX6) (hr : meth.sig.returnType = some .int) (hlk : meth.locks = false) (hf : wX6_atom3_j123 a1 σ Q) (hI : In (D, tysM cy, F) (LM ad cy Rr σ) A s H locs) (hl : lv_has ls 2 [(0, .ref (ad 16 99)), (1, .int a1)]) : W p l e (rmD 16) s m args below meth c H locs 0 0 (PI below args s (D, tysM cy, F) A (LM ad cy Rr) Q) (F0 m 123 ls []) := by
  have hx := E.1
  have hb := E.2.1
  unfold wX6_atom3_j123 at hf
  refine lv_aload_n (pc := 123) hx hb dX6_atom3_123 rfl (lv_at hl 0 rfl) ?_
  refine g6_27 (pc := 124) E hI lkX6_181 dX6_atom3_124 ?_
  refine lv_if_ne (tgt := 157) (pc := 127) hx hb dX6_atom3_127 (by decide) (fun c8 => ?_) (fun c8 => ?_)
  · have hf := hf.1 c8
    exact bX6_atom3_157 hF E hr hlk hf hI (lv_sub hl [0, 1] rfl)
  · have hf := hf.2 c8
    refine lv_aload_n (pc := 130) hx hb dX6_atom3_130 rfl (lv_at hl 0 rfl) ?_
    refine g6_23 (pc := 131) E hI lkX6_165 dX6_atom3_131 ?_
    refine lv_iconst (v := 1) (pc := 134) hx hb dX6_atom3_134 rfl ?_
    refine lv_icmp_ne (tgt := 157) (pc := 135) hx hb dX6_atom3_135 (by decide) (fun c10 => ?_) (fun c10 => ?_)
    · have hf := hf.1 c10
      exact bX6_atom3_157 hF E hr hlk hf hI (lv_sub hl [0, 1] rfl)
    · have hf := hf.2 c10
      refine lv_aload_n (pc := 138) hx hb dX6_atom3_138 rfl (lv_at hl 0 rfl) ?_
      refine callVI (G := (D, tysM cy, F)) (L := LM ad cy Rr) (pc := 139) (As := []) (rest := []) hF E cs0 hl hI (tX6_name hF hf) mwX6_229 (fitD (by decide)) (at6) rfl rfl rfl rfl (Nat.le_of_ble_eq_true rfl) dX6_atom3_139 (fun r12 σ11 H locs hf hI => ?_)
      refine lv_istore_n (lv' := [(1, .int r12), (0, .ref (ad 16 99))]) (pc := 142) hx hb dX6_atom3_142 rfl hl (by decide) rfl (fun ls hl => ?_)
      refine lv_aload_n (pc := 143) hx hb dX6_atom3_143 rfl (lv_at hl 1 rfl) ?_
      refine g6_27 (pc := 144) E hI lkX6_181 dX6_atom3_144 ?_
      refine lv_if_ne (tgt := 161) (pc := 147) hx hb dX6_atom3_147 (by decide) (fun c13 => ?_) (fun c13 => ?_)
      · have hf := hf.1 c13
        refine lv_iload_n (pc := 161) hx hb dX6_atom3_161 rfl (lv_at hl 0 rfl) ?_
        exact rI (pc := 162) E hr hlk hI hf dX6_atom3_162
      · have hf := hf.2 c13
        refine lv_aload_n (pc := 150) hx hb dX6_atom3_150 rfl (lv_at hl 1 rfl) ?_
        refine callVV (G := (D, tysM cy, F)) (L := LM ad cy Rr) (pc := 151) (As := []) (rest := []) hF E cs0 hl hI (tX6_next hF hf) mwX6_197 (fitD (by decide)) (at6) rfl rfl rfl rfl (Nat.le_of_ble_eq_true rfl) dX6_atom3_151 (fun σ14 H locs hf hI => ?_)
        refine lv_goto (tgt := 161) (pc := 154) hx hb dX6_atom3_154 (by decide) ?_
        refine lv_iload_n (pc := 161) hx hb dX6_atom3_161 rfl (lv_at hl 0 rfl) ?_
        exact rI (pc := 162) E hr hlk hI hf dX6_atom3_162
def wX6_atom3_j71 (a1 : Int32) (σ : St) (Q : Int32 → St → Prop) : Prop := ∀ σ26 : St, σ26 = sI σ 16 26 ((gI σ 16 26) - 1) → ((¬ (gI σ26 16 27) = 0 → Q a1 σ26) ∧ ((gI σ26 16 27) = 0 → wX6_next σ26 (fun σ28 => Q a1 σ28)))
set_option maxRecDepth 100000 in
set_option maxHeartbeats 4000000 in
theorem bX6_atom3_71 {p : Program} {l : Launch} {e : Env} {s : State} {m : MethodId} {args : Array Value} {below : List Frame} {meth : Method} {c : Code} {H : Heap} {locs : List Loc} {ls : Array Slot} {D : va_G} {F : (Nat → Prop) → State → Prop} {A : Nat → Prop} {σ : St} {ad : Nat → Nat → Nat} {cy : Nat → ClassId} {Rr : va_W} {Q : Int32 → St → Prop} {a1 : Int32} (hF : Stab F) (E : CallFix p m c cX6_atom3 2 s args TB RX6) (hr : meth.sig.returnType = some .int) (hlk : meth.locks = false) (hf : wX6_atom3_j71 a1 σ Q) (hI : In (D, tysM cy, F) (LM ad cy Rr σ) A s H locs) (hl : lv_has ls 2 [(0, .ref (ad 16 99)), (1, .int a1)]) : W p l e (rmD 16) s m args below meth c H locs 0 0 (PI below args s (D, tysM cy, F) A (LM ad cy Rr) Q) (F0 m 71 ls []) := by
  have hx := E.1
  have hb := E.2.1
  unfold wX6_atom3_j71 at hf
  refine lv_aload_n (pc := 71) hx hb dX6_atom3_71 rfl (lv_at hl 0 rfl) ?_
  refine lv_dup (pc := 72) hx hb dX6_atom3_72 rfl ?_
  refine g6_26 (pc := 73) E hI lkX6_191 dX6_atom3_73 ?_
  refine lv_iconst (v := 1) (pc := 76) hx hb dX6_atom3_76 rfl ?_
  refine lv_isub (pc := 77) hx hb dX6_atom3_77 ?_
  refine p6_26 (pc := 78) E hI lkX6_191 dX6_atom3_78 (fun H locs σ26 eσ26 hI => ?_)
  have hf := hf σ26 eσ26
  refine lv_aload_n (pc := 81) hx hb dX6_atom3_81 rfl (lv_at hl 0 rfl) ?_
  refine g6_27 (pc := 82) E hI lkX6_181 dX6_atom3_82 ?_
  refine lv_if_ne (tgt := 161) (pc := 85) hx hb dX6_atom3_85 (by decide) (fun c27 => ?_) (fun c27 => ?_)
  · have hf := hf.1 c27
    refine lv_iload_n (pc := 161) hx hb dX6_atom3_161 rfl (lv_at hl 1 rfl) ?_
    exact rI (pc := 162) E hr hlk hI hf dX6_atom3_162
  · have hf := hf.2 c27
    refine lv_aload_n (pc := 88) hx hb dX6_atom3_88 rfl (lv_at hl 0 rfl) ?_
    refine callVV (G := (D, tysM cy, F)) (L := LM ad cy Rr) (pc := 89) (As := []) (rest := []) hF E cs0 hl hI (tX6_next hF hf) mwX6_197 (fitD (by decide)) (at6) rfl rfl rfl rfl (Nat.le_of_ble_eq_true rfl) dX6_atom3_89 (fun σ28 H locs hf hI => ?_)
    refine lv_goto (tgt := 161) (pc := 92) hx hb dX6_atom3_92 (by decide) ?_
    refine lv_iload_n (pc := 161) hx hb dX6_atom3_161 rfl (lv_at hl 1 rfl) ?_
    exact rI (pc := 162) E hr hlk hI hf dX6_atom3_162
def wX6_atom3 (σ : St) (Q : Int32 → St → Prop) : Prop := wX6_isSign 45 σ (fun r2 σ1 => ((r2 = 0 → wX6_isSign 40 σ1 (fun r5 σ4 => ((r5 = 0 → ((¬ (gI σ4 16 27) = 0 → (wX6_atom3_j123 0 σ4 Q)) ∧ ((gI σ4 16 27) = 0 → ((¬ (gI σ4 16 23) = 2 → (wX6_atom3_j123 0 σ4 Q)) ∧ ((gI σ4 16 23) = 2 → ∀ x16 : Int32, x16 = (((gJ σ4 16 25)).toInt32) → wX6_next σ4 (fun σ17 => Q x16 σ17)))))) ∧ (¬ r5 = 0 → wX6_opens σ4 (fun r19 σ18 => ((r19 = 0 → Q 0 σ18) ∧ (¬ r19 = 0 → wX6_either4 σ18 (fun r22 σ21 => wX6_isSign 41 σ21 (fun r24 σ23 => ((¬ r24 = 0 → (wX6_atom3_j71 r22 σ23 Q)) ∧ (r24 = 0 → wX6_fail σ23 (fun σ29 => (wX6_atom3_j71 r22 σ29 Q))))))))))))) ∧ (¬ r2 = 0 → wX6_opens σ1 (fun r31 σ30 => ((r31 = 0 → Q 0 σ30) ∧ (¬ r31 = 0 → wX6_atom4 σ30 (fun r34 σ33 => ∀ x35 : Int32, x35 = (-r34) → ∀ σ36 : St, σ36 = sI σ33 16 26 ((gI σ33 16 26) - 1) → Q x35 σ36)))))))
set_option maxRecDepth 100000 in
set_option maxHeartbeats 4000000 in
theorem bX6_atom3 {p : Program} {l : Launch} {e : Env} {s : State} {m : MethodId} {args : Array Value} {below : List Frame} {meth : Method} {c : Code} {H : Heap} {locs : List Loc} {ls : Array Slot} {D : va_G} {F : (Nat → Prop) → State → Prop} {A : Nat → Prop} {σ : St} {ad : Nat → Nat → Nat} {cy : Nat → ClassId} {Rr : va_W} {Q : Int32 → St → Prop} (hF : Stab F) (E : CallFix p m c cX6_atom3 2 s args TB RX6) (hr : meth.sig.returnType = some .int) (hlk : meth.locks = false) (hf : wX6_atom3 σ Q) (hI : In (D, tysM cy, F) (LM ad cy Rr σ) A s H locs) (hl : lv_has ls 2 [(0, .ref (ad 16 99))]) : W p l e (rmD 16) s m args below meth c H locs 0 0 (PI below args s (D, tysM cy, F) A (LM ad cy Rr) Q) (F0 m 0 ls []) := by
  have hx := E.1
  have hb := E.2.1
  unfold wX6_atom3 at hf
  refine lv_iconst (v := 0) (pc := 0) hx hb dX6_atom3_0 rfl ?_
  refine lv_istore_n (lv' := [(1, .int 0), (0, .ref (ad 16 99))]) (pc := 1) hx hb dX6_atom3_1 rfl hl (by decide) rfl (fun ls hl => ?_)
  refine lv_aload_n (pc := 2) hx hb dX6_atom3_2 rfl (lv_at hl 1 rfl) ?_
  refine lv_bipush (v := 45) (pc := 3) hx hb dX6_atom3_3 rfl ?_
  refine callVI (G := (D, tysM cy, F)) (L := LM ad cy Rr) (pc := 5) (As := [.int 45]) (rest := []) hF E cs0 hl hI (tX6_isSign hF hf) mwX6_222 (fitD (by decide)) (at6) rfl rfl rfl rfl (Nat.le_of_ble_eq_true rfl) dX6_atom3_5 (fun r2 σ1 H locs hf hI => ?_)
  refine lv_if_eq (tgt := 37) (pc := 8) hx hb dX6_atom3_8 (by decide) (fun c3 => ?_) (fun c3 => ?_)
  · have hf := hf.1 c3
    refine lv_aload_n (pc := 37) hx hb dX6_atom3_37 rfl (lv_at hl 1 rfl) ?_
    refine lv_bipush (v := 40) (pc := 38) hx hb dX6_atom3_38 rfl ?_
    refine callVI (G := (D, tysM cy, F)) (L := LM ad cy Rr) (pc := 40) (As := [.int 40]) (rest := []) hF E cs0 hl hI (tX6_isSign hF hf) mwX6_222 (fitD (by decide)) (at6) rfl rfl rfl rfl (Nat.le_of_ble_eq_true rfl) dX6_atom3_40 (fun r5 σ4 H locs hf hI => ?_)
    refine lv_if_eq (tgt := 95) (pc := 43) hx hb dX6_atom3_43 (by decide) (fun c6 => ?_) (fun c6 => ?_)
    · have hf := hf.1 c6
      refine lv_aload_n (pc := 95) hx hb dX6_atom3_95 rfl (lv_at hl 1 rfl) ?_
      refine g6_27 (pc := 96) E hI lkX6_181 dX6_atom3_96 ?_
      refine lv_if_ne (tgt := 123) (pc := 99) hx hb dX6_atom3_99 (by decide) (fun c7 => ?_) (fun c7 => ?_)
      · have hf := hf.1 c7
        exact bX6_atom3_123 hF E hr hlk hf hI (lv_sub hl [1, 0] rfl)
      · have hf := hf.2 c7
        refine lv_aload_n (pc := 102) hx hb dX6_atom3_102 rfl (lv_at hl 1 rfl) ?_
        refine g6_23 (pc := 103) E hI lkX6_165 dX6_atom3_103 ?_
        refine lv_iconst (v := 2) (pc := 106) hx hb dX6_atom3_106 rfl ?_
        refine lv_icmp_ne (tgt := 123) (pc := 107) hx hb dX6_atom3_107 (by decide) (fun c15 => ?_) (fun c15 => ?_)
        · have hf := hf.1 c15
          exact bX6_atom3_123 hF E hr hlk hf hI (lv_sub hl [1, 0] rfl)
        · have hf := hf.2 c15
          refine lv_aload_n (pc := 110) hx hb dX6_atom3_110 rfl (lv_at hl 1 rfl) ?_
          refine g6_25 (pc := 111) E hI lkX6_176 dX6_atom3_111 ?_
          refine lv_l2i (v := (((gJ σ4 16 25)).toInt32)) (pc := 114) hx hb dX6_atom3_114 rfl ?_
          refine lv_topi (fun x16 ex16 => ?_)
          have hf := hf x16 ex16
          refine lv_istore_n (lv' := [(1, .int x16), (0, .ref (ad 16 99))]) (pc := 115) hx hb dX6_atom3_115 rfl hl (by decide) rfl (fun ls hl => ?_)
          refine lv_aload_n (pc := 116) hx hb dX6_atom3_116 rfl (lv_at hl 1 rfl) ?_
          refine callVV (G := (D, tysM cy, F)) (L := LM ad cy Rr) (pc := 117) (As := []) (rest := []) hF E cs0 hl hI (tX6_next hF hf) mwX6_197 (fitD (by decide)) (at6) rfl rfl rfl rfl (Nat.le_of_ble_eq_true rfl) dX6_atom3_117 (fun σ17 H locs hf hI => ?_)
          refine lv_goto (tgt := 161) (pc := 120) hx hb dX6_atom3_120 (by decide) ?_
          refine lv_iload_n (pc := 161) hx hb dX6_atom3_161 rfl (lv_at hl 0 rfl) ?_
          exact rI (pc := 162) E hr hlk hI hf dX6_atom3_162
    · have hf := hf.2 c6
      refine lv_aload_n (pc := 46) hx hb dX6_atom3_46 rfl (lv_at hl 1 rfl) ?_
      refine callVI (G := (D, tysM cy, F)) (L := LM ad cy Rr) (pc := 47) (As := []) (rest := []) hF E cs0 hl hI (tX6_opens hF hf) mwX6_225 (fitD (by decide)) (at6) rfl rfl rfl rfl (Nat.le_of_ble_eq_true rfl) dX6_atom3_47 (fun r19 σ18 H locs hf hI => ?_)
      refine lv_if_eq (tgt := 161) (pc := 50) hx hb dX6_atom3_50 (by decide) (fun c20 => ?_) (fun c20 => ?_)
      · have hf := hf.1 c20
        refine lv_iload_n (pc := 161) hx hb dX6_atom3_161 rfl (lv_at hl 0 rfl) ?_
        exact rI (pc := 162) E hr hlk hI hf dX6_atom3_162
      · have hf := hf.2 c20
        refine lv_aload_n (pc := 53) hx hb dX6_atom3_53 rfl (lv_at hl 1 rfl) ?_
        refine callVI (G := (D, tysM cy, F)) (L := LM ad cy Rr) (pc := 54) (As := []) (rest := []) hF E cs0 hl hI (tX6_either4 hF hf) mwX6_270 (fitD (by decide)) (at6) rfl rfl rfl rfl (Nat.le_of_ble_eq_true rfl) dX6_atom3_54 (fun r22 σ21 H locs hf hI => ?_)
        refine lv_istore_n (lv' := [(1, .int r22), (0, .ref (ad 16 99))]) (pc := 57) hx hb dX6_atom3_57 rfl hl (by decide) rfl (fun ls hl => ?_)
        refine lv_aload_n (pc := 58) hx hb dX6_atom3_58 rfl (lv_at hl 1 rfl) ?_
        refine lv_bipush (v := 41) (pc := 59) hx hb dX6_atom3_59 rfl ?_
        refine callVI (G := (D, tysM cy, F)) (L := LM ad cy Rr) (pc := 61) (As := [.int 41]) (rest := []) hF E cs0 hl hI (tX6_isSign hF hf) mwX6_222 (fitD (by decide)) (at6) rfl rfl rfl rfl (Nat.le_of_ble_eq_true rfl) dX6_atom3_61 (fun r24 σ23 H locs hf hI => ?_)
        refine lv_if_ne (tgt := 71) (pc := 64) hx hb dX6_atom3_64 (by decide) (fun c25 => ?_) (fun c25 => ?_)
        · have hf := hf.1 c25
          exact bX6_atom3_71 hF E hr hlk hf hI (lv_sub hl [1, 0] rfl)
        · have hf := hf.2 c25
          refine lv_aload_n (pc := 67) hx hb dX6_atom3_67 rfl (lv_at hl 1 rfl) ?_
          refine callVV (G := (D, tysM cy, F)) (L := LM ad cy Rr) (pc := 68) (As := []) (rest := []) hF E cs0 hl hI (tX6_fail hF hf) mwX6_194 (fitD (by decide)) (at6) rfl rfl rfl rfl (Nat.le_of_ble_eq_true rfl) dX6_atom3_68 (fun σ29 H locs hf hI => ?_)
          exact bX6_atom3_71 hF E hr hlk hf hI (lv_sub hl [1, 0] rfl)
  · have hf := hf.2 c3
    refine lv_aload_n (pc := 11) hx hb dX6_atom3_11 rfl (lv_at hl 1 rfl) ?_
    refine callVI (G := (D, tysM cy, F)) (L := LM ad cy Rr) (pc := 12) (As := []) (rest := []) hF E cs0 hl hI (tX6_opens hF hf) mwX6_225 (fitD (by decide)) (at6) rfl rfl rfl rfl (Nat.le_of_ble_eq_true rfl) dX6_atom3_12 (fun r31 σ30 H locs hf hI => ?_)
    refine lv_if_eq (tgt := 161) (pc := 15) hx hb dX6_atom3_15 (by decide) (fun c32 => ?_) (fun c32 => ?_)
    · have hf := hf.1 c32
      refine lv_iload_n (pc := 161) hx hb dX6_atom3_161 rfl (lv_at hl 0 rfl) ?_
      exact rI (pc := 162) E hr hlk hI hf dX6_atom3_162
    · have hf := hf.2 c32
      refine lv_aload_n (pc := 18) hx hb dX6_atom3_18 rfl (lv_at hl 1 rfl) ?_
      refine callVI (G := (D, tysM cy, F)) (L := LM ad cy Rr) (pc := 19) (As := []) (rest := []) hF E cs0 hl hI (tX6_atom4 hF hf) mwX6_255 (fitD (by decide)) (at6) rfl rfl rfl rfl (Nat.le_of_ble_eq_true rfl) dX6_atom3_19 (fun r34 σ33 H locs hf hI => ?_)
      refine lv_ineg (pc := 22) hx hb dX6_atom3_22 ?_
      refine lv_topi (fun x35 ex35 => ?_)
      have hf := hf x35 ex35
      refine lv_istore_n (lv' := [(1, .int x35), (0, .ref (ad 16 99))]) (pc := 23) hx hb dX6_atom3_23 rfl hl (by decide) rfl (fun ls hl => ?_)
      refine lv_aload_n (pc := 24) hx hb dX6_atom3_24 rfl (lv_at hl 1 rfl) ?_
      refine lv_dup (pc := 25) hx hb dX6_atom3_25 rfl ?_
      refine g6_26 (pc := 26) E hI lkX6_191 dX6_atom3_26 ?_
      refine lv_iconst (v := 1) (pc := 29) hx hb dX6_atom3_29 rfl ?_
      refine lv_isub (pc := 30) hx hb dX6_atom3_30 ?_
      refine p6_26 (pc := 31) E hI lkX6_191 dX6_atom3_31 (fun H locs σ36 eσ36 hI => ?_)
      have hf := hf σ36 eσ36
      refine lv_goto (tgt := 161) (pc := 34) hx hb dX6_atom3_34 (by decide) ?_
      refine lv_iload_n (pc := 161) hx hb dX6_atom3_161 rfl (lv_at hl 0 rfl) ?_
      exact rI (pc := 162) E hr hlk hI hf dX6_atom3_162
theorem tX6_atom3 {l : Launch} {D : va_G} {F : (Nat → Prop) → State → Prop} {σ : St} {ad : Nat → Nat → Nat} {cy : Nat → ClassId} {Rr : va_W} {Q : Int32 → St → Prop} (hF : Stab F) (hf : wX6_atom3 σ Q) : CtI l yX6_atom3 cX6_atom3 2 .int 16 (D, tysM cy, F) (LM ad cy Rr) [.ref (ad 16 99)] σ Q := mkI (by decide) (Nat.le_of_ble_eq_true rfl) (fun p e s m below meth c A E hr hlk hI ls hl => bX6_atom3 hF E hr hlk hf hI hl)

def wX6_term3_l5s (ih : Int32 → St → Prop) (a1 : Int32) (σ : St) (Q : Int32 → St → Prop) : Prop := wX6_isSign 42 σ (fun r4 σ3 => ((r4 = 0 → Q a1 σ3) ∧ (¬ r4 = 0 → wX6_next σ3 (fun σ6 => wX6_atom3 σ6 (fun r8 σ7 => ∀ x9 : Int32, x9 = (a1 * r8) → (ih x9 σ7))))))
def wX6_term3_l5 (n : Nat) : Int32 → St → (Int32 → St → Prop) → Prop := @Nat.rec (fun _ => Int32 → St → (Int32 → St → Prop) → Prop) (fun _ _ _ => False) (fun _ ih a1 σ Q => wX6_term3_l5s (fun a1 σ => ih a1 σ Q) a1 σ Q) n
set_option maxRecDepth 100000 in
set_option maxHeartbeats 4000000 in
theorem bX6_term3_5 {p : Program} {l : Launch} {e : Env} {s : State} {m : MethodId} {args : Array Value} {below : List Frame} {meth : Method} {c : Code} {D : va_G} {F : (Nat → Prop) → State → Prop} {A : Nat → Prop} {ad : Nat → Nat → Nat} {cy : Nat → ClassId} {Rr : va_W} {Q : Int32 → St → Prop} (hF : Stab F) (E : CallFix p m c cX6_term3 2 s args TB RX6) (hr : meth.sig.returnType = some .int) (hlk : meth.locks = false) : ∀ (n : Nat) {a1 : Int32} {σ : St} {H : Heap} {locs : List Loc} {ls : Array Slot}, wX6_term3_l5 n a1 σ Q → In (D, tysM cy, F) (LM ad cy Rr σ) A s H locs → lv_has ls 2 [(0, .ref (ad 16 99)), (1, .int a1)] → W p l e (rmD 17) s m args below meth c H locs 0 0 (PI below args s (D, tysM cy, F) A (LM ad cy Rr) Q) (F0 m 5 ls []) := by
  have hx := E.1
  have hb := E.2.1
  intro n
  induction n with
  | zero => intro a1 σ H locs ls hf hI hl; exact False.elim hf
  | succ n ih =>
    intro a1 σ H locs ls hf hI hl
    have hf : wX6_term3_l5s (fun a1 σ => wX6_term3_l5 n a1 σ Q) a1 σ Q := hf
    unfold wX6_term3_l5s at hf
    refine lv_aload_n (pc := 5) hx hb dX6_term3_5 rfl (lv_at hl 0 rfl) ?_
    refine lv_bipush (v := 42) (pc := 6) hx hb dX6_term3_6 rfl ?_
    refine callVI (G := (D, tysM cy, F)) (L := LM ad cy Rr) (pc := 8) (As := [.int 42]) (rest := []) hF E cs0 hl hI (tX6_isSign hF hf) mwX6_222 (fitD (by decide)) (at6) rfl rfl rfl rfl (Nat.le_of_ble_eq_true rfl) dX6_term3_8 (fun r4 σ3 H locs hf hI => ?_)
    refine lv_if_eq (tgt := 28) (pc := 11) hx hb dX6_term3_11 (by decide) (fun c5 => ?_) (fun c5 => ?_)
    · have hf := hf.1 c5
      refine lv_iload_n (pc := 28) hx hb dX6_term3_28 rfl (lv_at hl 1 rfl) ?_
      exact rI (pc := 29) E hr hlk hI hf dX6_term3_29
    · have hf := hf.2 c5
      refine lv_aload_n (pc := 14) hx hb dX6_term3_14 rfl (lv_at hl 0 rfl) ?_
      refine callVV (G := (D, tysM cy, F)) (L := LM ad cy Rr) (pc := 15) (As := []) (rest := []) hF E cs0 hl hI (tX6_next hF hf) mwX6_197 (fitD (by decide)) (at6) rfl rfl rfl rfl (Nat.le_of_ble_eq_true rfl) dX6_term3_15 (fun σ6 H locs hf hI => ?_)
      refine lv_iload_n (pc := 18) hx hb dX6_term3_18 rfl (lv_at hl 1 rfl) ?_
      refine lv_aload_n (pc := 19) hx hb dX6_term3_19 rfl (lv_at hl 0 rfl) ?_
      refine callVI (G := (D, tysM cy, F)) (L := LM ad cy Rr) (pc := 20) (As := []) (rest := [.int a1]) hF E cs0 hl hI (tX6_atom3 hF hf) mwX6_273 (fitD (by decide)) (at6) rfl rfl rfl rfl (Nat.le_of_ble_eq_true rfl) dX6_term3_20 (fun r8 σ7 H locs hf hI => ?_)
      refine lv_imul (pc := 23) hx hb dX6_term3_23 ?_
      refine lv_topi (fun x9 ex9 => ?_)
      have hf := hf x9 ex9
      refine lv_istore_n (lv' := [(1, .int x9), (0, .ref (ad 16 99))]) (pc := 24) hx hb dX6_term3_24 rfl hl (by decide) rfl (fun ls hl => ?_)
      refine lv_goto (tgt := 5) (pc := 25) hx hb dX6_term3_25 (by decide) ?_
      exact ih hf hI (lv_sub hl [1, 0] rfl)
def wX6_term3 (σ : St) (Q : Int32 → St → Prop) : Prop := wX6_atom3 σ (fun r2 σ1 => ∃ n10 : Nat, wX6_term3_l5 n10 r2 σ1 Q)
set_option maxRecDepth 100000 in
set_option maxHeartbeats 4000000 in
theorem bX6_term3 {p : Program} {l : Launch} {e : Env} {s : State} {m : MethodId} {args : Array Value} {below : List Frame} {meth : Method} {c : Code} {H : Heap} {locs : List Loc} {ls : Array Slot} {D : va_G} {F : (Nat → Prop) → State → Prop} {A : Nat → Prop} {σ : St} {ad : Nat → Nat → Nat} {cy : Nat → ClassId} {Rr : va_W} {Q : Int32 → St → Prop} (hF : Stab F) (E : CallFix p m c cX6_term3 2 s args TB RX6) (hr : meth.sig.returnType = some .int) (hlk : meth.locks = false) (hf : wX6_term3 σ Q) (hI : In (D, tysM cy, F) (LM ad cy Rr σ) A s H locs) (hl : lv_has ls 2 [(0, .ref (ad 16 99))]) : W p l e (rmD 17) s m args below meth c H locs 0 0 (PI below args s (D, tysM cy, F) A (LM ad cy Rr) Q) (F0 m 0 ls []) := by
  have hx := E.1
  have hb := E.2.1
  unfold wX6_term3 at hf
  refine lv_aload_n (pc := 0) hx hb dX6_term3_0 rfl (lv_at hl 0 rfl) ?_
  refine callVI (G := (D, tysM cy, F)) (L := LM ad cy Rr) (pc := 1) (As := []) (rest := []) hF E cs0 hl hI (tX6_atom3 hF hf) mwX6_273 (fitD (by decide)) (at6) rfl rfl rfl rfl (Nat.le_of_ble_eq_true rfl) dX6_term3_1 (fun r2 σ1 H locs hf hI => ?_)
  refine lv_istore_n (lv' := [(1, .int r2), (0, .ref (ad 16 99))]) (pc := 4) hx hb dX6_term3_4 rfl hl (by decide) rfl (fun ls hl => ?_)
  obtain ⟨n10, hf⟩ := hf
  exact bX6_term3_5 hF E hr hlk n10 hf hI (lv_sub hl [1, 0] rfl)
theorem tX6_term3 {l : Launch} {D : va_G} {F : (Nat → Prop) → State → Prop} {σ : St} {ad : Nat → Nat → Nat} {cy : Nat → ClassId} {Rr : va_W} {Q : Int32 → St → Prop} (hF : Stab F) (hf : wX6_term3 σ Q) : CtI l yX6_term3 cX6_term3 2 .int 17 (D, tysM cy, F) (LM ad cy Rr) [.ref (ad 16 99)] σ Q := mkI (by decide) (Nat.le_of_ble_eq_true rfl) (fun p e s m below meth c A E hr hlk hI ls hl => bX6_term3 hF E hr hlk hf hI hl)

def wX6_added3_j62 (s0 : Int32) (σ : St) (K : Int32 → St → Prop) (Q : Int32 → St → Prop) : Prop := (K s0 σ)
set_option maxRecDepth 100000 in
set_option maxHeartbeats 4000000 in
theorem bX6_added3_62 {p : Program} {l : Launch} {e : Env} {s : State} {m : MethodId} {args : Array Value} {below : List Frame} {meth : Method} {c : Code} {H : Heap} {locs : List Loc} {ls : Array Slot} {D : va_G} {F : (Nat → Prop) → State → Prop} {A : Nat → Prop} {σ : St} {ad : Nat → Nat → Nat} {cy : Nat → ClassId} {Rr : va_W} {Q : Int32 → St → Prop} {s0 : Int32} {K : Int32 → St → Prop} (hF : Stab F) (E : CallFix p m c cX6_added3 4 s args TB RX6) (hr : meth.sig.returnType = some .int) (hlk : meth.locks = false) (hK : ∀ (a1 : Int32) (σ : St) (H : Heap) (locs : List Loc) (ls : Array Slot), K a1 σ → In (D, tysM cy, F) (LM ad cy Rr σ) A s H locs → lv_has ls 4 [(0, .ref (ad 16 99)), (1, .int a1)] → W p l e (rmD 18) s m args below meth c H locs 0 0 (PI below args s (D, tysM cy, F) A (LM ad cy Rr) Q) (F0 m 5 ls [])) (hf : wX6_added3_j62 s0 σ K Q) (hI : In (D, tysM cy, F) (LM ad cy Rr σ) A s H locs) (hl : lv_has ls 4 [(0, .ref (ad 16 99))]) : W p l e (rmD 18) s m args below meth c H locs 0 0 (PI below args s (D, tysM cy, F) A (LM ad cy Rr) Q) (F0 m 62 ls [.int s0]) := by
  have hx := E.1
  have hb := E.2.1
  unfold wX6_added3_j62 at hf
  refine lv_istore_n (lv' := [(1, .int s0), (0, .ref (ad 16 99))]) (pc := 62) hx hb dX6_added3_62 rfl hl (by decide) rfl (fun ls hl => ?_)
  refine lv_goto (tgt := 5) (pc := 63) hx hb dX6_added3_63 (by decide) ?_
  exact hK _ _ _ _ _ hf hI (lv_sub hl [1, 0] rfl)
def wX6_added3_j39 (a1 : Int32) (s0 : Int32) (σ : St) (K : Int32 → St → Prop) (Q : Int32 → St → Prop) : Prop := wX6_next σ (fun σ7 => wX6_term3 σ7 (fun r9 σ8 => ((s0 = 0 → (wX6_added3_j62 (a1 - r9) σ8 K Q)) ∧ (¬ s0 = 0 → (wX6_added3_j62 (a1 + r9) σ8 K Q)))))
set_option maxRecDepth 100000 in
set_option maxHeartbeats 4000000 in
theorem bX6_added3_39 {p : Program} {l : Launch} {e : Env} {s : State} {m : MethodId} {args : Array Value} {below : List Frame} {meth : Method} {c : Code} {H : Heap} {locs : List Loc} {ls : Array Slot} {D : va_G} {F : (Nat → Prop) → State → Prop} {A : Nat → Prop} {σ : St} {ad : Nat → Nat → Nat} {cy : Nat → ClassId} {Rr : va_W} {Q : Int32 → St → Prop} {a1 : Int32} {s0 : Int32} {K : Int32 → St → Prop} (hF : Stab F) (E : CallFix p m c cX6_added3 4 s args TB RX6) (hr : meth.sig.returnType = some .int) (hlk : meth.locks = false) (hK : ∀ (a1 : Int32) (σ : St) (H : Heap) (locs : List Loc) (ls : Array Slot), K a1 σ → In (D, tysM cy, F) (LM ad cy Rr σ) A s H locs → lv_has ls 4 [(0, .ref (ad 16 99)), (1, .int a1)] → W p l e (rmD 18) s m args below meth c H locs 0 0 (PI below args s (D, tysM cy, F) A (LM ad cy Rr) Q) (F0 m 5 ls [])) (hf : wX6_added3_j39 a1 s0 σ K Q) (hI : In (D, tysM cy, F) (LM ad cy Rr σ) A s H locs) (hl : lv_has ls 4 [(0, .ref (ad 16 99)), (1, .int a1)]) : W p l e (rmD 18) s m args below meth c H locs 0 0 (PI below args s (D, tysM cy, F) A (LM ad cy Rr) Q) (F0 m 39 ls [.int s0]) := by
  have hx := E.1
  have hb := E.2.1
  unfold wX6_added3_j39 at hf
  refine lv_istore_n (lv' := [(2, .int s0), (0, .ref (ad 16 99)), (1, .int a1)]) (pc := 39) hx hb dX6_added3_39 rfl hl (by decide) rfl (fun ls hl => ?_)
  refine lv_aload_n (pc := 40) hx hb dX6_added3_40 rfl (lv_at hl 1 rfl) ?_
  refine callVV (G := (D, tysM cy, F)) (L := LM ad cy Rr) (pc := 41) (As := []) (rest := []) hF E cs0 hl hI (tX6_next hF hf) mwX6_197 (fitD (by decide)) (at6) rfl rfl rfl rfl (Nat.le_of_ble_eq_true rfl) dX6_added3_41 (fun σ7 H locs hf hI => ?_)
  refine lv_aload_n (pc := 44) hx hb dX6_added3_44 rfl (lv_at hl 1 rfl) ?_
  refine callVI (G := (D, tysM cy, F)) (L := LM ad cy Rr) (pc := 45) (As := []) (rest := []) hF E cs0 hl hI (tX6_term3 hF hf) mwX6_276 (fitD (by decide)) (at6) rfl rfl rfl rfl (Nat.le_of_ble_eq_true rfl) dX6_added3_45 (fun r9 σ8 H locs hf hI => ?_)
  refine lv_istore_n (lv' := [(3, .int r9), (2, .int s0), (0, .ref (ad 16 99)), (1, .int a1)]) (pc := 48) hx hb dX6_added3_48 rfl hl (by decide) rfl (fun ls hl => ?_)
  refine lv_iload_n (pc := 49) hx hb dX6_added3_49 rfl (lv_at hl 1 rfl) ?_
  refine lv_if_eq (tgt := 59) (pc := 50) hx hb dX6_added3_50 (by decide) (fun c10 => ?_) (fun c10 => ?_)
  · have hf := hf.1 c10
    refine lv_iload_n (pc := 59) hx hb dX6_added3_59 rfl (lv_at hl 3 rfl) ?_
    refine lv_iload_n (pc := 60) hx hb dX6_added3_60 rfl (lv_at hl 0 rfl) ?_
    refine lv_isub (pc := 61) hx hb dX6_added3_61 ?_
    exact bX6_added3_62 hF E hr hlk hK hf hI (lv_sub hl [2] rfl)
  · have hf := hf.2 c10
    refine lv_iload_n (pc := 53) hx hb dX6_added3_53 rfl (lv_at hl 3 rfl) ?_
    refine lv_iload_n (pc := 54) hx hb dX6_added3_54 rfl (lv_at hl 0 rfl) ?_
    refine lv_iadd (pc := 55) hx hb dX6_added3_55 ?_
    refine lv_goto (tgt := 62) (pc := 56) hx hb dX6_added3_56 (by decide) ?_
    exact bX6_added3_62 hF E hr hlk hK hf hI (lv_sub hl [2] rfl)
def wX6_added3_j23 (a1 : Int32) (σ : St) (K : Int32 → St → Prop) (Q : Int32 → St → Prop) : Prop := ((¬ (lg_cmp (gJ σ 16 25) 43) = 0 → (wX6_added3_j39 a1 0 σ K Q)) ∧ ((lg_cmp (gJ σ 16 25) 43) = 0 → (wX6_added3_j39 a1 1 σ K Q)))
set_option maxRecDepth 100000 in
set_option maxHeartbeats 4000000 in
theorem bX6_added3_23 {p : Program} {l : Launch} {e : Env} {s : State} {m : MethodId} {args : Array Value} {below : List Frame} {meth : Method} {c : Code} {H : Heap} {locs : List Loc} {ls : Array Slot} {D : va_G} {F : (Nat → Prop) → State → Prop} {A : Nat → Prop} {σ : St} {ad : Nat → Nat → Nat} {cy : Nat → ClassId} {Rr : va_W} {Q : Int32 → St → Prop} {a1 : Int32} {K : Int32 → St → Prop} (hF : Stab F) (E : CallFix p m c cX6_added3 4 s args TB RX6) (hr : meth.sig.returnType = some .int) (hlk : meth.locks = false) (hK : ∀ (a1 : Int32) (σ : St) (H : Heap) (locs : List Loc) (ls : Array Slot), K a1 σ → In (D, tysM cy, F) (LM ad cy Rr σ) A s H locs → lv_has ls 4 [(0, .ref (ad 16 99)), (1, .int a1)] → W p l e (rmD 18) s m args below meth c H locs 0 0 (PI below args s (D, tysM cy, F) A (LM ad cy Rr) Q) (F0 m 5 ls [])) (hf : wX6_added3_j23 a1 σ K Q) (hI : In (D, tysM cy, F) (LM ad cy Rr σ) A s H locs) (hl : lv_has ls 4 [(0, .ref (ad 16 99)), (1, .int a1)]) : W p l e (rmD 18) s m args below meth c H locs 0 0 (PI below args s (D, tysM cy, F) A (LM ad cy Rr) Q) (F0 m 23 ls []) := by
  have hx := E.1
  have hb := E.2.1
  unfold wX6_added3_j23 at hf
  refine lv_aload_n (pc := 23) hx hb dX6_added3_23 rfl (lv_at hl 0 rfl) ?_
  refine g6_25 (pc := 24) E hI lkX6_176 dX6_added3_24 ?_
  refine lv_ldc2 (pc := 27) E.1 E.2.1 E.2.2.2.1 (E.2.2.2.2 _ kcX6_239) dX6_added3_27 ?_
  refine W.lcmp (pc := 30) hx hb dX6_added3_30 ?_
  refine lv_if_ne (tgt := 38) (pc := 31) hx hb dX6_added3_31 (by decide) (fun c6 => ?_) (fun c6 => ?_)
  · have hf := hf.1 c6
    refine lv_iconst (v := 0) (pc := 38) hx hb dX6_added3_38 rfl ?_
    exact bX6_added3_39 hF E hr hlk hK hf hI (lv_sub hl [0, 1] rfl)
  · have hf := hf.2 c6
    refine lv_iconst (v := 1) (pc := 34) hx hb dX6_added3_34 rfl ?_
    refine lv_goto (tgt := 39) (pc := 35) hx hb dX6_added3_35 (by decide) ?_
    exact bX6_added3_39 hF E hr hlk hK hf hI (lv_sub hl [0, 1] rfl)
def wX6_added3_l5s (ih : Int32 → St → Prop) (a1 : Int32) (σ : St) (Q : Int32 → St → Prop) : Prop := wX6_isSign 43 σ (fun r4 σ3 => ((¬ r4 = 0 → (wX6_added3_j23 a1 σ3 ih Q)) ∧ (r4 = 0 → wX6_isSign 45 σ3 (fun r12 σ11 => ((r12 = 0 → Q a1 σ11) ∧ (¬ r12 = 0 → (wX6_added3_j23 a1 σ11 ih Q)))))))
def wX6_added3_l5 (n : Nat) : Int32 → St → (Int32 → St → Prop) → Prop := @Nat.rec (fun _ => Int32 → St → (Int32 → St → Prop) → Prop) (fun _ _ _ => False) (fun _ ih a1 σ Q => wX6_added3_l5s (fun a1 σ => ih a1 σ Q) a1 σ Q) n
set_option maxRecDepth 100000 in
set_option maxHeartbeats 4000000 in
theorem bX6_added3_5 {p : Program} {l : Launch} {e : Env} {s : State} {m : MethodId} {args : Array Value} {below : List Frame} {meth : Method} {c : Code} {D : va_G} {F : (Nat → Prop) → State → Prop} {A : Nat → Prop} {ad : Nat → Nat → Nat} {cy : Nat → ClassId} {Rr : va_W} {Q : Int32 → St → Prop} (hF : Stab F) (E : CallFix p m c cX6_added3 4 s args TB RX6) (hr : meth.sig.returnType = some .int) (hlk : meth.locks = false) : ∀ (n : Nat) {a1 : Int32} {σ : St} {H : Heap} {locs : List Loc} {ls : Array Slot}, wX6_added3_l5 n a1 σ Q → In (D, tysM cy, F) (LM ad cy Rr σ) A s H locs → lv_has ls 4 [(0, .ref (ad 16 99)), (1, .int a1)] → W p l e (rmD 18) s m args below meth c H locs 0 0 (PI below args s (D, tysM cy, F) A (LM ad cy Rr) Q) (F0 m 5 ls []) := by
  have hx := E.1
  have hb := E.2.1
  intro n
  induction n with
  | zero => intro a1 σ H locs ls hf hI hl; exact False.elim hf
  | succ n ih =>
    intro a1 σ H locs ls hf hI hl
    have hf : wX6_added3_l5s (fun a1 σ => wX6_added3_l5 n a1 σ Q) a1 σ Q := hf
    unfold wX6_added3_l5s at hf
    refine lv_aload_n (pc := 5) hx hb dX6_added3_5 rfl (lv_at hl 0 rfl) ?_
    refine lv_bipush (v := 43) (pc := 6) hx hb dX6_added3_6 rfl ?_
    refine callVI (G := (D, tysM cy, F)) (L := LM ad cy Rr) (pc := 8) (As := [.int 43]) (rest := []) hF E cs0 hl hI (tX6_isSign hF hf) mwX6_222 (fitD (by decide)) (at6) rfl rfl rfl rfl (Nat.le_of_ble_eq_true rfl) dX6_added3_8 (fun r4 σ3 H locs hf hI => ?_)
    refine lv_if_ne (tgt := 23) (pc := 11) hx hb dX6_added3_11 (by decide) (fun c5 => ?_) (fun c5 => ?_)
    · have hf := hf.1 c5
      exact bX6_added3_23 hF E hr hlk (fun _ _ _ _ _ hf hI hl => ih hf hI hl) hf hI (lv_sub hl [0, 1] rfl)
    · have hf := hf.2 c5
      refine lv_aload_n (pc := 14) hx hb dX6_added3_14 rfl (lv_at hl 0 rfl) ?_
      refine lv_bipush (v := 45) (pc := 15) hx hb dX6_added3_15 rfl ?_
      refine callVI (G := (D, tysM cy, F)) (L := LM ad cy Rr) (pc := 17) (As := [.int 45]) (rest := []) hF E cs0 hl hI (tX6_isSign hF hf) mwX6_222 (fitD (by decide)) (at6) rfl rfl rfl rfl (Nat.le_of_ble_eq_true rfl) dX6_added3_17 (fun r12 σ11 H locs hf hI => ?_)
      refine lv_if_eq (tgt := 66) (pc := 20) hx hb dX6_added3_20 (by decide) (fun c13 => ?_) (fun c13 => ?_)
      · have hf := hf.1 c13
        refine lv_iload_n (pc := 66) hx hb dX6_added3_66 rfl (lv_at hl 1 rfl) ?_
        exact rI (pc := 67) E hr hlk hI hf dX6_added3_67
      · have hf := hf.2 c13
        exact bX6_added3_23 hF E hr hlk (fun _ _ _ _ _ hf hI hl => ih hf hI hl) hf hI (lv_sub hl [0, 1] rfl)
def wX6_added3 (σ : St) (Q : Int32 → St → Prop) : Prop := wX6_term3 σ (fun r2 σ1 => ∃ n14 : Nat, wX6_added3_l5 n14 r2 σ1 Q)
set_option maxRecDepth 100000 in
set_option maxHeartbeats 4000000 in
theorem bX6_added3 {p : Program} {l : Launch} {e : Env} {s : State} {m : MethodId} {args : Array Value} {below : List Frame} {meth : Method} {c : Code} {H : Heap} {locs : List Loc} {ls : Array Slot} {D : va_G} {F : (Nat → Prop) → State → Prop} {A : Nat → Prop} {σ : St} {ad : Nat → Nat → Nat} {cy : Nat → ClassId} {Rr : va_W} {Q : Int32 → St → Prop} (hF : Stab F) (E : CallFix p m c cX6_added3 4 s args TB RX6) (hr : meth.sig.returnType = some .int) (hlk : meth.locks = false) (hf : wX6_added3 σ Q) (hI : In (D, tysM cy, F) (LM ad cy Rr σ) A s H locs) (hl : lv_has ls 4 [(0, .ref (ad 16 99))]) : W p l e (rmD 18) s m args below meth c H locs 0 0 (PI below args s (D, tysM cy, F) A (LM ad cy Rr) Q) (F0 m 0 ls []) := by
  have hx := E.1
  have hb := E.2.1
  unfold wX6_added3 at hf
  refine lv_aload_n (pc := 0) hx hb dX6_added3_0 rfl (lv_at hl 0 rfl) ?_
  refine callVI (G := (D, tysM cy, F)) (L := LM ad cy Rr) (pc := 1) (As := []) (rest := []) hF E cs0 hl hI (tX6_term3 hF hf) mwX6_276 (fitD (by decide)) (at6) rfl rfl rfl rfl (Nat.le_of_ble_eq_true rfl) dX6_added3_1 (fun r2 σ1 H locs hf hI => ?_)
  refine lv_istore_n (lv' := [(1, .int r2), (0, .ref (ad 16 99))]) (pc := 4) hx hb dX6_added3_4 rfl hl (by decide) rfl (fun ls hl => ?_)
  obtain ⟨n14, hf⟩ := hf
  exact bX6_added3_5 hF E hr hlk n14 hf hI (lv_sub hl [1, 0] rfl)
theorem tX6_added3 {l : Launch} {D : va_G} {F : (Nat → Prop) → State → Prop} {σ : St} {ad : Nat → Nat → Nat} {cy : Nat → ClassId} {Rr : va_W} {Q : Int32 → St → Prop} (hF : Stab F) (hf : wX6_added3 σ Q) : CtI l yX6_added3 cX6_added3 4 .int 18 (D, tysM cy, F) (LM ad cy Rr) [.ref (ad 16 99)] σ Q := mkI (by decide) (Nat.le_of_ble_eq_true rfl) (fun p e s m below meth c A E hr hlk hI ls hl => bX6_added3 hF E hr hlk hf hI hl)

def wX6_not3_j93 (a1 : Int32) (s0 : Int32) (σ : St) (Q : Int32 → St → Prop) : Prop := wX6_next σ (fun σ10 => wX6_added3 σ10 (fun r12 σ11 => ((s0 = 0 → ((¬ a1 = r12 → Q 0 σ11) ∧ (a1 = r12 → Q 1 σ11))) ∧ (¬ s0 = 0 → ((r12 ≤ a1 → Q 0 σ11) ∧ (¬ r12 ≤ a1 → Q 1 σ11))))))
set_option maxRecDepth 100000 in
set_option maxHeartbeats 4000000 in
theorem bX6_not3_93 {p : Program} {l : Launch} {e : Env} {s : State} {m : MethodId} {args : Array Value} {below : List Frame} {meth : Method} {c : Code} {H : Heap} {locs : List Loc} {ls : Array Slot} {D : va_G} {F : (Nat → Prop) → State → Prop} {A : Nat → Prop} {σ : St} {ad : Nat → Nat → Nat} {cy : Nat → ClassId} {Rr : va_W} {Q : Int32 → St → Prop} {a1 : Int32} {s0 : Int32} (hF : Stab F) (E : CallFix p m c cX6_not3 4 s args TB RX6) (hr : meth.sig.returnType = some .int) (hlk : meth.locks = false) (hf : wX6_not3_j93 a1 s0 σ Q) (hI : In (D, tysM cy, F) (LM ad cy Rr σ) A s H locs) (hl : lv_has ls 4 [(0, .ref (ad 16 99)), (1, .int a1)]) : W p l e (rmD 19) s m args below meth c H locs 0 0 (PI below args s (D, tysM cy, F) A (LM ad cy Rr) Q) (F0 m 93 ls [.int s0]) := by
  have hx := E.1
  have hb := E.2.1
  unfold wX6_not3_j93 at hf
  refine lv_istore_n (lv' := [(2, .int s0), (0, .ref (ad 16 99)), (1, .int a1)]) (pc := 93) hx hb dX6_not3_93 rfl hl (by decide) rfl (fun ls hl => ?_)
  refine lv_aload_n (pc := 94) hx hb dX6_not3_94 rfl (lv_at hl 1 rfl) ?_
  refine callVV (G := (D, tysM cy, F)) (L := LM ad cy Rr) (pc := 95) (As := []) (rest := []) hF E cs0 hl hI (tX6_next hF hf) mwX6_197 (fitD (by decide)) (at6) rfl rfl rfl rfl (Nat.le_of_ble_eq_true rfl) dX6_not3_95 (fun σ10 H locs hf hI => ?_)
  refine lv_aload_n (pc := 98) hx hb dX6_not3_98 rfl (lv_at hl 1 rfl) ?_
  refine callVI (G := (D, tysM cy, F)) (L := LM ad cy Rr) (pc := 99) (As := []) (rest := []) hF E cs0 hl hI (tX6_added3 hF hf) mwX6_279 (fitD (by decide)) (at6) rfl rfl rfl rfl (Nat.le_of_ble_eq_true rfl) dX6_not3_99 (fun r12 σ11 H locs hf hI => ?_)
  refine lv_istore_n (lv' := [(3, .int r12), (2, .int s0), (0, .ref (ad 16 99)), (1, .int a1)]) (pc := 102) hx hb dX6_not3_102 rfl hl (by decide) rfl (fun ls hl => ?_)
  refine lv_iload_n (pc := 103) hx hb dX6_not3_103 rfl (lv_at hl 1 rfl) ?_
  refine lv_if_eq (tgt := 115) (pc := 104) hx hb dX6_not3_104 (by decide) (fun c13 => ?_) (fun c13 => ?_)
  · have hf := hf.1 c13
    refine lv_iload_n (pc := 115) hx hb dX6_not3_115 rfl (lv_at hl 3 rfl) ?_
    refine lv_iload_n (pc := 116) hx hb dX6_not3_116 rfl (lv_at hl 0 rfl) ?_
    refine lv_icmp_ne (tgt := 124) (pc := 117) hx hb dX6_not3_117 (by decide) (fun c14 => ?_) (fun c14 => ?_)
    · have hf := hf.1 c14
      refine lv_iconst (v := 0) (pc := 124) hx hb dX6_not3_124 rfl ?_
      exact rI (pc := 125) E hr hlk hI hf dX6_not3_125
    · have hf := hf.2 c14
      refine lv_iconst (v := 1) (pc := 120) hx hb dX6_not3_120 rfl ?_
      refine lv_goto (tgt := 125) (pc := 121) hx hb dX6_not3_121 (by decide) ?_
      exact rI (pc := 125) E hr hlk hI hf dX6_not3_125
  · have hf := hf.2 c13
    refine lv_iload_n (pc := 107) hx hb dX6_not3_107 rfl (lv_at hl 3 rfl) ?_
    refine lv_iload_n (pc := 108) hx hb dX6_not3_108 rfl (lv_at hl 0 rfl) ?_
    refine lv_icmp_ge (tgt := 124) (pc := 109) hx hb dX6_not3_109 (by decide) (fun c15 => ?_) (fun c15 => ?_)
    · have hf := hf.1 c15
      refine lv_iconst (v := 0) (pc := 124) hx hb dX6_not3_124 rfl ?_
      exact rI (pc := 125) E hr hlk hI hf dX6_not3_125
    · have hf := hf.2 c15
      refine lv_goto (tgt := 120) (pc := 112) hx hb dX6_not3_112 (by decide) ?_
      refine lv_iconst (v := 1) (pc := 120) hx hb dX6_not3_120 rfl ?_
      refine lv_goto (tgt := 125) (pc := 121) hx hb dX6_not3_121 (by decide) ?_
      exact rI (pc := 125) E hr hlk hI hf dX6_not3_125
def wX6_not3_j77 (a1 : Int32) (σ : St) (Q : Int32 → St → Prop) : Prop := ((¬ (lg_cmp (gJ σ 16 25) 60) = 0 → (wX6_not3_j93 a1 0 σ Q)) ∧ ((lg_cmp (gJ σ 16 25) 60) = 0 → (wX6_not3_j93 a1 1 σ Q)))
set_option maxRecDepth 100000 in
set_option maxHeartbeats 4000000 in
theorem bX6_not3_77 {p : Program} {l : Launch} {e : Env} {s : State} {m : MethodId} {args : Array Value} {below : List Frame} {meth : Method} {c : Code} {H : Heap} {locs : List Loc} {ls : Array Slot} {D : va_G} {F : (Nat → Prop) → State → Prop} {A : Nat → Prop} {σ : St} {ad : Nat → Nat → Nat} {cy : Nat → ClassId} {Rr : va_W} {Q : Int32 → St → Prop} {a1 : Int32} (hF : Stab F) (E : CallFix p m c cX6_not3 4 s args TB RX6) (hr : meth.sig.returnType = some .int) (hlk : meth.locks = false) (hf : wX6_not3_j77 a1 σ Q) (hI : In (D, tysM cy, F) (LM ad cy Rr σ) A s H locs) (hl : lv_has ls 4 [(0, .ref (ad 16 99)), (1, .int a1)]) : W p l e (rmD 19) s m args below meth c H locs 0 0 (PI below args s (D, tysM cy, F) A (LM ad cy Rr) Q) (F0 m 77 ls []) := by
  have hx := E.1
  have hb := E.2.1
  unfold wX6_not3_j77 at hf
  refine lv_aload_n (pc := 77) hx hb dX6_not3_77 rfl (lv_at hl 0 rfl) ?_
  refine g6_25 (pc := 78) E hI lkX6_176 dX6_not3_78 ?_
  refine lv_ldc2 (pc := 81) E.1 E.2.1 E.2.2.2.1 (E.2.2.2.2 _ kcX6_244) dX6_not3_81 ?_
  refine W.lcmp (pc := 84) hx hb dX6_not3_84 ?_
  refine lv_if_ne (tgt := 92) (pc := 85) hx hb dX6_not3_85 (by decide) (fun c9 => ?_) (fun c9 => ?_)
  · have hf := hf.1 c9
    refine lv_iconst (v := 0) (pc := 92) hx hb dX6_not3_92 rfl ?_
    exact bX6_not3_93 hF E hr hlk hf hI (lv_sub hl [0, 1] rfl)
  · have hf := hf.2 c9
    refine lv_iconst (v := 1) (pc := 88) hx hb dX6_not3_88 rfl ?_
    refine lv_goto (tgt := 93) (pc := 89) hx hb dX6_not3_89 (by decide) ?_
    exact bX6_not3_93 hF E hr hlk hf hI (lv_sub hl [0, 1] rfl)
def wX6_not3 (σ : St) (Q : Int32 → St → Prop) : Prop := wX6_isWord 110 111 116 0 0 0 0 0 σ (fun r2 σ1 => ((r2 = 0 → wX6_added3 σ1 (fun r5 σ4 => wX6_isSign 60 σ4 (fun r7 σ6 => ((¬ r7 = 0 → (wX6_not3_j77 r5 σ6 Q)) ∧ (r7 = 0 → wX6_isSign 61 σ6 (fun r17 σ16 => ((¬ r17 = 0 → (wX6_not3_j77 r5 σ16 Q)) ∧ (r17 = 0 → Q r5 σ16)))))))) ∧ (¬ r2 = 0 → wX6_opens σ1 (fun r20 σ19 => ((¬ r20 = 0 → wX6_not4 σ19 (fun r23 σ22 => ∀ σ24 : St, σ24 = sI σ22 16 26 ((gI σ22 16 26) - 1) → ((¬ r23 = 0 → Q 0 σ24) ∧ (r23 = 0 → Q 1 σ24)))) ∧ (r20 = 0 → Q 0 σ19))))))
set_option maxRecDepth 100000 in
set_option maxHeartbeats 4000000 in
theorem bX6_not3 {p : Program} {l : Launch} {e : Env} {s : State} {m : MethodId} {args : Array Value} {below : List Frame} {meth : Method} {c : Code} {H : Heap} {locs : List Loc} {ls : Array Slot} {D : va_G} {F : (Nat → Prop) → State → Prop} {A : Nat → Prop} {σ : St} {ad : Nat → Nat → Nat} {cy : Nat → ClassId} {Rr : va_W} {Q : Int32 → St → Prop} (hF : Stab F) (E : CallFix p m c cX6_not3 4 s args TB RX6) (hr : meth.sig.returnType = some .int) (hlk : meth.locks = false) (hf : wX6_not3 σ Q) (hI : In (D, tysM cy, F) (LM ad cy Rr σ) A s H locs) (hl : lv_has ls 4 [(0, .ref (ad 16 99))]) : W p l e (rmD 19) s m args below meth c H locs 0 0 (PI below args s (D, tysM cy, F) A (LM ad cy Rr) Q) (F0 m 0 ls []) := by
  have hx := E.1
  have hb := E.2.1
  unfold wX6_not3 at hf
  refine lv_aload_n (pc := 0) hx hb dX6_not3_0 rfl (lv_at hl 0 rfl) ?_
  refine lv_bipush (v := 110) (pc := 1) hx hb dX6_not3_1 rfl ?_
  refine lv_bipush (v := 111) (pc := 3) hx hb dX6_not3_3 rfl ?_
  refine lv_bipush (v := 116) (pc := 5) hx hb dX6_not3_5 rfl ?_
  refine lv_iconst (v := 0) (pc := 7) hx hb dX6_not3_7 rfl ?_
  refine lv_iconst (v := 0) (pc := 8) hx hb dX6_not3_8 rfl ?_
  refine lv_iconst (v := 0) (pc := 9) hx hb dX6_not3_9 rfl ?_
  refine lv_iconst (v := 0) (pc := 10) hx hb dX6_not3_10 rfl ?_
  refine lv_iconst (v := 0) (pc := 11) hx hb dX6_not3_11 rfl ?_
  refine callVI (G := (D, tysM cy, F)) (L := LM ad cy Rr) (pc := 12) (As := [.int 110, .int 111, .int 116, .int 0, .int 0, .int 0, .int 0, .int 0]) (rest := []) hF E cs0 hl hI (tX6_isWord hF hf) mwX6_200 (fitD (by decide)) (at6) rfl rfl rfl rfl (Nat.le_of_ble_eq_true rfl) dX6_not3_12 (fun r2 σ1 H locs hf hI => ?_)
  refine lv_if_eq (tgt := 52) (pc := 15) hx hb dX6_not3_15 (by decide) (fun c3 => ?_) (fun c3 => ?_)
  · have hf := hf.1 c3
    refine lv_aload_n (pc := 52) hx hb dX6_not3_52 rfl (lv_at hl 0 rfl) ?_
    refine callVI (G := (D, tysM cy, F)) (L := LM ad cy Rr) (pc := 53) (As := []) (rest := []) hF E cs0 hl hI (tX6_added3 hF hf) mwX6_279 (fitD (by decide)) (at6) rfl rfl rfl rfl (Nat.le_of_ble_eq_true rfl) dX6_not3_53 (fun r5 σ4 H locs hf hI => ?_)
    refine lv_istore_n (lv' := [(1, .int r5), (0, .ref (ad 16 99))]) (pc := 56) hx hb dX6_not3_56 rfl hl (by decide) rfl (fun ls hl => ?_)
    refine lv_aload_n (pc := 57) hx hb dX6_not3_57 rfl (lv_at hl 1 rfl) ?_
    refine lv_bipush (v := 60) (pc := 58) hx hb dX6_not3_58 rfl ?_
    refine callVI (G := (D, tysM cy, F)) (L := LM ad cy Rr) (pc := 60) (As := [.int 60]) (rest := []) hF E cs0 hl hI (tX6_isSign hF hf) mwX6_222 (fitD (by decide)) (at6) rfl rfl rfl rfl (Nat.le_of_ble_eq_true rfl) dX6_not3_60 (fun r7 σ6 H locs hf hI => ?_)
    refine lv_if_ne (tgt := 77) (pc := 63) hx hb dX6_not3_63 (by decide) (fun c8 => ?_) (fun c8 => ?_)
    · have hf := hf.1 c8
      exact bX6_not3_77 hF E hr hlk hf hI (lv_sub hl [1, 0] rfl)
    · have hf := hf.2 c8
      refine lv_aload_n (pc := 66) hx hb dX6_not3_66 rfl (lv_at hl 1 rfl) ?_
      refine lv_bipush (v := 61) (pc := 67) hx hb dX6_not3_67 rfl ?_
      refine callVI (G := (D, tysM cy, F)) (L := LM ad cy Rr) (pc := 69) (As := [.int 61]) (rest := []) hF E cs0 hl hI (tX6_isSign hF hf) mwX6_222 (fitD (by decide)) (at6) rfl rfl rfl rfl (Nat.le_of_ble_eq_true rfl) dX6_not3_69 (fun r17 σ16 H locs hf hI => ?_)
      refine lv_if_ne (tgt := 77) (pc := 72) hx hb dX6_not3_72 (by decide) (fun c18 => ?_) (fun c18 => ?_)
      · have hf := hf.1 c18
        exact bX6_not3_77 hF E hr hlk hf hI (lv_sub hl [1, 0] rfl)
      · have hf := hf.2 c18
        refine lv_iload_n (pc := 75) hx hb dX6_not3_75 rfl (lv_at hl 0 rfl) ?_
        exact rI (pc := 76) E hr hlk hI hf dX6_not3_76
  · have hf := hf.2 c3
    refine lv_aload_n (pc := 18) hx hb dX6_not3_18 rfl (lv_at hl 0 rfl) ?_
    refine callVI (G := (D, tysM cy, F)) (L := LM ad cy Rr) (pc := 19) (As := []) (rest := []) hF E cs0 hl hI (tX6_opens hF hf) mwX6_225 (fitD (by decide)) (at6) rfl rfl rfl rfl (Nat.le_of_ble_eq_true rfl) dX6_not3_19 (fun r20 σ19 H locs hf hI => ?_)
    refine lv_if_ne (tgt := 27) (pc := 22) hx hb dX6_not3_22 (by decide) (fun c21 => ?_) (fun c21 => ?_)
    · have hf := hf.1 c21
      refine lv_aload_n (pc := 27) hx hb dX6_not3_27 rfl (lv_at hl 0 rfl) ?_
      refine callVI (G := (D, tysM cy, F)) (L := LM ad cy Rr) (pc := 28) (As := []) (rest := []) hF E cs0 hl hI (tX6_not4 hF hf) mwX6_264 (fitD (by decide)) (at6) rfl rfl rfl rfl (Nat.le_of_ble_eq_true rfl) dX6_not3_28 (fun r23 σ22 H locs hf hI => ?_)
      refine lv_istore_n (lv' := [(1, .int r23), (0, .ref (ad 16 99))]) (pc := 31) hx hb dX6_not3_31 rfl hl (by decide) rfl (fun ls hl => ?_)
      refine lv_aload_n (pc := 32) hx hb dX6_not3_32 rfl (lv_at hl 1 rfl) ?_
      refine lv_dup (pc := 33) hx hb dX6_not3_33 rfl ?_
      refine g6_26 (pc := 34) E hI lkX6_191 dX6_not3_34 ?_
      refine lv_iconst (v := 1) (pc := 37) hx hb dX6_not3_37 rfl ?_
      refine lv_isub (pc := 38) hx hb dX6_not3_38 ?_
      refine p6_26 (pc := 39) E hI lkX6_191 dX6_not3_39 (fun H locs σ24 eσ24 hI => ?_)
      have hf := hf σ24 eσ24
      refine lv_iload_n (pc := 42) hx hb dX6_not3_42 rfl (lv_at hl 0 rfl) ?_
      refine lv_if_ne (tgt := 50) (pc := 43) hx hb dX6_not3_43 (by decide) (fun c25 => ?_) (fun c25 => ?_)
      · have hf := hf.1 c25
        refine lv_iconst (v := 0) (pc := 50) hx hb dX6_not3_50 rfl ?_
        exact rI (pc := 51) E hr hlk hI hf dX6_not3_51
      · have hf := hf.2 c25
        refine lv_iconst (v := 1) (pc := 46) hx hb dX6_not3_46 rfl ?_
        refine lv_goto (tgt := 51) (pc := 47) hx hb dX6_not3_47 (by decide) ?_
        exact rI (pc := 51) E hr hlk hI hf dX6_not3_51
    · have hf := hf.2 c21
      refine lv_iconst (v := 0) (pc := 25) hx hb dX6_not3_25 rfl ?_
      exact rI (pc := 26) E hr hlk hI hf dX6_not3_26
theorem tX6_not3 {l : Launch} {D : va_G} {F : (Nat → Prop) → State → Prop} {σ : St} {ad : Nat → Nat → Nat} {cy : Nat → ClassId} {Rr : va_W} {Q : Int32 → St → Prop} (hF : Stab F) (hf : wX6_not3 σ Q) : CtI l yX6_not3 cX6_not3 4 .int 19 (D, tysM cy, F) (LM ad cy Rr) [.ref (ad 16 99)] σ Q := mkI (by decide) (Nat.le_of_ble_eq_true rfl) (fun p e s m below meth c A E hr hlk hI ls hl => bX6_not3 hF E hr hlk hf hI hl)

def wX6_both3_j45 (s0 : Int32) (σ : St) (K : Int32 → St → Prop) (Q : Int32 → St → Prop) : Prop := (K s0 σ)
set_option maxRecDepth 100000 in
set_option maxHeartbeats 4000000 in
theorem bX6_both3_45 {p : Program} {l : Launch} {e : Env} {s : State} {m : MethodId} {args : Array Value} {below : List Frame} {meth : Method} {c : Code} {H : Heap} {locs : List Loc} {ls : Array Slot} {D : va_G} {F : (Nat → Prop) → State → Prop} {A : Nat → Prop} {σ : St} {ad : Nat → Nat → Nat} {cy : Nat → ClassId} {Rr : va_W} {Q : Int32 → St → Prop} {s0 : Int32} {K : Int32 → St → Prop} (hF : Stab F) (E : CallFix p m c cX6_both3 3 s args TB RX6) (hr : meth.sig.returnType = some .int) (hlk : meth.locks = false) (hK : ∀ (a1 : Int32) (σ : St) (H : Heap) (locs : List Loc) (ls : Array Slot), K a1 σ → In (D, tysM cy, F) (LM ad cy Rr σ) A s H locs → lv_has ls 3 [(0, .ref (ad 16 99)), (1, .int a1)] → W p l e (rmD 20) s m args below meth c H locs 0 0 (PI below args s (D, tysM cy, F) A (LM ad cy Rr) Q) (F0 m 5 ls [])) (hf : wX6_both3_j45 s0 σ K Q) (hI : In (D, tysM cy, F) (LM ad cy Rr σ) A s H locs) (hl : lv_has ls 3 [(0, .ref (ad 16 99))]) : W p l e (rmD 20) s m args below meth c H locs 0 0 (PI below args s (D, tysM cy, F) A (LM ad cy Rr) Q) (F0 m 45 ls [.int s0]) := by
  have hx := E.1
  have hb := E.2.1
  unfold wX6_both3_j45 at hf
  refine lv_istore_n (lv' := [(1, .int s0), (0, .ref (ad 16 99))]) (pc := 45) hx hb dX6_both3_45 rfl hl (by decide) rfl (fun ls hl => ?_)
  refine lv_goto (tgt := 5) (pc := 46) hx hb dX6_both3_46 (by decide) ?_
  exact hK _ _ _ _ _ hf hI (lv_sub hl [1, 0] rfl)
def wX6_both3_j44 (σ : St) (K : Int32 → St → Prop) (Q : Int32 → St → Prop) : Prop := (wX6_both3_j45 0 σ K Q)
set_option maxRecDepth 100000 in
set_option maxHeartbeats 4000000 in
theorem bX6_both3_44 {p : Program} {l : Launch} {e : Env} {s : State} {m : MethodId} {args : Array Value} {below : List Frame} {meth : Method} {c : Code} {H : Heap} {locs : List Loc} {ls : Array Slot} {D : va_G} {F : (Nat → Prop) → State → Prop} {A : Nat → Prop} {σ : St} {ad : Nat → Nat → Nat} {cy : Nat → ClassId} {Rr : va_W} {Q : Int32 → St → Prop} {K : Int32 → St → Prop} (hF : Stab F) (E : CallFix p m c cX6_both3 3 s args TB RX6) (hr : meth.sig.returnType = some .int) (hlk : meth.locks = false) (hK : ∀ (a1 : Int32) (σ : St) (H : Heap) (locs : List Loc) (ls : Array Slot), K a1 σ → In (D, tysM cy, F) (LM ad cy Rr σ) A s H locs → lv_has ls 3 [(0, .ref (ad 16 99)), (1, .int a1)] → W p l e (rmD 20) s m args below meth c H locs 0 0 (PI below args s (D, tysM cy, F) A (LM ad cy Rr) Q) (F0 m 5 ls [])) (hf : wX6_both3_j44 σ K Q) (hI : In (D, tysM cy, F) (LM ad cy Rr σ) A s H locs) (hl : lv_has ls 3 [(0, .ref (ad 16 99))]) : W p l e (rmD 20) s m args below meth c H locs 0 0 (PI below args s (D, tysM cy, F) A (LM ad cy Rr) Q) (F0 m 44 ls []) := by
  have hx := E.1
  have hb := E.2.1
  unfold wX6_both3_j44 at hf
  refine lv_iconst (v := 0) (pc := 44) hx hb dX6_both3_44 rfl ?_
  exact bX6_both3_45 hF E hr hlk hK hf hI (lv_sub hl [0] rfl)
def wX6_both3_l5s (ih : Int32 → St → Prop) (a1 : Int32) (σ : St) (Q : Int32 → St → Prop) : Prop := wX6_isWord 97 110 100 0 0 0 0 0 σ (fun r4 σ3 => ((r4 = 0 → Q a1 σ3) ∧ (¬ r4 = 0 → wX6_next σ3 (fun σ6 => wX6_not3 σ6 (fun r8 σ7 => ((a1 = 0 → (wX6_both3_j44 σ7 ih Q)) ∧ (¬ a1 = 0 → ((r8 = 0 → (wX6_both3_j44 σ7 ih Q)) ∧ (¬ r8 = 0 → (wX6_both3_j45 1 σ7 ih Q))))))))))
def wX6_both3_l5 (n : Nat) : Int32 → St → (Int32 → St → Prop) → Prop := @Nat.rec (fun _ => Int32 → St → (Int32 → St → Prop) → Prop) (fun _ _ _ => False) (fun _ ih a1 σ Q => wX6_both3_l5s (fun a1 σ => ih a1 σ Q) a1 σ Q) n
set_option maxRecDepth 100000 in
set_option maxHeartbeats 4000000 in
theorem bX6_both3_5 {p : Program} {l : Launch} {e : Env} {s : State} {m : MethodId} {args : Array Value} {below : List Frame} {meth : Method} {c : Code} {D : va_G} {F : (Nat → Prop) → State → Prop} {A : Nat → Prop} {ad : Nat → Nat → Nat} {cy : Nat → ClassId} {Rr : va_W} {Q : Int32 → St → Prop} (hF : Stab F) (E : CallFix p m c cX6_both3 3 s args TB RX6) (hr : meth.sig.returnType = some .int) (hlk : meth.locks = false) : ∀ (n : Nat) {a1 : Int32} {σ : St} {H : Heap} {locs : List Loc} {ls : Array Slot}, wX6_both3_l5 n a1 σ Q → In (D, tysM cy, F) (LM ad cy Rr σ) A s H locs → lv_has ls 3 [(0, .ref (ad 16 99)), (1, .int a1)] → W p l e (rmD 20) s m args below meth c H locs 0 0 (PI below args s (D, tysM cy, F) A (LM ad cy Rr) Q) (F0 m 5 ls []) := by
  have hx := E.1
  have hb := E.2.1
  intro n
  induction n with
  | zero => intro a1 σ H locs ls hf hI hl; exact False.elim hf
  | succ n ih =>
    intro a1 σ H locs ls hf hI hl
    have hf : wX6_both3_l5s (fun a1 σ => wX6_both3_l5 n a1 σ Q) a1 σ Q := hf
    unfold wX6_both3_l5s at hf
    refine lv_aload_n (pc := 5) hx hb dX6_both3_5 rfl (lv_at hl 0 rfl) ?_
    refine lv_bipush (v := 97) (pc := 6) hx hb dX6_both3_6 rfl ?_
    refine lv_bipush (v := 110) (pc := 8) hx hb dX6_both3_8 rfl ?_
    refine lv_bipush (v := 100) (pc := 10) hx hb dX6_both3_10 rfl ?_
    refine lv_iconst (v := 0) (pc := 12) hx hb dX6_both3_12 rfl ?_
    refine lv_iconst (v := 0) (pc := 13) hx hb dX6_both3_13 rfl ?_
    refine lv_iconst (v := 0) (pc := 14) hx hb dX6_both3_14 rfl ?_
    refine lv_iconst (v := 0) (pc := 15) hx hb dX6_both3_15 rfl ?_
    refine lv_iconst (v := 0) (pc := 16) hx hb dX6_both3_16 rfl ?_
    refine callVI (G := (D, tysM cy, F)) (L := LM ad cy Rr) (pc := 17) (As := [.int 97, .int 110, .int 100, .int 0, .int 0, .int 0, .int 0, .int 0]) (rest := []) hF E cs0 hl hI (tX6_isWord hF hf) mwX6_200 (fitD (by decide)) (at6) rfl rfl rfl rfl (Nat.le_of_ble_eq_true rfl) dX6_both3_17 (fun r4 σ3 H locs hf hI => ?_)
    refine lv_if_eq (tgt := 49) (pc := 20) hx hb dX6_both3_20 (by decide) (fun c5 => ?_) (fun c5 => ?_)
    · have hf := hf.1 c5
      refine lv_iload_n (pc := 49) hx hb dX6_both3_49 rfl (lv_at hl 1 rfl) ?_
      exact rI (pc := 50) E hr hlk hI hf dX6_both3_50
    · have hf := hf.2 c5
      refine lv_aload_n (pc := 23) hx hb dX6_both3_23 rfl (lv_at hl 0 rfl) ?_
      refine callVV (G := (D, tysM cy, F)) (L := LM ad cy Rr) (pc := 24) (As := []) (rest := []) hF E cs0 hl hI (tX6_next hF hf) mwX6_197 (fitD (by decide)) (at6) rfl rfl rfl rfl (Nat.le_of_ble_eq_true rfl) dX6_both3_24 (fun σ6 H locs hf hI => ?_)
      refine lv_aload_n (pc := 27) hx hb dX6_both3_27 rfl (lv_at hl 0 rfl) ?_
      refine callVI (G := (D, tysM cy, F)) (L := LM ad cy Rr) (pc := 28) (As := []) (rest := []) hF E cs0 hl hI (tX6_not3 hF hf) mwX6_282 (fitD (by decide)) (at6) rfl rfl rfl rfl (Nat.le_of_ble_eq_true rfl) dX6_both3_28 (fun r8 σ7 H locs hf hI => ?_)
      refine lv_istore_n (lv' := [(2, .int r8), (0, .ref (ad 16 99)), (1, .int a1)]) (pc := 31) hx hb dX6_both3_31 rfl hl (by decide) rfl (fun ls hl => ?_)
      refine lv_iload_n (pc := 32) hx hb dX6_both3_32 rfl (lv_at hl 2 rfl) ?_
      refine lv_if_eq (tgt := 44) (pc := 33) hx hb dX6_both3_33 (by decide) (fun c9 => ?_) (fun c9 => ?_)
      · have hf := hf.1 c9
        exact bX6_both3_44 hF E hr hlk (fun _ _ _ _ _ hf hI hl => ih hf hI hl) hf hI (lv_sub hl [1] rfl)
      · have hf := hf.2 c9
        refine lv_iload_n (pc := 36) hx hb dX6_both3_36 rfl (lv_at hl 0 rfl) ?_
        refine lv_if_eq (tgt := 44) (pc := 37) hx hb dX6_both3_37 (by decide) (fun c10 => ?_) (fun c10 => ?_)
        · have hf := hf.1 c10
          exact bX6_both3_44 hF E hr hlk (fun _ _ _ _ _ hf hI hl => ih hf hI hl) hf hI (lv_sub hl [1] rfl)
        · have hf := hf.2 c10
          refine lv_iconst (v := 1) (pc := 40) hx hb dX6_both3_40 rfl ?_
          refine lv_goto (tgt := 45) (pc := 41) hx hb dX6_both3_41 (by decide) ?_
          exact bX6_both3_45 hF E hr hlk (fun _ _ _ _ _ hf hI hl => ih hf hI hl) hf hI (lv_sub hl [1] rfl)
def wX6_both3 (σ : St) (Q : Int32 → St → Prop) : Prop := wX6_not3 σ (fun r2 σ1 => ∃ n11 : Nat, wX6_both3_l5 n11 r2 σ1 Q)
set_option maxRecDepth 100000 in
set_option maxHeartbeats 4000000 in
theorem bX6_both3 {p : Program} {l : Launch} {e : Env} {s : State} {m : MethodId} {args : Array Value} {below : List Frame} {meth : Method} {c : Code} {H : Heap} {locs : List Loc} {ls : Array Slot} {D : va_G} {F : (Nat → Prop) → State → Prop} {A : Nat → Prop} {σ : St} {ad : Nat → Nat → Nat} {cy : Nat → ClassId} {Rr : va_W} {Q : Int32 → St → Prop} (hF : Stab F) (E : CallFix p m c cX6_both3 3 s args TB RX6) (hr : meth.sig.returnType = some .int) (hlk : meth.locks = false) (hf : wX6_both3 σ Q) (hI : In (D, tysM cy, F) (LM ad cy Rr σ) A s H locs) (hl : lv_has ls 3 [(0, .ref (ad 16 99))]) : W p l e (rmD 20) s m args below meth c H locs 0 0 (PI below args s (D, tysM cy, F) A (LM ad cy Rr) Q) (F0 m 0 ls []) := by
  have hx := E.1
  have hb := E.2.1
  unfold wX6_both3 at hf
  refine lv_aload_n (pc := 0) hx hb dX6_both3_0 rfl (lv_at hl 0 rfl) ?_
  refine callVI (G := (D, tysM cy, F)) (L := LM ad cy Rr) (pc := 1) (As := []) (rest := []) hF E cs0 hl hI (tX6_not3 hF hf) mwX6_282 (fitD (by decide)) (at6) rfl rfl rfl rfl (Nat.le_of_ble_eq_true rfl) dX6_both3_1 (fun r2 σ1 H locs hf hI => ?_)
  refine lv_istore_n (lv' := [(1, .int r2), (0, .ref (ad 16 99))]) (pc := 4) hx hb dX6_both3_4 rfl hl (by decide) rfl (fun ls hl => ?_)
  obtain ⟨n11, hf⟩ := hf
  exact bX6_both3_5 hF E hr hlk n11 hf hI (lv_sub hl [1, 0] rfl)
theorem tX6_both3 {l : Launch} {D : va_G} {F : (Nat → Prop) → State → Prop} {σ : St} {ad : Nat → Nat → Nat} {cy : Nat → ClassId} {Rr : va_W} {Q : Int32 → St → Prop} (hF : Stab F) (hf : wX6_both3 σ Q) : CtI l yX6_both3 cX6_both3 3 .int 20 (D, tysM cy, F) (LM ad cy Rr) [.ref (ad 16 99)] σ Q := mkI (by decide) (Nat.le_of_ble_eq_true rfl) (fun p e s m below meth c A E hr hlk hI ls hl => bX6_both3 hF E hr hlk hf hI hl)

def wX6_either3_j44 (s0 : Int32) (σ : St) (K : Int32 → St → Prop) (Q : Int32 → St → Prop) : Prop := (K s0 σ)
set_option maxRecDepth 100000 in
set_option maxHeartbeats 4000000 in
theorem bX6_either3_44 {p : Program} {l : Launch} {e : Env} {s : State} {m : MethodId} {args : Array Value} {below : List Frame} {meth : Method} {c : Code} {H : Heap} {locs : List Loc} {ls : Array Slot} {D : va_G} {F : (Nat → Prop) → State → Prop} {A : Nat → Prop} {σ : St} {ad : Nat → Nat → Nat} {cy : Nat → ClassId} {Rr : va_W} {Q : Int32 → St → Prop} {s0 : Int32} {K : Int32 → St → Prop} (hF : Stab F) (E : CallFix p m c cX6_either3 3 s args TB RX6) (hr : meth.sig.returnType = some .int) (hlk : meth.locks = false) (hK : ∀ (a1 : Int32) (σ : St) (H : Heap) (locs : List Loc) (ls : Array Slot), K a1 σ → In (D, tysM cy, F) (LM ad cy Rr σ) A s H locs → lv_has ls 3 [(0, .ref (ad 16 99)), (1, .int a1)] → W p l e (rmD 21) s m args below meth c H locs 0 0 (PI below args s (D, tysM cy, F) A (LM ad cy Rr) Q) (F0 m 5 ls [])) (hf : wX6_either3_j44 s0 σ K Q) (hI : In (D, tysM cy, F) (LM ad cy Rr σ) A s H locs) (hl : lv_has ls 3 [(0, .ref (ad 16 99))]) : W p l e (rmD 21) s m args below meth c H locs 0 0 (PI below args s (D, tysM cy, F) A (LM ad cy Rr) Q) (F0 m 44 ls [.int s0]) := by
  have hx := E.1
  have hb := E.2.1
  unfold wX6_either3_j44 at hf
  refine lv_istore_n (lv' := [(1, .int s0), (0, .ref (ad 16 99))]) (pc := 44) hx hb dX6_either3_44 rfl hl (by decide) rfl (fun ls hl => ?_)
  refine lv_goto (tgt := 5) (pc := 45) hx hb dX6_either3_45 (by decide) ?_
  exact hK _ _ _ _ _ hf hI (lv_sub hl [1, 0] rfl)
def wX6_either3_j39 (σ : St) (K : Int32 → St → Prop) (Q : Int32 → St → Prop) : Prop := (wX6_either3_j44 1 σ K Q)
set_option maxRecDepth 100000 in
set_option maxHeartbeats 4000000 in
theorem bX6_either3_39 {p : Program} {l : Launch} {e : Env} {s : State} {m : MethodId} {args : Array Value} {below : List Frame} {meth : Method} {c : Code} {H : Heap} {locs : List Loc} {ls : Array Slot} {D : va_G} {F : (Nat → Prop) → State → Prop} {A : Nat → Prop} {σ : St} {ad : Nat → Nat → Nat} {cy : Nat → ClassId} {Rr : va_W} {Q : Int32 → St → Prop} {K : Int32 → St → Prop} (hF : Stab F) (E : CallFix p m c cX6_either3 3 s args TB RX6) (hr : meth.sig.returnType = some .int) (hlk : meth.locks = false) (hK : ∀ (a1 : Int32) (σ : St) (H : Heap) (locs : List Loc) (ls : Array Slot), K a1 σ → In (D, tysM cy, F) (LM ad cy Rr σ) A s H locs → lv_has ls 3 [(0, .ref (ad 16 99)), (1, .int a1)] → W p l e (rmD 21) s m args below meth c H locs 0 0 (PI below args s (D, tysM cy, F) A (LM ad cy Rr) Q) (F0 m 5 ls [])) (hf : wX6_either3_j39 σ K Q) (hI : In (D, tysM cy, F) (LM ad cy Rr σ) A s H locs) (hl : lv_has ls 3 [(0, .ref (ad 16 99))]) : W p l e (rmD 21) s m args below meth c H locs 0 0 (PI below args s (D, tysM cy, F) A (LM ad cy Rr) Q) (F0 m 39 ls []) := by
  have hx := E.1
  have hb := E.2.1
  unfold wX6_either3_j39 at hf
  refine lv_iconst (v := 1) (pc := 39) hx hb dX6_either3_39 rfl ?_
  refine lv_goto (tgt := 44) (pc := 40) hx hb dX6_either3_40 (by decide) ?_
  exact bX6_either3_44 hF E hr hlk hK hf hI (lv_sub hl [0] rfl)
def wX6_either3_l5s (ih : Int32 → St → Prop) (a1 : Int32) (σ : St) (Q : Int32 → St → Prop) : Prop := wX6_isWord 111 114 0 0 0 0 0 0 σ (fun r4 σ3 => ((r4 = 0 → Q a1 σ3) ∧ (¬ r4 = 0 → wX6_next σ3 (fun σ6 => wX6_both3 σ6 (fun r8 σ7 => ((¬ a1 = 0 → (wX6_either3_j39 σ7 ih Q)) ∧ (a1 = 0 → ((r8 = 0 → (wX6_either3_j44 0 σ7 ih Q)) ∧ (¬ r8 = 0 → (wX6_either3_j39 σ7 ih Q))))))))))
def wX6_either3_l5 (n : Nat) : Int32 → St → (Int32 → St → Prop) → Prop := @Nat.rec (fun _ => Int32 → St → (Int32 → St → Prop) → Prop) (fun _ _ _ => False) (fun _ ih a1 σ Q => wX6_either3_l5s (fun a1 σ => ih a1 σ Q) a1 σ Q) n
set_option maxRecDepth 100000 in
set_option maxHeartbeats 4000000 in
theorem bX6_either3_5 {p : Program} {l : Launch} {e : Env} {s : State} {m : MethodId} {args : Array Value} {below : List Frame} {meth : Method} {c : Code} {D : va_G} {F : (Nat → Prop) → State → Prop} {A : Nat → Prop} {ad : Nat → Nat → Nat} {cy : Nat → ClassId} {Rr : va_W} {Q : Int32 → St → Prop} (hF : Stab F) (E : CallFix p m c cX6_either3 3 s args TB RX6) (hr : meth.sig.returnType = some .int) (hlk : meth.locks = false) : ∀ (n : Nat) {a1 : Int32} {σ : St} {H : Heap} {locs : List Loc} {ls : Array Slot}, wX6_either3_l5 n a1 σ Q → In (D, tysM cy, F) (LM ad cy Rr σ) A s H locs → lv_has ls 3 [(0, .ref (ad 16 99)), (1, .int a1)] → W p l e (rmD 21) s m args below meth c H locs 0 0 (PI below args s (D, tysM cy, F) A (LM ad cy Rr) Q) (F0 m 5 ls []) := by
  have hx := E.1
  have hb := E.2.1
  intro n
  induction n with
  | zero => intro a1 σ H locs ls hf hI hl; exact False.elim hf
  | succ n ih =>
    intro a1 σ H locs ls hf hI hl
    have hf : wX6_either3_l5s (fun a1 σ => wX6_either3_l5 n a1 σ Q) a1 σ Q := hf
    unfold wX6_either3_l5s at hf
    refine lv_aload_n (pc := 5) hx hb dX6_either3_5 rfl (lv_at hl 0 rfl) ?_
    refine lv_bipush (v := 111) (pc := 6) hx hb dX6_either3_6 rfl ?_
    refine lv_bipush (v := 114) (pc := 8) hx hb dX6_either3_8 rfl ?_
    refine lv_iconst (v := 0) (pc := 10) hx hb dX6_either3_10 rfl ?_
    refine lv_iconst (v := 0) (pc := 11) hx hb dX6_either3_11 rfl ?_
    refine lv_iconst (v := 0) (pc := 12) hx hb dX6_either3_12 rfl ?_
    refine lv_iconst (v := 0) (pc := 13) hx hb dX6_either3_13 rfl ?_
    refine lv_iconst (v := 0) (pc := 14) hx hb dX6_either3_14 rfl ?_
    refine lv_iconst (v := 0) (pc := 15) hx hb dX6_either3_15 rfl ?_
    refine callVI (G := (D, tysM cy, F)) (L := LM ad cy Rr) (pc := 16) (As := [.int 111, .int 114, .int 0, .int 0, .int 0, .int 0, .int 0, .int 0]) (rest := []) hF E cs0 hl hI (tX6_isWord hF hf) mwX6_200 (fitD (by decide)) (at6) rfl rfl rfl rfl (Nat.le_of_ble_eq_true rfl) dX6_either3_16 (fun r4 σ3 H locs hf hI => ?_)
    refine lv_if_eq (tgt := 48) (pc := 19) hx hb dX6_either3_19 (by decide) (fun c5 => ?_) (fun c5 => ?_)
    · have hf := hf.1 c5
      refine lv_iload_n (pc := 48) hx hb dX6_either3_48 rfl (lv_at hl 1 rfl) ?_
      exact rI (pc := 49) E hr hlk hI hf dX6_either3_49
    · have hf := hf.2 c5
      refine lv_aload_n (pc := 22) hx hb dX6_either3_22 rfl (lv_at hl 0 rfl) ?_
      refine callVV (G := (D, tysM cy, F)) (L := LM ad cy Rr) (pc := 23) (As := []) (rest := []) hF E cs0 hl hI (tX6_next hF hf) mwX6_197 (fitD (by decide)) (at6) rfl rfl rfl rfl (Nat.le_of_ble_eq_true rfl) dX6_either3_23 (fun σ6 H locs hf hI => ?_)
      refine lv_aload_n (pc := 26) hx hb dX6_either3_26 rfl (lv_at hl 0 rfl) ?_
      refine callVI (G := (D, tysM cy, F)) (L := LM ad cy Rr) (pc := 27) (As := []) (rest := []) hF E cs0 hl hI (tX6_both3 hF hf) mwX6_285 (fitD (by decide)) (at6) rfl rfl rfl rfl (Nat.le_of_ble_eq_true rfl) dX6_either3_27 (fun r8 σ7 H locs hf hI => ?_)
      refine lv_istore_n (lv' := [(2, .int r8), (0, .ref (ad 16 99)), (1, .int a1)]) (pc := 30) hx hb dX6_either3_30 rfl hl (by decide) rfl (fun ls hl => ?_)
      refine lv_iload_n (pc := 31) hx hb dX6_either3_31 rfl (lv_at hl 2 rfl) ?_
      refine lv_if_ne (tgt := 39) (pc := 32) hx hb dX6_either3_32 (by decide) (fun c9 => ?_) (fun c9 => ?_)
      · have hf := hf.1 c9
        exact bX6_either3_39 hF E hr hlk (fun _ _ _ _ _ hf hI hl => ih hf hI hl) hf hI (lv_sub hl [1] rfl)
      · have hf := hf.2 c9
        refine lv_iload_n (pc := 35) hx hb dX6_either3_35 rfl (lv_at hl 0 rfl) ?_
        refine lv_if_eq (tgt := 43) (pc := 36) hx hb dX6_either3_36 (by decide) (fun c10 => ?_) (fun c10 => ?_)
        · have hf := hf.1 c10
          refine lv_iconst (v := 0) (pc := 43) hx hb dX6_either3_43 rfl ?_
          exact bX6_either3_44 hF E hr hlk (fun _ _ _ _ _ hf hI hl => ih hf hI hl) hf hI (lv_sub hl [1] rfl)
        · have hf := hf.2 c10
          exact bX6_either3_39 hF E hr hlk (fun _ _ _ _ _ hf hI hl => ih hf hI hl) hf hI (lv_sub hl [1] rfl)
def wX6_either3 (σ : St) (Q : Int32 → St → Prop) : Prop := wX6_both3 σ (fun r2 σ1 => ∃ n11 : Nat, wX6_either3_l5 n11 r2 σ1 Q)
set_option maxRecDepth 100000 in
set_option maxHeartbeats 4000000 in
theorem bX6_either3 {p : Program} {l : Launch} {e : Env} {s : State} {m : MethodId} {args : Array Value} {below : List Frame} {meth : Method} {c : Code} {H : Heap} {locs : List Loc} {ls : Array Slot} {D : va_G} {F : (Nat → Prop) → State → Prop} {A : Nat → Prop} {σ : St} {ad : Nat → Nat → Nat} {cy : Nat → ClassId} {Rr : va_W} {Q : Int32 → St → Prop} (hF : Stab F) (E : CallFix p m c cX6_either3 3 s args TB RX6) (hr : meth.sig.returnType = some .int) (hlk : meth.locks = false) (hf : wX6_either3 σ Q) (hI : In (D, tysM cy, F) (LM ad cy Rr σ) A s H locs) (hl : lv_has ls 3 [(0, .ref (ad 16 99))]) : W p l e (rmD 21) s m args below meth c H locs 0 0 (PI below args s (D, tysM cy, F) A (LM ad cy Rr) Q) (F0 m 0 ls []) := by
  have hx := E.1
  have hb := E.2.1
  unfold wX6_either3 at hf
  refine lv_aload_n (pc := 0) hx hb dX6_either3_0 rfl (lv_at hl 0 rfl) ?_
  refine callVI (G := (D, tysM cy, F)) (L := LM ad cy Rr) (pc := 1) (As := []) (rest := []) hF E cs0 hl hI (tX6_both3 hF hf) mwX6_285 (fitD (by decide)) (at6) rfl rfl rfl rfl (Nat.le_of_ble_eq_true rfl) dX6_either3_1 (fun r2 σ1 H locs hf hI => ?_)
  refine lv_istore_n (lv' := [(1, .int r2), (0, .ref (ad 16 99))]) (pc := 4) hx hb dX6_either3_4 rfl hl (by decide) rfl (fun ls hl => ?_)
  obtain ⟨n11, hf⟩ := hf
  exact bX6_either3_5 hF E hr hlk n11 hf hI (lv_sub hl [1, 0] rfl)
theorem tX6_either3 {l : Launch} {D : va_G} {F : (Nat → Prop) → State → Prop} {σ : St} {ad : Nat → Nat → Nat} {cy : Nat → ClassId} {Rr : va_W} {Q : Int32 → St → Prop} (hF : Stab F) (hf : wX6_either3 σ Q) : CtI l yX6_either3 cX6_either3 3 .int 21 (D, tysM cy, F) (LM ad cy Rr) [.ref (ad 16 99)] σ Q := mkI (by decide) (Nat.le_of_ble_eq_true rfl) (fun p e s m below meth c A E hr hlk hI ls hl => bX6_either3 hF E hr hlk hf hI hl)

def wX6_atom2_j157 (a1 : Int32) (σ : St) (Q : Int32 → St → Prop) : Prop := wX6_fail σ (fun σ9 => Q a1 σ9)
set_option maxRecDepth 100000 in
set_option maxHeartbeats 4000000 in
theorem bX6_atom2_157 {p : Program} {l : Launch} {e : Env} {s : State} {m : MethodId} {args : Array Value} {below : List Frame} {meth : Method} {c : Code} {H : Heap} {locs : List Loc} {ls : Array Slot} {D : va_G} {F : (Nat → Prop) → State → Prop} {A : Nat → Prop} {σ : St} {ad : Nat → Nat → Nat} {cy : Nat → ClassId} {Rr : va_W} {Q : Int32 → St → Prop} {a1 : Int32} (hF : Stab F) (E : CallFix p m c cX6_atom2 2 s args TB RX6) (hr : meth.sig.returnType = some .int) (hlk : meth.locks = false) (hf : wX6_atom2_j157 a1 σ Q) (hI : In (D, tysM cy, F) (LM ad cy Rr σ) A s H locs) (hl : lv_has ls 2 [(0, .ref (ad 16 99)), (1, .int a1)]) : W p l e (rmD 22) s m args below meth c H locs 0 0 (PI below args s (D, tysM cy, F) A (LM ad cy Rr) Q) (F0 m 157 ls []) := by
  have hx := E.1
  have hb := E.2.1
  unfold wX6_atom2_j157 at hf
  refine lv_aload_n (pc := 157) hx hb dX6_atom2_157 rfl (lv_at hl 0 rfl) ?_
  refine callVV (G := (D, tysM cy, F)) (L := LM ad cy Rr) (pc := 158) (As := []) (rest := []) hF E cs0 hl hI (tX6_fail hF hf) mwX6_194 (fitD (by decide)) (at6) rfl rfl rfl rfl (Nat.le_of_ble_eq_true rfl) dX6_atom2_158 (fun σ9 H locs hf hI => ?_)
  refine lv_iload_n (pc := 161) hx hb dX6_atom2_161 rfl (lv_at hl 1 rfl) ?_
  exact rI (pc := 162) E hr hlk hI hf dX6_atom2_162
def wX6_atom2_j123 (a1 : Int32) (σ : St) (Q : Int32 → St → Prop) : Prop := ((¬ (gI σ 16 27) = 0 → (wX6_atom2_j157 a1 σ Q)) ∧ ((gI σ 16 27) = 0 → ((¬ (gI σ 16 23) = 1 → (wX6_atom2_j157 a1 σ Q)) ∧ ((gI σ 16 23) = 1 → wX6_name σ (fun r12 σ11 => ((¬ (gI σ11 16 27) = 0 → Q r12 σ11) ∧ ((gI σ11 16 27) = 0 → wX6_next σ11 (fun σ14 => Q r12 σ14))))))))
set_option maxRecDepth 100000 in
set_option maxHeartbeats 4000000 in
theorem bX6_atom2_123 {p : Program} {l : Launch} {e : Env} {s : State} {m : MethodId} {args : Array Value} {below : List Frame} {meth : Method} {c : Code} {H : Heap} {locs : List Loc} {ls : Array Slot} {D : va_G} {F : (Nat → Prop) → State → Prop} {A : Nat → Prop} {σ : St} {ad : Nat → Nat → Nat} {cy : Nat → ClassId} {Rr : va_W} {Q : Int32 → St → Prop} {a1 : Int32} (hF : Stab F) (E : CallFix p m c cX6_atom2 2 s args TB RX6) (hr : meth.sig.returnType = some .int) (hlk : meth.locks = false) (hf : wX6_atom2_j123 a1 σ Q) (hI : In (D, tysM cy, F) (LM ad cy Rr σ) A s H locs) (hl : lv_has ls 2 [(0, .ref (ad 16 99)), (1, .int a1)]) : W p l e (rmD 22) s m args below meth c H locs 0 0 (PI below args s (D, tysM cy, F) A (LM ad cy Rr) Q) (F0 m 123 ls []) := by
  have hx := E.1
  have hb := E.2.1
  unfold wX6_atom2_j123 at hf
  refine lv_aload_n (pc := 123) hx hb dX6_atom2_123 rfl (lv_at hl 0 rfl) ?_
  refine g6_27 (pc := 124) E hI lkX6_181 dX6_atom2_124 ?_
  refine lv_if_ne (tgt := 157) (pc := 127) hx hb dX6_atom2_127 (by decide) (fun c8 => ?_) (fun c8 => ?_)
  · have hf := hf.1 c8
    exact bX6_atom2_157 hF E hr hlk hf hI (lv_sub hl [0, 1] rfl)
  · have hf := hf.2 c8
    refine lv_aload_n (pc := 130) hx hb dX6_atom2_130 rfl (lv_at hl 0 rfl) ?_
    refine g6_23 (pc := 131) E hI lkX6_165 dX6_atom2_131 ?_
    refine lv_iconst (v := 1) (pc := 134) hx hb dX6_atom2_134 rfl ?_
    refine lv_icmp_ne (tgt := 157) (pc := 135) hx hb dX6_atom2_135 (by decide) (fun c10 => ?_) (fun c10 => ?_)
    · have hf := hf.1 c10
      exact bX6_atom2_157 hF E hr hlk hf hI (lv_sub hl [0, 1] rfl)
    · have hf := hf.2 c10
      refine lv_aload_n (pc := 138) hx hb dX6_atom2_138 rfl (lv_at hl 0 rfl) ?_
      refine callVI (G := (D, tysM cy, F)) (L := LM ad cy Rr) (pc := 139) (As := []) (rest := []) hF E cs0 hl hI (tX6_name hF hf) mwX6_229 (fitD (by decide)) (at6) rfl rfl rfl rfl (Nat.le_of_ble_eq_true rfl) dX6_atom2_139 (fun r12 σ11 H locs hf hI => ?_)
      refine lv_istore_n (lv' := [(1, .int r12), (0, .ref (ad 16 99))]) (pc := 142) hx hb dX6_atom2_142 rfl hl (by decide) rfl (fun ls hl => ?_)
      refine lv_aload_n (pc := 143) hx hb dX6_atom2_143 rfl (lv_at hl 1 rfl) ?_
      refine g6_27 (pc := 144) E hI lkX6_181 dX6_atom2_144 ?_
      refine lv_if_ne (tgt := 161) (pc := 147) hx hb dX6_atom2_147 (by decide) (fun c13 => ?_) (fun c13 => ?_)
      · have hf := hf.1 c13
        refine lv_iload_n (pc := 161) hx hb dX6_atom2_161 rfl (lv_at hl 0 rfl) ?_
        exact rI (pc := 162) E hr hlk hI hf dX6_atom2_162
      · have hf := hf.2 c13
        refine lv_aload_n (pc := 150) hx hb dX6_atom2_150 rfl (lv_at hl 1 rfl) ?_
        refine callVV (G := (D, tysM cy, F)) (L := LM ad cy Rr) (pc := 151) (As := []) (rest := []) hF E cs0 hl hI (tX6_next hF hf) mwX6_197 (fitD (by decide)) (at6) rfl rfl rfl rfl (Nat.le_of_ble_eq_true rfl) dX6_atom2_151 (fun σ14 H locs hf hI => ?_)
        refine lv_goto (tgt := 161) (pc := 154) hx hb dX6_atom2_154 (by decide) ?_
        refine lv_iload_n (pc := 161) hx hb dX6_atom2_161 rfl (lv_at hl 0 rfl) ?_
        exact rI (pc := 162) E hr hlk hI hf dX6_atom2_162
def wX6_atom2_j71 (a1 : Int32) (σ : St) (Q : Int32 → St → Prop) : Prop := ∀ σ26 : St, σ26 = sI σ 16 26 ((gI σ 16 26) - 1) → ((¬ (gI σ26 16 27) = 0 → Q a1 σ26) ∧ ((gI σ26 16 27) = 0 → wX6_next σ26 (fun σ28 => Q a1 σ28)))
set_option maxRecDepth 100000 in
set_option maxHeartbeats 4000000 in
theorem bX6_atom2_71 {p : Program} {l : Launch} {e : Env} {s : State} {m : MethodId} {args : Array Value} {below : List Frame} {meth : Method} {c : Code} {H : Heap} {locs : List Loc} {ls : Array Slot} {D : va_G} {F : (Nat → Prop) → State → Prop} {A : Nat → Prop} {σ : St} {ad : Nat → Nat → Nat} {cy : Nat → ClassId} {Rr : va_W} {Q : Int32 → St → Prop} {a1 : Int32} (hF : Stab F) (E : CallFix p m c cX6_atom2 2 s args TB RX6) (hr : meth.sig.returnType = some .int) (hlk : meth.locks = false) (hf : wX6_atom2_j71 a1 σ Q) (hI : In (D, tysM cy, F) (LM ad cy Rr σ) A s H locs) (hl : lv_has ls 2 [(0, .ref (ad 16 99)), (1, .int a1)]) : W p l e (rmD 22) s m args below meth c H locs 0 0 (PI below args s (D, tysM cy, F) A (LM ad cy Rr) Q) (F0 m 71 ls []) := by
  have hx := E.1
  have hb := E.2.1
  unfold wX6_atom2_j71 at hf
  refine lv_aload_n (pc := 71) hx hb dX6_atom2_71 rfl (lv_at hl 0 rfl) ?_
  refine lv_dup (pc := 72) hx hb dX6_atom2_72 rfl ?_
  refine g6_26 (pc := 73) E hI lkX6_191 dX6_atom2_73 ?_
  refine lv_iconst (v := 1) (pc := 76) hx hb dX6_atom2_76 rfl ?_
  refine lv_isub (pc := 77) hx hb dX6_atom2_77 ?_
  refine p6_26 (pc := 78) E hI lkX6_191 dX6_atom2_78 (fun H locs σ26 eσ26 hI => ?_)
  have hf := hf σ26 eσ26
  refine lv_aload_n (pc := 81) hx hb dX6_atom2_81 rfl (lv_at hl 0 rfl) ?_
  refine g6_27 (pc := 82) E hI lkX6_181 dX6_atom2_82 ?_
  refine lv_if_ne (tgt := 161) (pc := 85) hx hb dX6_atom2_85 (by decide) (fun c27 => ?_) (fun c27 => ?_)
  · have hf := hf.1 c27
    refine lv_iload_n (pc := 161) hx hb dX6_atom2_161 rfl (lv_at hl 1 rfl) ?_
    exact rI (pc := 162) E hr hlk hI hf dX6_atom2_162
  · have hf := hf.2 c27
    refine lv_aload_n (pc := 88) hx hb dX6_atom2_88 rfl (lv_at hl 0 rfl) ?_
    refine callVV (G := (D, tysM cy, F)) (L := LM ad cy Rr) (pc := 89) (As := []) (rest := []) hF E cs0 hl hI (tX6_next hF hf) mwX6_197 (fitD (by decide)) (at6) rfl rfl rfl rfl (Nat.le_of_ble_eq_true rfl) dX6_atom2_89 (fun σ28 H locs hf hI => ?_)
    refine lv_goto (tgt := 161) (pc := 92) hx hb dX6_atom2_92 (by decide) ?_
    refine lv_iload_n (pc := 161) hx hb dX6_atom2_161 rfl (lv_at hl 1 rfl) ?_
    exact rI (pc := 162) E hr hlk hI hf dX6_atom2_162
def wX6_atom2 (σ : St) (Q : Int32 → St → Prop) : Prop := wX6_isSign 45 σ (fun r2 σ1 => ((r2 = 0 → wX6_isSign 40 σ1 (fun r5 σ4 => ((r5 = 0 → ((¬ (gI σ4 16 27) = 0 → (wX6_atom2_j123 0 σ4 Q)) ∧ ((gI σ4 16 27) = 0 → ((¬ (gI σ4 16 23) = 2 → (wX6_atom2_j123 0 σ4 Q)) ∧ ((gI σ4 16 23) = 2 → ∀ x16 : Int32, x16 = (((gJ σ4 16 25)).toInt32) → wX6_next σ4 (fun σ17 => Q x16 σ17)))))) ∧ (¬ r5 = 0 → wX6_opens σ4 (fun r19 σ18 => ((r19 = 0 → Q 0 σ18) ∧ (¬ r19 = 0 → wX6_either3 σ18 (fun r22 σ21 => wX6_isSign 41 σ21 (fun r24 σ23 => ((¬ r24 = 0 → (wX6_atom2_j71 r22 σ23 Q)) ∧ (r24 = 0 → wX6_fail σ23 (fun σ29 => (wX6_atom2_j71 r22 σ29 Q))))))))))))) ∧ (¬ r2 = 0 → wX6_opens σ1 (fun r31 σ30 => ((r31 = 0 → Q 0 σ30) ∧ (¬ r31 = 0 → wX6_atom3 σ30 (fun r34 σ33 => ∀ x35 : Int32, x35 = (-r34) → ∀ σ36 : St, σ36 = sI σ33 16 26 ((gI σ33 16 26) - 1) → Q x35 σ36)))))))
set_option maxRecDepth 100000 in
set_option maxHeartbeats 4000000 in
theorem bX6_atom2 {p : Program} {l : Launch} {e : Env} {s : State} {m : MethodId} {args : Array Value} {below : List Frame} {meth : Method} {c : Code} {H : Heap} {locs : List Loc} {ls : Array Slot} {D : va_G} {F : (Nat → Prop) → State → Prop} {A : Nat → Prop} {σ : St} {ad : Nat → Nat → Nat} {cy : Nat → ClassId} {Rr : va_W} {Q : Int32 → St → Prop} (hF : Stab F) (E : CallFix p m c cX6_atom2 2 s args TB RX6) (hr : meth.sig.returnType = some .int) (hlk : meth.locks = false) (hf : wX6_atom2 σ Q) (hI : In (D, tysM cy, F) (LM ad cy Rr σ) A s H locs) (hl : lv_has ls 2 [(0, .ref (ad 16 99))]) : W p l e (rmD 22) s m args below meth c H locs 0 0 (PI below args s (D, tysM cy, F) A (LM ad cy Rr) Q) (F0 m 0 ls []) := by
  have hx := E.1
  have hb := E.2.1
  unfold wX6_atom2 at hf
  refine lv_iconst (v := 0) (pc := 0) hx hb dX6_atom2_0 rfl ?_
  refine lv_istore_n (lv' := [(1, .int 0), (0, .ref (ad 16 99))]) (pc := 1) hx hb dX6_atom2_1 rfl hl (by decide) rfl (fun ls hl => ?_)
  refine lv_aload_n (pc := 2) hx hb dX6_atom2_2 rfl (lv_at hl 1 rfl) ?_
  refine lv_bipush (v := 45) (pc := 3) hx hb dX6_atom2_3 rfl ?_
  refine callVI (G := (D, tysM cy, F)) (L := LM ad cy Rr) (pc := 5) (As := [.int 45]) (rest := []) hF E cs0 hl hI (tX6_isSign hF hf) mwX6_222 (fitD (by decide)) (at6) rfl rfl rfl rfl (Nat.le_of_ble_eq_true rfl) dX6_atom2_5 (fun r2 σ1 H locs hf hI => ?_)
  refine lv_if_eq (tgt := 37) (pc := 8) hx hb dX6_atom2_8 (by decide) (fun c3 => ?_) (fun c3 => ?_)
  · have hf := hf.1 c3
    refine lv_aload_n (pc := 37) hx hb dX6_atom2_37 rfl (lv_at hl 1 rfl) ?_
    refine lv_bipush (v := 40) (pc := 38) hx hb dX6_atom2_38 rfl ?_
    refine callVI (G := (D, tysM cy, F)) (L := LM ad cy Rr) (pc := 40) (As := [.int 40]) (rest := []) hF E cs0 hl hI (tX6_isSign hF hf) mwX6_222 (fitD (by decide)) (at6) rfl rfl rfl rfl (Nat.le_of_ble_eq_true rfl) dX6_atom2_40 (fun r5 σ4 H locs hf hI => ?_)
    refine lv_if_eq (tgt := 95) (pc := 43) hx hb dX6_atom2_43 (by decide) (fun c6 => ?_) (fun c6 => ?_)
    · have hf := hf.1 c6
      refine lv_aload_n (pc := 95) hx hb dX6_atom2_95 rfl (lv_at hl 1 rfl) ?_
      refine g6_27 (pc := 96) E hI lkX6_181 dX6_atom2_96 ?_
      refine lv_if_ne (tgt := 123) (pc := 99) hx hb dX6_atom2_99 (by decide) (fun c7 => ?_) (fun c7 => ?_)
      · have hf := hf.1 c7
        exact bX6_atom2_123 hF E hr hlk hf hI (lv_sub hl [1, 0] rfl)
      · have hf := hf.2 c7
        refine lv_aload_n (pc := 102) hx hb dX6_atom2_102 rfl (lv_at hl 1 rfl) ?_
        refine g6_23 (pc := 103) E hI lkX6_165 dX6_atom2_103 ?_
        refine lv_iconst (v := 2) (pc := 106) hx hb dX6_atom2_106 rfl ?_
        refine lv_icmp_ne (tgt := 123) (pc := 107) hx hb dX6_atom2_107 (by decide) (fun c15 => ?_) (fun c15 => ?_)
        · have hf := hf.1 c15
          exact bX6_atom2_123 hF E hr hlk hf hI (lv_sub hl [1, 0] rfl)
        · have hf := hf.2 c15
          refine lv_aload_n (pc := 110) hx hb dX6_atom2_110 rfl (lv_at hl 1 rfl) ?_
          refine g6_25 (pc := 111) E hI lkX6_176 dX6_atom2_111 ?_
          refine lv_l2i (v := (((gJ σ4 16 25)).toInt32)) (pc := 114) hx hb dX6_atom2_114 rfl ?_
          refine lv_topi (fun x16 ex16 => ?_)
          have hf := hf x16 ex16
          refine lv_istore_n (lv' := [(1, .int x16), (0, .ref (ad 16 99))]) (pc := 115) hx hb dX6_atom2_115 rfl hl (by decide) rfl (fun ls hl => ?_)
          refine lv_aload_n (pc := 116) hx hb dX6_atom2_116 rfl (lv_at hl 1 rfl) ?_
          refine callVV (G := (D, tysM cy, F)) (L := LM ad cy Rr) (pc := 117) (As := []) (rest := []) hF E cs0 hl hI (tX6_next hF hf) mwX6_197 (fitD (by decide)) (at6) rfl rfl rfl rfl (Nat.le_of_ble_eq_true rfl) dX6_atom2_117 (fun σ17 H locs hf hI => ?_)
          refine lv_goto (tgt := 161) (pc := 120) hx hb dX6_atom2_120 (by decide) ?_
          refine lv_iload_n (pc := 161) hx hb dX6_atom2_161 rfl (lv_at hl 0 rfl) ?_
          exact rI (pc := 162) E hr hlk hI hf dX6_atom2_162
    · have hf := hf.2 c6
      refine lv_aload_n (pc := 46) hx hb dX6_atom2_46 rfl (lv_at hl 1 rfl) ?_
      refine callVI (G := (D, tysM cy, F)) (L := LM ad cy Rr) (pc := 47) (As := []) (rest := []) hF E cs0 hl hI (tX6_opens hF hf) mwX6_225 (fitD (by decide)) (at6) rfl rfl rfl rfl (Nat.le_of_ble_eq_true rfl) dX6_atom2_47 (fun r19 σ18 H locs hf hI => ?_)
      refine lv_if_eq (tgt := 161) (pc := 50) hx hb dX6_atom2_50 (by decide) (fun c20 => ?_) (fun c20 => ?_)
      · have hf := hf.1 c20
        refine lv_iload_n (pc := 161) hx hb dX6_atom2_161 rfl (lv_at hl 0 rfl) ?_
        exact rI (pc := 162) E hr hlk hI hf dX6_atom2_162
      · have hf := hf.2 c20
        refine lv_aload_n (pc := 53) hx hb dX6_atom2_53 rfl (lv_at hl 1 rfl) ?_
        refine callVI (G := (D, tysM cy, F)) (L := LM ad cy Rr) (pc := 54) (As := []) (rest := []) hF E cs0 hl hI (tX6_either3 hF hf) mwX6_288 (fitD (by decide)) (at6) rfl rfl rfl rfl (Nat.le_of_ble_eq_true rfl) dX6_atom2_54 (fun r22 σ21 H locs hf hI => ?_)
        refine lv_istore_n (lv' := [(1, .int r22), (0, .ref (ad 16 99))]) (pc := 57) hx hb dX6_atom2_57 rfl hl (by decide) rfl (fun ls hl => ?_)
        refine lv_aload_n (pc := 58) hx hb dX6_atom2_58 rfl (lv_at hl 1 rfl) ?_
        refine lv_bipush (v := 41) (pc := 59) hx hb dX6_atom2_59 rfl ?_
        refine callVI (G := (D, tysM cy, F)) (L := LM ad cy Rr) (pc := 61) (As := [.int 41]) (rest := []) hF E cs0 hl hI (tX6_isSign hF hf) mwX6_222 (fitD (by decide)) (at6) rfl rfl rfl rfl (Nat.le_of_ble_eq_true rfl) dX6_atom2_61 (fun r24 σ23 H locs hf hI => ?_)
        refine lv_if_ne (tgt := 71) (pc := 64) hx hb dX6_atom2_64 (by decide) (fun c25 => ?_) (fun c25 => ?_)
        · have hf := hf.1 c25
          exact bX6_atom2_71 hF E hr hlk hf hI (lv_sub hl [1, 0] rfl)
        · have hf := hf.2 c25
          refine lv_aload_n (pc := 67) hx hb dX6_atom2_67 rfl (lv_at hl 1 rfl) ?_
          refine callVV (G := (D, tysM cy, F)) (L := LM ad cy Rr) (pc := 68) (As := []) (rest := []) hF E cs0 hl hI (tX6_fail hF hf) mwX6_194 (fitD (by decide)) (at6) rfl rfl rfl rfl (Nat.le_of_ble_eq_true rfl) dX6_atom2_68 (fun σ29 H locs hf hI => ?_)
          exact bX6_atom2_71 hF E hr hlk hf hI (lv_sub hl [1, 0] rfl)
  · have hf := hf.2 c3
    refine lv_aload_n (pc := 11) hx hb dX6_atom2_11 rfl (lv_at hl 1 rfl) ?_
    refine callVI (G := (D, tysM cy, F)) (L := LM ad cy Rr) (pc := 12) (As := []) (rest := []) hF E cs0 hl hI (tX6_opens hF hf) mwX6_225 (fitD (by decide)) (at6) rfl rfl rfl rfl (Nat.le_of_ble_eq_true rfl) dX6_atom2_12 (fun r31 σ30 H locs hf hI => ?_)
    refine lv_if_eq (tgt := 161) (pc := 15) hx hb dX6_atom2_15 (by decide) (fun c32 => ?_) (fun c32 => ?_)
    · have hf := hf.1 c32
      refine lv_iload_n (pc := 161) hx hb dX6_atom2_161 rfl (lv_at hl 0 rfl) ?_
      exact rI (pc := 162) E hr hlk hI hf dX6_atom2_162
    · have hf := hf.2 c32
      refine lv_aload_n (pc := 18) hx hb dX6_atom2_18 rfl (lv_at hl 1 rfl) ?_
      refine callVI (G := (D, tysM cy, F)) (L := LM ad cy Rr) (pc := 19) (As := []) (rest := []) hF E cs0 hl hI (tX6_atom3 hF hf) mwX6_273 (fitD (by decide)) (at6) rfl rfl rfl rfl (Nat.le_of_ble_eq_true rfl) dX6_atom2_19 (fun r34 σ33 H locs hf hI => ?_)
      refine lv_ineg (pc := 22) hx hb dX6_atom2_22 ?_
      refine lv_topi (fun x35 ex35 => ?_)
      have hf := hf x35 ex35
      refine lv_istore_n (lv' := [(1, .int x35), (0, .ref (ad 16 99))]) (pc := 23) hx hb dX6_atom2_23 rfl hl (by decide) rfl (fun ls hl => ?_)
      refine lv_aload_n (pc := 24) hx hb dX6_atom2_24 rfl (lv_at hl 1 rfl) ?_
      refine lv_dup (pc := 25) hx hb dX6_atom2_25 rfl ?_
      refine g6_26 (pc := 26) E hI lkX6_191 dX6_atom2_26 ?_
      refine lv_iconst (v := 1) (pc := 29) hx hb dX6_atom2_29 rfl ?_
      refine lv_isub (pc := 30) hx hb dX6_atom2_30 ?_
      refine p6_26 (pc := 31) E hI lkX6_191 dX6_atom2_31 (fun H locs σ36 eσ36 hI => ?_)
      have hf := hf σ36 eσ36
      refine lv_goto (tgt := 161) (pc := 34) hx hb dX6_atom2_34 (by decide) ?_
      refine lv_iload_n (pc := 161) hx hb dX6_atom2_161 rfl (lv_at hl 0 rfl) ?_
      exact rI (pc := 162) E hr hlk hI hf dX6_atom2_162
theorem tX6_atom2 {l : Launch} {D : va_G} {F : (Nat → Prop) → State → Prop} {σ : St} {ad : Nat → Nat → Nat} {cy : Nat → ClassId} {Rr : va_W} {Q : Int32 → St → Prop} (hF : Stab F) (hf : wX6_atom2 σ Q) : CtI l yX6_atom2 cX6_atom2 2 .int 22 (D, tysM cy, F) (LM ad cy Rr) [.ref (ad 16 99)] σ Q := mkI (by decide) (Nat.le_of_ble_eq_true rfl) (fun p e s m below meth c A E hr hlk hI ls hl => bX6_atom2 hF E hr hlk hf hI hl)

def wX6_term2_l5s (ih : Int32 → St → Prop) (a1 : Int32) (σ : St) (Q : Int32 → St → Prop) : Prop := wX6_isSign 42 σ (fun r4 σ3 => ((r4 = 0 → Q a1 σ3) ∧ (¬ r4 = 0 → wX6_next σ3 (fun σ6 => wX6_atom2 σ6 (fun r8 σ7 => ∀ x9 : Int32, x9 = (a1 * r8) → (ih x9 σ7))))))
def wX6_term2_l5 (n : Nat) : Int32 → St → (Int32 → St → Prop) → Prop := @Nat.rec (fun _ => Int32 → St → (Int32 → St → Prop) → Prop) (fun _ _ _ => False) (fun _ ih a1 σ Q => wX6_term2_l5s (fun a1 σ => ih a1 σ Q) a1 σ Q) n
set_option maxRecDepth 100000 in
set_option maxHeartbeats 4000000 in
theorem bX6_term2_5 {p : Program} {l : Launch} {e : Env} {s : State} {m : MethodId} {args : Array Value} {below : List Frame} {meth : Method} {c : Code} {D : va_G} {F : (Nat → Prop) → State → Prop} {A : Nat → Prop} {ad : Nat → Nat → Nat} {cy : Nat → ClassId} {Rr : va_W} {Q : Int32 → St → Prop} (hF : Stab F) (E : CallFix p m c cX6_term2 2 s args TB RX6) (hr : meth.sig.returnType = some .int) (hlk : meth.locks = false) : ∀ (n : Nat) {a1 : Int32} {σ : St} {H : Heap} {locs : List Loc} {ls : Array Slot}, wX6_term2_l5 n a1 σ Q → In (D, tysM cy, F) (LM ad cy Rr σ) A s H locs → lv_has ls 2 [(0, .ref (ad 16 99)), (1, .int a1)] → W p l e (rmD 23) s m args below meth c H locs 0 0 (PI below args s (D, tysM cy, F) A (LM ad cy Rr) Q) (F0 m 5 ls []) := by
  have hx := E.1
  have hb := E.2.1
  intro n
  induction n with
  | zero => intro a1 σ H locs ls hf hI hl; exact False.elim hf
  | succ n ih =>
    intro a1 σ H locs ls hf hI hl
    have hf : wX6_term2_l5s (fun a1 σ => wX6_term2_l5 n a1 σ Q) a1 σ Q := hf
    unfold wX6_term2_l5s at hf
    refine lv_aload_n (pc := 5) hx hb dX6_term2_5 rfl (lv_at hl 0 rfl) ?_
    refine lv_bipush (v := 42) (pc := 6) hx hb dX6_term2_6 rfl ?_
    refine callVI (G := (D, tysM cy, F)) (L := LM ad cy Rr) (pc := 8) (As := [.int 42]) (rest := []) hF E cs0 hl hI (tX6_isSign hF hf) mwX6_222 (fitD (by decide)) (at6) rfl rfl rfl rfl (Nat.le_of_ble_eq_true rfl) dX6_term2_8 (fun r4 σ3 H locs hf hI => ?_)
    refine lv_if_eq (tgt := 28) (pc := 11) hx hb dX6_term2_11 (by decide) (fun c5 => ?_) (fun c5 => ?_)
    · have hf := hf.1 c5
      refine lv_iload_n (pc := 28) hx hb dX6_term2_28 rfl (lv_at hl 1 rfl) ?_
      exact rI (pc := 29) E hr hlk hI hf dX6_term2_29
    · have hf := hf.2 c5
      refine lv_aload_n (pc := 14) hx hb dX6_term2_14 rfl (lv_at hl 0 rfl) ?_
      refine callVV (G := (D, tysM cy, F)) (L := LM ad cy Rr) (pc := 15) (As := []) (rest := []) hF E cs0 hl hI (tX6_next hF hf) mwX6_197 (fitD (by decide)) (at6) rfl rfl rfl rfl (Nat.le_of_ble_eq_true rfl) dX6_term2_15 (fun σ6 H locs hf hI => ?_)
      refine lv_iload_n (pc := 18) hx hb dX6_term2_18 rfl (lv_at hl 1 rfl) ?_
      refine lv_aload_n (pc := 19) hx hb dX6_term2_19 rfl (lv_at hl 0 rfl) ?_
      refine callVI (G := (D, tysM cy, F)) (L := LM ad cy Rr) (pc := 20) (As := []) (rest := [.int a1]) hF E cs0 hl hI (tX6_atom2 hF hf) mwX6_291 (fitD (by decide)) (at6) rfl rfl rfl rfl (Nat.le_of_ble_eq_true rfl) dX6_term2_20 (fun r8 σ7 H locs hf hI => ?_)
      refine lv_imul (pc := 23) hx hb dX6_term2_23 ?_
      refine lv_topi (fun x9 ex9 => ?_)
      have hf := hf x9 ex9
      refine lv_istore_n (lv' := [(1, .int x9), (0, .ref (ad 16 99))]) (pc := 24) hx hb dX6_term2_24 rfl hl (by decide) rfl (fun ls hl => ?_)
      refine lv_goto (tgt := 5) (pc := 25) hx hb dX6_term2_25 (by decide) ?_
      exact ih hf hI (lv_sub hl [1, 0] rfl)
def wX6_term2 (σ : St) (Q : Int32 → St → Prop) : Prop := wX6_atom2 σ (fun r2 σ1 => ∃ n10 : Nat, wX6_term2_l5 n10 r2 σ1 Q)
set_option maxRecDepth 100000 in
set_option maxHeartbeats 4000000 in
theorem bX6_term2 {p : Program} {l : Launch} {e : Env} {s : State} {m : MethodId} {args : Array Value} {below : List Frame} {meth : Method} {c : Code} {H : Heap} {locs : List Loc} {ls : Array Slot} {D : va_G} {F : (Nat → Prop) → State → Prop} {A : Nat → Prop} {σ : St} {ad : Nat → Nat → Nat} {cy : Nat → ClassId} {Rr : va_W} {Q : Int32 → St → Prop} (hF : Stab F) (E : CallFix p m c cX6_term2 2 s args TB RX6) (hr : meth.sig.returnType = some .int) (hlk : meth.locks = false) (hf : wX6_term2 σ Q) (hI : In (D, tysM cy, F) (LM ad cy Rr σ) A s H locs) (hl : lv_has ls 2 [(0, .ref (ad 16 99))]) : W p l e (rmD 23) s m args below meth c H locs 0 0 (PI below args s (D, tysM cy, F) A (LM ad cy Rr) Q) (F0 m 0 ls []) := by
  have hx := E.1
  have hb := E.2.1
  unfold wX6_term2 at hf
  refine lv_aload_n (pc := 0) hx hb dX6_term2_0 rfl (lv_at hl 0 rfl) ?_
  refine callVI (G := (D, tysM cy, F)) (L := LM ad cy Rr) (pc := 1) (As := []) (rest := []) hF E cs0 hl hI (tX6_atom2 hF hf) mwX6_291 (fitD (by decide)) (at6) rfl rfl rfl rfl (Nat.le_of_ble_eq_true rfl) dX6_term2_1 (fun r2 σ1 H locs hf hI => ?_)
  refine lv_istore_n (lv' := [(1, .int r2), (0, .ref (ad 16 99))]) (pc := 4) hx hb dX6_term2_4 rfl hl (by decide) rfl (fun ls hl => ?_)
  obtain ⟨n10, hf⟩ := hf
  exact bX6_term2_5 hF E hr hlk n10 hf hI (lv_sub hl [1, 0] rfl)
theorem tX6_term2 {l : Launch} {D : va_G} {F : (Nat → Prop) → State → Prop} {σ : St} {ad : Nat → Nat → Nat} {cy : Nat → ClassId} {Rr : va_W} {Q : Int32 → St → Prop} (hF : Stab F) (hf : wX6_term2 σ Q) : CtI l yX6_term2 cX6_term2 2 .int 23 (D, tysM cy, F) (LM ad cy Rr) [.ref (ad 16 99)] σ Q := mkI (by decide) (Nat.le_of_ble_eq_true rfl) (fun p e s m below meth c A E hr hlk hI ls hl => bX6_term2 hF E hr hlk hf hI hl)

def wX6_added2_j62 (s0 : Int32) (σ : St) (K : Int32 → St → Prop) (Q : Int32 → St → Prop) : Prop := (K s0 σ)
set_option maxRecDepth 100000 in
set_option maxHeartbeats 4000000 in
theorem bX6_added2_62 {p : Program} {l : Launch} {e : Env} {s : State} {m : MethodId} {args : Array Value} {below : List Frame} {meth : Method} {c : Code} {H : Heap} {locs : List Loc} {ls : Array Slot} {D : va_G} {F : (Nat → Prop) → State → Prop} {A : Nat → Prop} {σ : St} {ad : Nat → Nat → Nat} {cy : Nat → ClassId} {Rr : va_W} {Q : Int32 → St → Prop} {s0 : Int32} {K : Int32 → St → Prop} (hF : Stab F) (E : CallFix p m c cX6_added2 4 s args TB RX6) (hr : meth.sig.returnType = some .int) (hlk : meth.locks = false) (hK : ∀ (a1 : Int32) (σ : St) (H : Heap) (locs : List Loc) (ls : Array Slot), K a1 σ → In (D, tysM cy, F) (LM ad cy Rr σ) A s H locs → lv_has ls 4 [(0, .ref (ad 16 99)), (1, .int a1)] → W p l e (rmD 24) s m args below meth c H locs 0 0 (PI below args s (D, tysM cy, F) A (LM ad cy Rr) Q) (F0 m 5 ls [])) (hf : wX6_added2_j62 s0 σ K Q) (hI : In (D, tysM cy, F) (LM ad cy Rr σ) A s H locs) (hl : lv_has ls 4 [(0, .ref (ad 16 99))]) : W p l e (rmD 24) s m args below meth c H locs 0 0 (PI below args s (D, tysM cy, F) A (LM ad cy Rr) Q) (F0 m 62 ls [.int s0]) := by
  have hx := E.1
  have hb := E.2.1
  unfold wX6_added2_j62 at hf
  refine lv_istore_n (lv' := [(1, .int s0), (0, .ref (ad 16 99))]) (pc := 62) hx hb dX6_added2_62 rfl hl (by decide) rfl (fun ls hl => ?_)
  refine lv_goto (tgt := 5) (pc := 63) hx hb dX6_added2_63 (by decide) ?_
  exact hK _ _ _ _ _ hf hI (lv_sub hl [1, 0] rfl)
def wX6_added2_j39 (a1 : Int32) (s0 : Int32) (σ : St) (K : Int32 → St → Prop) (Q : Int32 → St → Prop) : Prop := wX6_next σ (fun σ7 => wX6_term2 σ7 (fun r9 σ8 => ((s0 = 0 → (wX6_added2_j62 (a1 - r9) σ8 K Q)) ∧ (¬ s0 = 0 → (wX6_added2_j62 (a1 + r9) σ8 K Q)))))
set_option maxRecDepth 100000 in
set_option maxHeartbeats 4000000 in
theorem bX6_added2_39 {p : Program} {l : Launch} {e : Env} {s : State} {m : MethodId} {args : Array Value} {below : List Frame} {meth : Method} {c : Code} {H : Heap} {locs : List Loc} {ls : Array Slot} {D : va_G} {F : (Nat → Prop) → State → Prop} {A : Nat → Prop} {σ : St} {ad : Nat → Nat → Nat} {cy : Nat → ClassId} {Rr : va_W} {Q : Int32 → St → Prop} {a1 : Int32} {s0 : Int32} {K : Int32 → St → Prop} (hF : Stab F) (E : CallFix p m c cX6_added2 4 s args TB RX6) (hr : meth.sig.returnType = some .int) (hlk : meth.locks = false) (hK : ∀ (a1 : Int32) (σ : St) (H : Heap) (locs : List Loc) (ls : Array Slot), K a1 σ → In (D, tysM cy, F) (LM ad cy Rr σ) A s H locs → lv_has ls 4 [(0, .ref (ad 16 99)), (1, .int a1)] → W p l e (rmD 24) s m args below meth c H locs 0 0 (PI below args s (D, tysM cy, F) A (LM ad cy Rr) Q) (F0 m 5 ls [])) (hf : wX6_added2_j39 a1 s0 σ K Q) (hI : In (D, tysM cy, F) (LM ad cy Rr σ) A s H locs) (hl : lv_has ls 4 [(0, .ref (ad 16 99)), (1, .int a1)]) : W p l e (rmD 24) s m args below meth c H locs 0 0 (PI below args s (D, tysM cy, F) A (LM ad cy Rr) Q) (F0 m 39 ls [.int s0]) := by
  have hx := E.1
  have hb := E.2.1
  unfold wX6_added2_j39 at hf
  refine lv_istore_n (lv' := [(2, .int s0), (0, .ref (ad 16 99)), (1, .int a1)]) (pc := 39) hx hb dX6_added2_39 rfl hl (by decide) rfl (fun ls hl => ?_)
  refine lv_aload_n (pc := 40) hx hb dX6_added2_40 rfl (lv_at hl 1 rfl) ?_
  refine callVV (G := (D, tysM cy, F)) (L := LM ad cy Rr) (pc := 41) (As := []) (rest := []) hF E cs0 hl hI (tX6_next hF hf) mwX6_197 (fitD (by decide)) (at6) rfl rfl rfl rfl (Nat.le_of_ble_eq_true rfl) dX6_added2_41 (fun σ7 H locs hf hI => ?_)
  refine lv_aload_n (pc := 44) hx hb dX6_added2_44 rfl (lv_at hl 1 rfl) ?_
  refine callVI (G := (D, tysM cy, F)) (L := LM ad cy Rr) (pc := 45) (As := []) (rest := []) hF E cs0 hl hI (tX6_term2 hF hf) mwX6_294 (fitD (by decide)) (at6) rfl rfl rfl rfl (Nat.le_of_ble_eq_true rfl) dX6_added2_45 (fun r9 σ8 H locs hf hI => ?_)
  refine lv_istore_n (lv' := [(3, .int r9), (2, .int s0), (0, .ref (ad 16 99)), (1, .int a1)]) (pc := 48) hx hb dX6_added2_48 rfl hl (by decide) rfl (fun ls hl => ?_)
  refine lv_iload_n (pc := 49) hx hb dX6_added2_49 rfl (lv_at hl 1 rfl) ?_
  refine lv_if_eq (tgt := 59) (pc := 50) hx hb dX6_added2_50 (by decide) (fun c10 => ?_) (fun c10 => ?_)
  · have hf := hf.1 c10
    refine lv_iload_n (pc := 59) hx hb dX6_added2_59 rfl (lv_at hl 3 rfl) ?_
    refine lv_iload_n (pc := 60) hx hb dX6_added2_60 rfl (lv_at hl 0 rfl) ?_
    refine lv_isub (pc := 61) hx hb dX6_added2_61 ?_
    exact bX6_added2_62 hF E hr hlk hK hf hI (lv_sub hl [2] rfl)
  · have hf := hf.2 c10
    refine lv_iload_n (pc := 53) hx hb dX6_added2_53 rfl (lv_at hl 3 rfl) ?_
    refine lv_iload_n (pc := 54) hx hb dX6_added2_54 rfl (lv_at hl 0 rfl) ?_
    refine lv_iadd (pc := 55) hx hb dX6_added2_55 ?_
    refine lv_goto (tgt := 62) (pc := 56) hx hb dX6_added2_56 (by decide) ?_
    exact bX6_added2_62 hF E hr hlk hK hf hI (lv_sub hl [2] rfl)
def wX6_added2_j23 (a1 : Int32) (σ : St) (K : Int32 → St → Prop) (Q : Int32 → St → Prop) : Prop := ((¬ (lg_cmp (gJ σ 16 25) 43) = 0 → (wX6_added2_j39 a1 0 σ K Q)) ∧ ((lg_cmp (gJ σ 16 25) 43) = 0 → (wX6_added2_j39 a1 1 σ K Q)))
set_option maxRecDepth 100000 in
set_option maxHeartbeats 4000000 in
theorem bX6_added2_23 {p : Program} {l : Launch} {e : Env} {s : State} {m : MethodId} {args : Array Value} {below : List Frame} {meth : Method} {c : Code} {H : Heap} {locs : List Loc} {ls : Array Slot} {D : va_G} {F : (Nat → Prop) → State → Prop} {A : Nat → Prop} {σ : St} {ad : Nat → Nat → Nat} {cy : Nat → ClassId} {Rr : va_W} {Q : Int32 → St → Prop} {a1 : Int32} {K : Int32 → St → Prop} (hF : Stab F) (E : CallFix p m c cX6_added2 4 s args TB RX6) (hr : meth.sig.returnType = some .int) (hlk : meth.locks = false) (hK : ∀ (a1 : Int32) (σ : St) (H : Heap) (locs : List Loc) (ls : Array Slot), K a1 σ → In (D, tysM cy, F) (LM ad cy Rr σ) A s H locs → lv_has ls 4 [(0, .ref (ad 16 99)), (1, .int a1)] → W p l e (rmD 24) s m args below meth c H locs 0 0 (PI below args s (D, tysM cy, F) A (LM ad cy Rr) Q) (F0 m 5 ls [])) (hf : wX6_added2_j23 a1 σ K Q) (hI : In (D, tysM cy, F) (LM ad cy Rr σ) A s H locs) (hl : lv_has ls 4 [(0, .ref (ad 16 99)), (1, .int a1)]) : W p l e (rmD 24) s m args below meth c H locs 0 0 (PI below args s (D, tysM cy, F) A (LM ad cy Rr) Q) (F0 m 23 ls []) := by
  have hx := E.1
  have hb := E.2.1
  unfold wX6_added2_j23 at hf
  refine lv_aload_n (pc := 23) hx hb dX6_added2_23 rfl (lv_at hl 0 rfl) ?_
  refine g6_25 (pc := 24) E hI lkX6_176 dX6_added2_24 ?_
  refine lv_ldc2 (pc := 27) E.1 E.2.1 E.2.2.2.1 (E.2.2.2.2 _ kcX6_239) dX6_added2_27 ?_
  refine W.lcmp (pc := 30) hx hb dX6_added2_30 ?_
  refine lv_if_ne (tgt := 38) (pc := 31) hx hb dX6_added2_31 (by decide) (fun c6 => ?_) (fun c6 => ?_)
  · have hf := hf.1 c6
    refine lv_iconst (v := 0) (pc := 38) hx hb dX6_added2_38 rfl ?_
    exact bX6_added2_39 hF E hr hlk hK hf hI (lv_sub hl [0, 1] rfl)
  · have hf := hf.2 c6
    refine lv_iconst (v := 1) (pc := 34) hx hb dX6_added2_34 rfl ?_
    refine lv_goto (tgt := 39) (pc := 35) hx hb dX6_added2_35 (by decide) ?_
    exact bX6_added2_39 hF E hr hlk hK hf hI (lv_sub hl [0, 1] rfl)
def wX6_added2_l5s (ih : Int32 → St → Prop) (a1 : Int32) (σ : St) (Q : Int32 → St → Prop) : Prop := wX6_isSign 43 σ (fun r4 σ3 => ((¬ r4 = 0 → (wX6_added2_j23 a1 σ3 ih Q)) ∧ (r4 = 0 → wX6_isSign 45 σ3 (fun r12 σ11 => ((r12 = 0 → Q a1 σ11) ∧ (¬ r12 = 0 → (wX6_added2_j23 a1 σ11 ih Q)))))))
def wX6_added2_l5 (n : Nat) : Int32 → St → (Int32 → St → Prop) → Prop := @Nat.rec (fun _ => Int32 → St → (Int32 → St → Prop) → Prop) (fun _ _ _ => False) (fun _ ih a1 σ Q => wX6_added2_l5s (fun a1 σ => ih a1 σ Q) a1 σ Q) n
set_option maxRecDepth 100000 in
set_option maxHeartbeats 4000000 in
theorem bX6_added2_5 {p : Program} {l : Launch} {e : Env} {s : State} {m : MethodId} {args : Array Value} {below : List Frame} {meth : Method} {c : Code} {D : va_G} {F : (Nat → Prop) → State → Prop} {A : Nat → Prop} {ad : Nat → Nat → Nat} {cy : Nat → ClassId} {Rr : va_W} {Q : Int32 → St → Prop} (hF : Stab F) (E : CallFix p m c cX6_added2 4 s args TB RX6) (hr : meth.sig.returnType = some .int) (hlk : meth.locks = false) : ∀ (n : Nat) {a1 : Int32} {σ : St} {H : Heap} {locs : List Loc} {ls : Array Slot}, wX6_added2_l5 n a1 σ Q → In (D, tysM cy, F) (LM ad cy Rr σ) A s H locs → lv_has ls 4 [(0, .ref (ad 16 99)), (1, .int a1)] → W p l e (rmD 24) s m args below meth c H locs 0 0 (PI below args s (D, tysM cy, F) A (LM ad cy Rr) Q) (F0 m 5 ls []) := by
  have hx := E.1
  have hb := E.2.1
  intro n
  induction n with
  | zero => intro a1 σ H locs ls hf hI hl; exact False.elim hf
  | succ n ih =>
    intro a1 σ H locs ls hf hI hl
    have hf : wX6_added2_l5s (fun a1 σ => wX6_added2_l5 n a1 σ Q) a1 σ Q := hf
    unfold wX6_added2_l5s at hf
    refine lv_aload_n (pc := 5) hx hb dX6_added2_5 rfl (lv_at hl 0 rfl) ?_
    refine lv_bipush (v := 43) (pc := 6) hx hb dX6_added2_6 rfl ?_
    refine callVI (G := (D, tysM cy, F)) (L := LM ad cy Rr) (pc := 8) (As := [.int 43]) (rest := []) hF E cs0 hl hI (tX6_isSign hF hf) mwX6_222 (fitD (by decide)) (at6) rfl rfl rfl rfl (Nat.le_of_ble_eq_true rfl) dX6_added2_8 (fun r4 σ3 H locs hf hI => ?_)
    refine lv_if_ne (tgt := 23) (pc := 11) hx hb dX6_added2_11 (by decide) (fun c5 => ?_) (fun c5 => ?_)
    · have hf := hf.1 c5
      exact bX6_added2_23 hF E hr hlk (fun _ _ _ _ _ hf hI hl => ih hf hI hl) hf hI (lv_sub hl [0, 1] rfl)
    · have hf := hf.2 c5
      refine lv_aload_n (pc := 14) hx hb dX6_added2_14 rfl (lv_at hl 0 rfl) ?_
      refine lv_bipush (v := 45) (pc := 15) hx hb dX6_added2_15 rfl ?_
      refine callVI (G := (D, tysM cy, F)) (L := LM ad cy Rr) (pc := 17) (As := [.int 45]) (rest := []) hF E cs0 hl hI (tX6_isSign hF hf) mwX6_222 (fitD (by decide)) (at6) rfl rfl rfl rfl (Nat.le_of_ble_eq_true rfl) dX6_added2_17 (fun r12 σ11 H locs hf hI => ?_)
      refine lv_if_eq (tgt := 66) (pc := 20) hx hb dX6_added2_20 (by decide) (fun c13 => ?_) (fun c13 => ?_)
      · have hf := hf.1 c13
        refine lv_iload_n (pc := 66) hx hb dX6_added2_66 rfl (lv_at hl 1 rfl) ?_
        exact rI (pc := 67) E hr hlk hI hf dX6_added2_67
      · have hf := hf.2 c13
        exact bX6_added2_23 hF E hr hlk (fun _ _ _ _ _ hf hI hl => ih hf hI hl) hf hI (lv_sub hl [0, 1] rfl)
def wX6_added2 (σ : St) (Q : Int32 → St → Prop) : Prop := wX6_term2 σ (fun r2 σ1 => ∃ n14 : Nat, wX6_added2_l5 n14 r2 σ1 Q)
set_option maxRecDepth 100000 in
set_option maxHeartbeats 4000000 in
theorem bX6_added2 {p : Program} {l : Launch} {e : Env} {s : State} {m : MethodId} {args : Array Value} {below : List Frame} {meth : Method} {c : Code} {H : Heap} {locs : List Loc} {ls : Array Slot} {D : va_G} {F : (Nat → Prop) → State → Prop} {A : Nat → Prop} {σ : St} {ad : Nat → Nat → Nat} {cy : Nat → ClassId} {Rr : va_W} {Q : Int32 → St → Prop} (hF : Stab F) (E : CallFix p m c cX6_added2 4 s args TB RX6) (hr : meth.sig.returnType = some .int) (hlk : meth.locks = false) (hf : wX6_added2 σ Q) (hI : In (D, tysM cy, F) (LM ad cy Rr σ) A s H locs) (hl : lv_has ls 4 [(0, .ref (ad 16 99))]) : W p l e (rmD 24) s m args below meth c H locs 0 0 (PI below args s (D, tysM cy, F) A (LM ad cy Rr) Q) (F0 m 0 ls []) := by
  have hx := E.1
  have hb := E.2.1
  unfold wX6_added2 at hf
  refine lv_aload_n (pc := 0) hx hb dX6_added2_0 rfl (lv_at hl 0 rfl) ?_
  refine callVI (G := (D, tysM cy, F)) (L := LM ad cy Rr) (pc := 1) (As := []) (rest := []) hF E cs0 hl hI (tX6_term2 hF hf) mwX6_294 (fitD (by decide)) (at6) rfl rfl rfl rfl (Nat.le_of_ble_eq_true rfl) dX6_added2_1 (fun r2 σ1 H locs hf hI => ?_)
  refine lv_istore_n (lv' := [(1, .int r2), (0, .ref (ad 16 99))]) (pc := 4) hx hb dX6_added2_4 rfl hl (by decide) rfl (fun ls hl => ?_)
  obtain ⟨n14, hf⟩ := hf
  exact bX6_added2_5 hF E hr hlk n14 hf hI (lv_sub hl [1, 0] rfl)
theorem tX6_added2 {l : Launch} {D : va_G} {F : (Nat → Prop) → State → Prop} {σ : St} {ad : Nat → Nat → Nat} {cy : Nat → ClassId} {Rr : va_W} {Q : Int32 → St → Prop} (hF : Stab F) (hf : wX6_added2 σ Q) : CtI l yX6_added2 cX6_added2 4 .int 24 (D, tysM cy, F) (LM ad cy Rr) [.ref (ad 16 99)] σ Q := mkI (by decide) (Nat.le_of_ble_eq_true rfl) (fun p e s m below meth c A E hr hlk hI ls hl => bX6_added2 hF E hr hlk hf hI hl)

def wX6_not2_j93 (a1 : Int32) (s0 : Int32) (σ : St) (Q : Int32 → St → Prop) : Prop := wX6_next σ (fun σ10 => wX6_added2 σ10 (fun r12 σ11 => ((s0 = 0 → ((¬ a1 = r12 → Q 0 σ11) ∧ (a1 = r12 → Q 1 σ11))) ∧ (¬ s0 = 0 → ((r12 ≤ a1 → Q 0 σ11) ∧ (¬ r12 ≤ a1 → Q 1 σ11))))))
set_option maxRecDepth 100000 in
set_option maxHeartbeats 4000000 in
theorem bX6_not2_93 {p : Program} {l : Launch} {e : Env} {s : State} {m : MethodId} {args : Array Value} {below : List Frame} {meth : Method} {c : Code} {H : Heap} {locs : List Loc} {ls : Array Slot} {D : va_G} {F : (Nat → Prop) → State → Prop} {A : Nat → Prop} {σ : St} {ad : Nat → Nat → Nat} {cy : Nat → ClassId} {Rr : va_W} {Q : Int32 → St → Prop} {a1 : Int32} {s0 : Int32} (hF : Stab F) (E : CallFix p m c cX6_not2 4 s args TB RX6) (hr : meth.sig.returnType = some .int) (hlk : meth.locks = false) (hf : wX6_not2_j93 a1 s0 σ Q) (hI : In (D, tysM cy, F) (LM ad cy Rr σ) A s H locs) (hl : lv_has ls 4 [(0, .ref (ad 16 99)), (1, .int a1)]) : W p l e (rmD 25) s m args below meth c H locs 0 0 (PI below args s (D, tysM cy, F) A (LM ad cy Rr) Q) (F0 m 93 ls [.int s0]) := by
  have hx := E.1
  have hb := E.2.1
  unfold wX6_not2_j93 at hf
  refine lv_istore_n (lv' := [(2, .int s0), (0, .ref (ad 16 99)), (1, .int a1)]) (pc := 93) hx hb dX6_not2_93 rfl hl (by decide) rfl (fun ls hl => ?_)
  refine lv_aload_n (pc := 94) hx hb dX6_not2_94 rfl (lv_at hl 1 rfl) ?_
  refine callVV (G := (D, tysM cy, F)) (L := LM ad cy Rr) (pc := 95) (As := []) (rest := []) hF E cs0 hl hI (tX6_next hF hf) mwX6_197 (fitD (by decide)) (at6) rfl rfl rfl rfl (Nat.le_of_ble_eq_true rfl) dX6_not2_95 (fun σ10 H locs hf hI => ?_)
  refine lv_aload_n (pc := 98) hx hb dX6_not2_98 rfl (lv_at hl 1 rfl) ?_
  refine callVI (G := (D, tysM cy, F)) (L := LM ad cy Rr) (pc := 99) (As := []) (rest := []) hF E cs0 hl hI (tX6_added2 hF hf) mwX6_297 (fitD (by decide)) (at6) rfl rfl rfl rfl (Nat.le_of_ble_eq_true rfl) dX6_not2_99 (fun r12 σ11 H locs hf hI => ?_)
  refine lv_istore_n (lv' := [(3, .int r12), (2, .int s0), (0, .ref (ad 16 99)), (1, .int a1)]) (pc := 102) hx hb dX6_not2_102 rfl hl (by decide) rfl (fun ls hl => ?_)
  refine lv_iload_n (pc := 103) hx hb dX6_not2_103 rfl (lv_at hl 1 rfl) ?_
  refine lv_if_eq (tgt := 115) (pc := 104) hx hb dX6_not2_104 (by decide) (fun c13 => ?_) (fun c13 => ?_)
  · have hf := hf.1 c13
    refine lv_iload_n (pc := 115) hx hb dX6_not2_115 rfl (lv_at hl 3 rfl) ?_
    refine lv_iload_n (pc := 116) hx hb dX6_not2_116 rfl (lv_at hl 0 rfl) ?_
    refine lv_icmp_ne (tgt := 124) (pc := 117) hx hb dX6_not2_117 (by decide) (fun c14 => ?_) (fun c14 => ?_)
    · have hf := hf.1 c14
      refine lv_iconst (v := 0) (pc := 124) hx hb dX6_not2_124 rfl ?_
      exact rI (pc := 125) E hr hlk hI hf dX6_not2_125
    · have hf := hf.2 c14
      refine lv_iconst (v := 1) (pc := 120) hx hb dX6_not2_120 rfl ?_
      refine lv_goto (tgt := 125) (pc := 121) hx hb dX6_not2_121 (by decide) ?_
      exact rI (pc := 125) E hr hlk hI hf dX6_not2_125
  · have hf := hf.2 c13
    refine lv_iload_n (pc := 107) hx hb dX6_not2_107 rfl (lv_at hl 3 rfl) ?_
    refine lv_iload_n (pc := 108) hx hb dX6_not2_108 rfl (lv_at hl 0 rfl) ?_
    refine lv_icmp_ge (tgt := 124) (pc := 109) hx hb dX6_not2_109 (by decide) (fun c15 => ?_) (fun c15 => ?_)
    · have hf := hf.1 c15
      refine lv_iconst (v := 0) (pc := 124) hx hb dX6_not2_124 rfl ?_
      exact rI (pc := 125) E hr hlk hI hf dX6_not2_125
    · have hf := hf.2 c15
      refine lv_goto (tgt := 120) (pc := 112) hx hb dX6_not2_112 (by decide) ?_
      refine lv_iconst (v := 1) (pc := 120) hx hb dX6_not2_120 rfl ?_
      refine lv_goto (tgt := 125) (pc := 121) hx hb dX6_not2_121 (by decide) ?_
      exact rI (pc := 125) E hr hlk hI hf dX6_not2_125
def wX6_not2_j77 (a1 : Int32) (σ : St) (Q : Int32 → St → Prop) : Prop := ((¬ (lg_cmp (gJ σ 16 25) 60) = 0 → (wX6_not2_j93 a1 0 σ Q)) ∧ ((lg_cmp (gJ σ 16 25) 60) = 0 → (wX6_not2_j93 a1 1 σ Q)))
set_option maxRecDepth 100000 in
set_option maxHeartbeats 4000000 in
theorem bX6_not2_77 {p : Program} {l : Launch} {e : Env} {s : State} {m : MethodId} {args : Array Value} {below : List Frame} {meth : Method} {c : Code} {H : Heap} {locs : List Loc} {ls : Array Slot} {D : va_G} {F : (Nat → Prop) → State → Prop} {A : Nat → Prop} {σ : St} {ad : Nat → Nat → Nat} {cy : Nat → ClassId} {Rr : va_W} {Q : Int32 → St → Prop} {a1 : Int32} (hF : Stab F) (E : CallFix p m c cX6_not2 4 s args TB RX6) (hr : meth.sig.returnType = some .int) (hlk : meth.locks = false) (hf : wX6_not2_j77 a1 σ Q) (hI : In (D, tysM cy, F) (LM ad cy Rr σ) A s H locs) (hl : lv_has ls 4 [(0, .ref (ad 16 99)), (1, .int a1)]) : W p l e (rmD 25) s m args below meth c H locs 0 0 (PI below args s (D, tysM cy, F) A (LM ad cy Rr) Q) (F0 m 77 ls []) := by
  have hx := E.1
  have hb := E.2.1
  unfold wX6_not2_j77 at hf
  refine lv_aload_n (pc := 77) hx hb dX6_not2_77 rfl (lv_at hl 0 rfl) ?_
  refine g6_25 (pc := 78) E hI lkX6_176 dX6_not2_78 ?_
  refine lv_ldc2 (pc := 81) E.1 E.2.1 E.2.2.2.1 (E.2.2.2.2 _ kcX6_244) dX6_not2_81 ?_
  refine W.lcmp (pc := 84) hx hb dX6_not2_84 ?_
  refine lv_if_ne (tgt := 92) (pc := 85) hx hb dX6_not2_85 (by decide) (fun c9 => ?_) (fun c9 => ?_)
  · have hf := hf.1 c9
    refine lv_iconst (v := 0) (pc := 92) hx hb dX6_not2_92 rfl ?_
    exact bX6_not2_93 hF E hr hlk hf hI (lv_sub hl [0, 1] rfl)
  · have hf := hf.2 c9
    refine lv_iconst (v := 1) (pc := 88) hx hb dX6_not2_88 rfl ?_
    refine lv_goto (tgt := 93) (pc := 89) hx hb dX6_not2_89 (by decide) ?_
    exact bX6_not2_93 hF E hr hlk hf hI (lv_sub hl [0, 1] rfl)
def wX6_not2 (σ : St) (Q : Int32 → St → Prop) : Prop := wX6_isWord 110 111 116 0 0 0 0 0 σ (fun r2 σ1 => ((r2 = 0 → wX6_added2 σ1 (fun r5 σ4 => wX6_isSign 60 σ4 (fun r7 σ6 => ((¬ r7 = 0 → (wX6_not2_j77 r5 σ6 Q)) ∧ (r7 = 0 → wX6_isSign 61 σ6 (fun r17 σ16 => ((¬ r17 = 0 → (wX6_not2_j77 r5 σ16 Q)) ∧ (r17 = 0 → Q r5 σ16)))))))) ∧ (¬ r2 = 0 → wX6_opens σ1 (fun r20 σ19 => ((¬ r20 = 0 → wX6_not3 σ19 (fun r23 σ22 => ∀ σ24 : St, σ24 = sI σ22 16 26 ((gI σ22 16 26) - 1) → ((¬ r23 = 0 → Q 0 σ24) ∧ (r23 = 0 → Q 1 σ24)))) ∧ (r20 = 0 → Q 0 σ19))))))
set_option maxRecDepth 100000 in
set_option maxHeartbeats 4000000 in
theorem bX6_not2 {p : Program} {l : Launch} {e : Env} {s : State} {m : MethodId} {args : Array Value} {below : List Frame} {meth : Method} {c : Code} {H : Heap} {locs : List Loc} {ls : Array Slot} {D : va_G} {F : (Nat → Prop) → State → Prop} {A : Nat → Prop} {σ : St} {ad : Nat → Nat → Nat} {cy : Nat → ClassId} {Rr : va_W} {Q : Int32 → St → Prop} (hF : Stab F) (E : CallFix p m c cX6_not2 4 s args TB RX6) (hr : meth.sig.returnType = some .int) (hlk : meth.locks = false) (hf : wX6_not2 σ Q) (hI : In (D, tysM cy, F) (LM ad cy Rr σ) A s H locs) (hl : lv_has ls 4 [(0, .ref (ad 16 99))]) : W p l e (rmD 25) s m args below meth c H locs 0 0 (PI below args s (D, tysM cy, F) A (LM ad cy Rr) Q) (F0 m 0 ls []) := by
  have hx := E.1
  have hb := E.2.1
  unfold wX6_not2 at hf
  refine lv_aload_n (pc := 0) hx hb dX6_not2_0 rfl (lv_at hl 0 rfl) ?_
  refine lv_bipush (v := 110) (pc := 1) hx hb dX6_not2_1 rfl ?_
  refine lv_bipush (v := 111) (pc := 3) hx hb dX6_not2_3 rfl ?_
  refine lv_bipush (v := 116) (pc := 5) hx hb dX6_not2_5 rfl ?_
  refine lv_iconst (v := 0) (pc := 7) hx hb dX6_not2_7 rfl ?_
  refine lv_iconst (v := 0) (pc := 8) hx hb dX6_not2_8 rfl ?_
  refine lv_iconst (v := 0) (pc := 9) hx hb dX6_not2_9 rfl ?_
  refine lv_iconst (v := 0) (pc := 10) hx hb dX6_not2_10 rfl ?_
  refine lv_iconst (v := 0) (pc := 11) hx hb dX6_not2_11 rfl ?_
  refine callVI (G := (D, tysM cy, F)) (L := LM ad cy Rr) (pc := 12) (As := [.int 110, .int 111, .int 116, .int 0, .int 0, .int 0, .int 0, .int 0]) (rest := []) hF E cs0 hl hI (tX6_isWord hF hf) mwX6_200 (fitD (by decide)) (at6) rfl rfl rfl rfl (Nat.le_of_ble_eq_true rfl) dX6_not2_12 (fun r2 σ1 H locs hf hI => ?_)
  refine lv_if_eq (tgt := 52) (pc := 15) hx hb dX6_not2_15 (by decide) (fun c3 => ?_) (fun c3 => ?_)
  · have hf := hf.1 c3
    refine lv_aload_n (pc := 52) hx hb dX6_not2_52 rfl (lv_at hl 0 rfl) ?_
    refine callVI (G := (D, tysM cy, F)) (L := LM ad cy Rr) (pc := 53) (As := []) (rest := []) hF E cs0 hl hI (tX6_added2 hF hf) mwX6_297 (fitD (by decide)) (at6) rfl rfl rfl rfl (Nat.le_of_ble_eq_true rfl) dX6_not2_53 (fun r5 σ4 H locs hf hI => ?_)
    refine lv_istore_n (lv' := [(1, .int r5), (0, .ref (ad 16 99))]) (pc := 56) hx hb dX6_not2_56 rfl hl (by decide) rfl (fun ls hl => ?_)
    refine lv_aload_n (pc := 57) hx hb dX6_not2_57 rfl (lv_at hl 1 rfl) ?_
    refine lv_bipush (v := 60) (pc := 58) hx hb dX6_not2_58 rfl ?_
    refine callVI (G := (D, tysM cy, F)) (L := LM ad cy Rr) (pc := 60) (As := [.int 60]) (rest := []) hF E cs0 hl hI (tX6_isSign hF hf) mwX6_222 (fitD (by decide)) (at6) rfl rfl rfl rfl (Nat.le_of_ble_eq_true rfl) dX6_not2_60 (fun r7 σ6 H locs hf hI => ?_)
    refine lv_if_ne (tgt := 77) (pc := 63) hx hb dX6_not2_63 (by decide) (fun c8 => ?_) (fun c8 => ?_)
    · have hf := hf.1 c8
      exact bX6_not2_77 hF E hr hlk hf hI (lv_sub hl [1, 0] rfl)
    · have hf := hf.2 c8
      refine lv_aload_n (pc := 66) hx hb dX6_not2_66 rfl (lv_at hl 1 rfl) ?_
      refine lv_bipush (v := 61) (pc := 67) hx hb dX6_not2_67 rfl ?_
      refine callVI (G := (D, tysM cy, F)) (L := LM ad cy Rr) (pc := 69) (As := [.int 61]) (rest := []) hF E cs0 hl hI (tX6_isSign hF hf) mwX6_222 (fitD (by decide)) (at6) rfl rfl rfl rfl (Nat.le_of_ble_eq_true rfl) dX6_not2_69 (fun r17 σ16 H locs hf hI => ?_)
      refine lv_if_ne (tgt := 77) (pc := 72) hx hb dX6_not2_72 (by decide) (fun c18 => ?_) (fun c18 => ?_)
      · have hf := hf.1 c18
        exact bX6_not2_77 hF E hr hlk hf hI (lv_sub hl [1, 0] rfl)
      · have hf := hf.2 c18
        refine lv_iload_n (pc := 75) hx hb dX6_not2_75 rfl (lv_at hl 0 rfl) ?_
        exact rI (pc := 76) E hr hlk hI hf dX6_not2_76
  · have hf := hf.2 c3
    refine lv_aload_n (pc := 18) hx hb dX6_not2_18 rfl (lv_at hl 0 rfl) ?_
    refine callVI (G := (D, tysM cy, F)) (L := LM ad cy Rr) (pc := 19) (As := []) (rest := []) hF E cs0 hl hI (tX6_opens hF hf) mwX6_225 (fitD (by decide)) (at6) rfl rfl rfl rfl (Nat.le_of_ble_eq_true rfl) dX6_not2_19 (fun r20 σ19 H locs hf hI => ?_)
    refine lv_if_ne (tgt := 27) (pc := 22) hx hb dX6_not2_22 (by decide) (fun c21 => ?_) (fun c21 => ?_)
    · have hf := hf.1 c21
      refine lv_aload_n (pc := 27) hx hb dX6_not2_27 rfl (lv_at hl 0 rfl) ?_
      refine callVI (G := (D, tysM cy, F)) (L := LM ad cy Rr) (pc := 28) (As := []) (rest := []) hF E cs0 hl hI (tX6_not3 hF hf) mwX6_282 (fitD (by decide)) (at6) rfl rfl rfl rfl (Nat.le_of_ble_eq_true rfl) dX6_not2_28 (fun r23 σ22 H locs hf hI => ?_)
      refine lv_istore_n (lv' := [(1, .int r23), (0, .ref (ad 16 99))]) (pc := 31) hx hb dX6_not2_31 rfl hl (by decide) rfl (fun ls hl => ?_)
      refine lv_aload_n (pc := 32) hx hb dX6_not2_32 rfl (lv_at hl 1 rfl) ?_
      refine lv_dup (pc := 33) hx hb dX6_not2_33 rfl ?_
      refine g6_26 (pc := 34) E hI lkX6_191 dX6_not2_34 ?_
      refine lv_iconst (v := 1) (pc := 37) hx hb dX6_not2_37 rfl ?_
      refine lv_isub (pc := 38) hx hb dX6_not2_38 ?_
      refine p6_26 (pc := 39) E hI lkX6_191 dX6_not2_39 (fun H locs σ24 eσ24 hI => ?_)
      have hf := hf σ24 eσ24
      refine lv_iload_n (pc := 42) hx hb dX6_not2_42 rfl (lv_at hl 0 rfl) ?_
      refine lv_if_ne (tgt := 50) (pc := 43) hx hb dX6_not2_43 (by decide) (fun c25 => ?_) (fun c25 => ?_)
      · have hf := hf.1 c25
        refine lv_iconst (v := 0) (pc := 50) hx hb dX6_not2_50 rfl ?_
        exact rI (pc := 51) E hr hlk hI hf dX6_not2_51
      · have hf := hf.2 c25
        refine lv_iconst (v := 1) (pc := 46) hx hb dX6_not2_46 rfl ?_
        refine lv_goto (tgt := 51) (pc := 47) hx hb dX6_not2_47 (by decide) ?_
        exact rI (pc := 51) E hr hlk hI hf dX6_not2_51
    · have hf := hf.2 c21
      refine lv_iconst (v := 0) (pc := 25) hx hb dX6_not2_25 rfl ?_
      exact rI (pc := 26) E hr hlk hI hf dX6_not2_26
theorem tX6_not2 {l : Launch} {D : va_G} {F : (Nat → Prop) → State → Prop} {σ : St} {ad : Nat → Nat → Nat} {cy : Nat → ClassId} {Rr : va_W} {Q : Int32 → St → Prop} (hF : Stab F) (hf : wX6_not2 σ Q) : CtI l yX6_not2 cX6_not2 4 .int 25 (D, tysM cy, F) (LM ad cy Rr) [.ref (ad 16 99)] σ Q := mkI (by decide) (Nat.le_of_ble_eq_true rfl) (fun p e s m below meth c A E hr hlk hI ls hl => bX6_not2 hF E hr hlk hf hI hl)

def wX6_both2_j45 (s0 : Int32) (σ : St) (K : Int32 → St → Prop) (Q : Int32 → St → Prop) : Prop := (K s0 σ)
set_option maxRecDepth 100000 in
set_option maxHeartbeats 4000000 in
theorem bX6_both2_45 {p : Program} {l : Launch} {e : Env} {s : State} {m : MethodId} {args : Array Value} {below : List Frame} {meth : Method} {c : Code} {H : Heap} {locs : List Loc} {ls : Array Slot} {D : va_G} {F : (Nat → Prop) → State → Prop} {A : Nat → Prop} {σ : St} {ad : Nat → Nat → Nat} {cy : Nat → ClassId} {Rr : va_W} {Q : Int32 → St → Prop} {s0 : Int32} {K : Int32 → St → Prop} (hF : Stab F) (E : CallFix p m c cX6_both2 3 s args TB RX6) (hr : meth.sig.returnType = some .int) (hlk : meth.locks = false) (hK : ∀ (a1 : Int32) (σ : St) (H : Heap) (locs : List Loc) (ls : Array Slot), K a1 σ → In (D, tysM cy, F) (LM ad cy Rr σ) A s H locs → lv_has ls 3 [(0, .ref (ad 16 99)), (1, .int a1)] → W p l e (rmD 26) s m args below meth c H locs 0 0 (PI below args s (D, tysM cy, F) A (LM ad cy Rr) Q) (F0 m 5 ls [])) (hf : wX6_both2_j45 s0 σ K Q) (hI : In (D, tysM cy, F) (LM ad cy Rr σ) A s H locs) (hl : lv_has ls 3 [(0, .ref (ad 16 99))]) : W p l e (rmD 26) s m args below meth c H locs 0 0 (PI below args s (D, tysM cy, F) A (LM ad cy Rr) Q) (F0 m 45 ls [.int s0]) := by
  have hx := E.1
  have hb := E.2.1
  unfold wX6_both2_j45 at hf
  refine lv_istore_n (lv' := [(1, .int s0), (0, .ref (ad 16 99))]) (pc := 45) hx hb dX6_both2_45 rfl hl (by decide) rfl (fun ls hl => ?_)
  refine lv_goto (tgt := 5) (pc := 46) hx hb dX6_both2_46 (by decide) ?_
  exact hK _ _ _ _ _ hf hI (lv_sub hl [1, 0] rfl)
def wX6_both2_j44 (σ : St) (K : Int32 → St → Prop) (Q : Int32 → St → Prop) : Prop := (wX6_both2_j45 0 σ K Q)
set_option maxRecDepth 100000 in
set_option maxHeartbeats 4000000 in
theorem bX6_both2_44 {p : Program} {l : Launch} {e : Env} {s : State} {m : MethodId} {args : Array Value} {below : List Frame} {meth : Method} {c : Code} {H : Heap} {locs : List Loc} {ls : Array Slot} {D : va_G} {F : (Nat → Prop) → State → Prop} {A : Nat → Prop} {σ : St} {ad : Nat → Nat → Nat} {cy : Nat → ClassId} {Rr : va_W} {Q : Int32 → St → Prop} {K : Int32 → St → Prop} (hF : Stab F) (E : CallFix p m c cX6_both2 3 s args TB RX6) (hr : meth.sig.returnType = some .int) (hlk : meth.locks = false) (hK : ∀ (a1 : Int32) (σ : St) (H : Heap) (locs : List Loc) (ls : Array Slot), K a1 σ → In (D, tysM cy, F) (LM ad cy Rr σ) A s H locs → lv_has ls 3 [(0, .ref (ad 16 99)), (1, .int a1)] → W p l e (rmD 26) s m args below meth c H locs 0 0 (PI below args s (D, tysM cy, F) A (LM ad cy Rr) Q) (F0 m 5 ls [])) (hf : wX6_both2_j44 σ K Q) (hI : In (D, tysM cy, F) (LM ad cy Rr σ) A s H locs) (hl : lv_has ls 3 [(0, .ref (ad 16 99))]) : W p l e (rmD 26) s m args below meth c H locs 0 0 (PI below args s (D, tysM cy, F) A (LM ad cy Rr) Q) (F0 m 44 ls []) := by
  have hx := E.1
  have hb := E.2.1
  unfold wX6_both2_j44 at hf
  refine lv_iconst (v := 0) (pc := 44) hx hb dX6_both2_44 rfl ?_
  exact bX6_both2_45 hF E hr hlk hK hf hI (lv_sub hl [0] rfl)
def wX6_both2_l5s (ih : Int32 → St → Prop) (a1 : Int32) (σ : St) (Q : Int32 → St → Prop) : Prop := wX6_isWord 97 110 100 0 0 0 0 0 σ (fun r4 σ3 => ((r4 = 0 → Q a1 σ3) ∧ (¬ r4 = 0 → wX6_next σ3 (fun σ6 => wX6_not2 σ6 (fun r8 σ7 => ((a1 = 0 → (wX6_both2_j44 σ7 ih Q)) ∧ (¬ a1 = 0 → ((r8 = 0 → (wX6_both2_j44 σ7 ih Q)) ∧ (¬ r8 = 0 → (wX6_both2_j45 1 σ7 ih Q))))))))))
def wX6_both2_l5 (n : Nat) : Int32 → St → (Int32 → St → Prop) → Prop := @Nat.rec (fun _ => Int32 → St → (Int32 → St → Prop) → Prop) (fun _ _ _ => False) (fun _ ih a1 σ Q => wX6_both2_l5s (fun a1 σ => ih a1 σ Q) a1 σ Q) n
set_option maxRecDepth 100000 in
set_option maxHeartbeats 4000000 in
theorem bX6_both2_5 {p : Program} {l : Launch} {e : Env} {s : State} {m : MethodId} {args : Array Value} {below : List Frame} {meth : Method} {c : Code} {D : va_G} {F : (Nat → Prop) → State → Prop} {A : Nat → Prop} {ad : Nat → Nat → Nat} {cy : Nat → ClassId} {Rr : va_W} {Q : Int32 → St → Prop} (hF : Stab F) (E : CallFix p m c cX6_both2 3 s args TB RX6) (hr : meth.sig.returnType = some .int) (hlk : meth.locks = false) : ∀ (n : Nat) {a1 : Int32} {σ : St} {H : Heap} {locs : List Loc} {ls : Array Slot}, wX6_both2_l5 n a1 σ Q → In (D, tysM cy, F) (LM ad cy Rr σ) A s H locs → lv_has ls 3 [(0, .ref (ad 16 99)), (1, .int a1)] → W p l e (rmD 26) s m args below meth c H locs 0 0 (PI below args s (D, tysM cy, F) A (LM ad cy Rr) Q) (F0 m 5 ls []) := by
  have hx := E.1
  have hb := E.2.1
  intro n
  induction n with
  | zero => intro a1 σ H locs ls hf hI hl; exact False.elim hf
  | succ n ih =>
    intro a1 σ H locs ls hf hI hl
    have hf : wX6_both2_l5s (fun a1 σ => wX6_both2_l5 n a1 σ Q) a1 σ Q := hf
    unfold wX6_both2_l5s at hf
    refine lv_aload_n (pc := 5) hx hb dX6_both2_5 rfl (lv_at hl 0 rfl) ?_
    refine lv_bipush (v := 97) (pc := 6) hx hb dX6_both2_6 rfl ?_
    refine lv_bipush (v := 110) (pc := 8) hx hb dX6_both2_8 rfl ?_
    refine lv_bipush (v := 100) (pc := 10) hx hb dX6_both2_10 rfl ?_
    refine lv_iconst (v := 0) (pc := 12) hx hb dX6_both2_12 rfl ?_
    refine lv_iconst (v := 0) (pc := 13) hx hb dX6_both2_13 rfl ?_
    refine lv_iconst (v := 0) (pc := 14) hx hb dX6_both2_14 rfl ?_
    refine lv_iconst (v := 0) (pc := 15) hx hb dX6_both2_15 rfl ?_
    refine lv_iconst (v := 0) (pc := 16) hx hb dX6_both2_16 rfl ?_
    refine callVI (G := (D, tysM cy, F)) (L := LM ad cy Rr) (pc := 17) (As := [.int 97, .int 110, .int 100, .int 0, .int 0, .int 0, .int 0, .int 0]) (rest := []) hF E cs0 hl hI (tX6_isWord hF hf) mwX6_200 (fitD (by decide)) (at6) rfl rfl rfl rfl (Nat.le_of_ble_eq_true rfl) dX6_both2_17 (fun r4 σ3 H locs hf hI => ?_)
    refine lv_if_eq (tgt := 49) (pc := 20) hx hb dX6_both2_20 (by decide) (fun c5 => ?_) (fun c5 => ?_)
    · have hf := hf.1 c5
      refine lv_iload_n (pc := 49) hx hb dX6_both2_49 rfl (lv_at hl 1 rfl) ?_
      exact rI (pc := 50) E hr hlk hI hf dX6_both2_50
    · have hf := hf.2 c5
      refine lv_aload_n (pc := 23) hx hb dX6_both2_23 rfl (lv_at hl 0 rfl) ?_
      refine callVV (G := (D, tysM cy, F)) (L := LM ad cy Rr) (pc := 24) (As := []) (rest := []) hF E cs0 hl hI (tX6_next hF hf) mwX6_197 (fitD (by decide)) (at6) rfl rfl rfl rfl (Nat.le_of_ble_eq_true rfl) dX6_both2_24 (fun σ6 H locs hf hI => ?_)
      refine lv_aload_n (pc := 27) hx hb dX6_both2_27 rfl (lv_at hl 0 rfl) ?_
      refine callVI (G := (D, tysM cy, F)) (L := LM ad cy Rr) (pc := 28) (As := []) (rest := []) hF E cs0 hl hI (tX6_not2 hF hf) mwX6_300 (fitD (by decide)) (at6) rfl rfl rfl rfl (Nat.le_of_ble_eq_true rfl) dX6_both2_28 (fun r8 σ7 H locs hf hI => ?_)
      refine lv_istore_n (lv' := [(2, .int r8), (0, .ref (ad 16 99)), (1, .int a1)]) (pc := 31) hx hb dX6_both2_31 rfl hl (by decide) rfl (fun ls hl => ?_)
      refine lv_iload_n (pc := 32) hx hb dX6_both2_32 rfl (lv_at hl 2 rfl) ?_
      refine lv_if_eq (tgt := 44) (pc := 33) hx hb dX6_both2_33 (by decide) (fun c9 => ?_) (fun c9 => ?_)
      · have hf := hf.1 c9
        exact bX6_both2_44 hF E hr hlk (fun _ _ _ _ _ hf hI hl => ih hf hI hl) hf hI (lv_sub hl [1] rfl)
      · have hf := hf.2 c9
        refine lv_iload_n (pc := 36) hx hb dX6_both2_36 rfl (lv_at hl 0 rfl) ?_
        refine lv_if_eq (tgt := 44) (pc := 37) hx hb dX6_both2_37 (by decide) (fun c10 => ?_) (fun c10 => ?_)
        · have hf := hf.1 c10
          exact bX6_both2_44 hF E hr hlk (fun _ _ _ _ _ hf hI hl => ih hf hI hl) hf hI (lv_sub hl [1] rfl)
        · have hf := hf.2 c10
          refine lv_iconst (v := 1) (pc := 40) hx hb dX6_both2_40 rfl ?_
          refine lv_goto (tgt := 45) (pc := 41) hx hb dX6_both2_41 (by decide) ?_
          exact bX6_both2_45 hF E hr hlk (fun _ _ _ _ _ hf hI hl => ih hf hI hl) hf hI (lv_sub hl [1] rfl)
def wX6_both2 (σ : St) (Q : Int32 → St → Prop) : Prop := wX6_not2 σ (fun r2 σ1 => ∃ n11 : Nat, wX6_both2_l5 n11 r2 σ1 Q)
set_option maxRecDepth 100000 in
set_option maxHeartbeats 4000000 in
theorem bX6_both2 {p : Program} {l : Launch} {e : Env} {s : State} {m : MethodId} {args : Array Value} {below : List Frame} {meth : Method} {c : Code} {H : Heap} {locs : List Loc} {ls : Array Slot} {D : va_G} {F : (Nat → Prop) → State → Prop} {A : Nat → Prop} {σ : St} {ad : Nat → Nat → Nat} {cy : Nat → ClassId} {Rr : va_W} {Q : Int32 → St → Prop} (hF : Stab F) (E : CallFix p m c cX6_both2 3 s args TB RX6) (hr : meth.sig.returnType = some .int) (hlk : meth.locks = false) (hf : wX6_both2 σ Q) (hI : In (D, tysM cy, F) (LM ad cy Rr σ) A s H locs) (hl : lv_has ls 3 [(0, .ref (ad 16 99))]) : W p l e (rmD 26) s m args below meth c H locs 0 0 (PI below args s (D, tysM cy, F) A (LM ad cy Rr) Q) (F0 m 0 ls []) := by
  have hx := E.1
  have hb := E.2.1
  unfold wX6_both2 at hf
  refine lv_aload_n (pc := 0) hx hb dX6_both2_0 rfl (lv_at hl 0 rfl) ?_
  refine callVI (G := (D, tysM cy, F)) (L := LM ad cy Rr) (pc := 1) (As := []) (rest := []) hF E cs0 hl hI (tX6_not2 hF hf) mwX6_300 (fitD (by decide)) (at6) rfl rfl rfl rfl (Nat.le_of_ble_eq_true rfl) dX6_both2_1 (fun r2 σ1 H locs hf hI => ?_)
  refine lv_istore_n (lv' := [(1, .int r2), (0, .ref (ad 16 99))]) (pc := 4) hx hb dX6_both2_4 rfl hl (by decide) rfl (fun ls hl => ?_)
  obtain ⟨n11, hf⟩ := hf
  exact bX6_both2_5 hF E hr hlk n11 hf hI (lv_sub hl [1, 0] rfl)
theorem tX6_both2 {l : Launch} {D : va_G} {F : (Nat → Prop) → State → Prop} {σ : St} {ad : Nat → Nat → Nat} {cy : Nat → ClassId} {Rr : va_W} {Q : Int32 → St → Prop} (hF : Stab F) (hf : wX6_both2 σ Q) : CtI l yX6_both2 cX6_both2 3 .int 26 (D, tysM cy, F) (LM ad cy Rr) [.ref (ad 16 99)] σ Q := mkI (by decide) (Nat.le_of_ble_eq_true rfl) (fun p e s m below meth c A E hr hlk hI ls hl => bX6_both2 hF E hr hlk hf hI hl)

def wX6_either2_j44 (s0 : Int32) (σ : St) (K : Int32 → St → Prop) (Q : Int32 → St → Prop) : Prop := (K s0 σ)
set_option maxRecDepth 100000 in
set_option maxHeartbeats 4000000 in
theorem bX6_either2_44 {p : Program} {l : Launch} {e : Env} {s : State} {m : MethodId} {args : Array Value} {below : List Frame} {meth : Method} {c : Code} {H : Heap} {locs : List Loc} {ls : Array Slot} {D : va_G} {F : (Nat → Prop) → State → Prop} {A : Nat → Prop} {σ : St} {ad : Nat → Nat → Nat} {cy : Nat → ClassId} {Rr : va_W} {Q : Int32 → St → Prop} {s0 : Int32} {K : Int32 → St → Prop} (hF : Stab F) (E : CallFix p m c cX6_either2 3 s args TB RX6) (hr : meth.sig.returnType = some .int) (hlk : meth.locks = false) (hK : ∀ (a1 : Int32) (σ : St) (H : Heap) (locs : List Loc) (ls : Array Slot), K a1 σ → In (D, tysM cy, F) (LM ad cy Rr σ) A s H locs → lv_has ls 3 [(0, .ref (ad 16 99)), (1, .int a1)] → W p l e (rmD 27) s m args below meth c H locs 0 0 (PI below args s (D, tysM cy, F) A (LM ad cy Rr) Q) (F0 m 5 ls [])) (hf : wX6_either2_j44 s0 σ K Q) (hI : In (D, tysM cy, F) (LM ad cy Rr σ) A s H locs) (hl : lv_has ls 3 [(0, .ref (ad 16 99))]) : W p l e (rmD 27) s m args below meth c H locs 0 0 (PI below args s (D, tysM cy, F) A (LM ad cy Rr) Q) (F0 m 44 ls [.int s0]) := by
  have hx := E.1
  have hb := E.2.1
  unfold wX6_either2_j44 at hf
  refine lv_istore_n (lv' := [(1, .int s0), (0, .ref (ad 16 99))]) (pc := 44) hx hb dX6_either2_44 rfl hl (by decide) rfl (fun ls hl => ?_)
  refine lv_goto (tgt := 5) (pc := 45) hx hb dX6_either2_45 (by decide) ?_
  exact hK _ _ _ _ _ hf hI (lv_sub hl [1, 0] rfl)
def wX6_either2_j39 (σ : St) (K : Int32 → St → Prop) (Q : Int32 → St → Prop) : Prop := (wX6_either2_j44 1 σ K Q)
set_option maxRecDepth 100000 in
set_option maxHeartbeats 4000000 in
theorem bX6_either2_39 {p : Program} {l : Launch} {e : Env} {s : State} {m : MethodId} {args : Array Value} {below : List Frame} {meth : Method} {c : Code} {H : Heap} {locs : List Loc} {ls : Array Slot} {D : va_G} {F : (Nat → Prop) → State → Prop} {A : Nat → Prop} {σ : St} {ad : Nat → Nat → Nat} {cy : Nat → ClassId} {Rr : va_W} {Q : Int32 → St → Prop} {K : Int32 → St → Prop} (hF : Stab F) (E : CallFix p m c cX6_either2 3 s args TB RX6) (hr : meth.sig.returnType = some .int) (hlk : meth.locks = false) (hK : ∀ (a1 : Int32) (σ : St) (H : Heap) (locs : List Loc) (ls : Array Slot), K a1 σ → In (D, tysM cy, F) (LM ad cy Rr σ) A s H locs → lv_has ls 3 [(0, .ref (ad 16 99)), (1, .int a1)] → W p l e (rmD 27) s m args below meth c H locs 0 0 (PI below args s (D, tysM cy, F) A (LM ad cy Rr) Q) (F0 m 5 ls [])) (hf : wX6_either2_j39 σ K Q) (hI : In (D, tysM cy, F) (LM ad cy Rr σ) A s H locs) (hl : lv_has ls 3 [(0, .ref (ad 16 99))]) : W p l e (rmD 27) s m args below meth c H locs 0 0 (PI below args s (D, tysM cy, F) A (LM ad cy Rr) Q) (F0 m 39 ls []) := by
  have hx := E.1
  have hb := E.2.1
  unfold wX6_either2_j39 at hf
  refine lv_iconst (v := 1) (pc := 39) hx hb dX6_either2_39 rfl ?_
  refine lv_goto (tgt := 44) (pc := 40) hx hb dX6_either2_40 (by decide) ?_
  exact bX6_either2_44 hF E hr hlk hK hf hI (lv_sub hl [0] rfl)
def wX6_either2_l5s (ih : Int32 → St → Prop) (a1 : Int32) (σ : St) (Q : Int32 → St → Prop) : Prop := wX6_isWord 111 114 0 0 0 0 0 0 σ (fun r4 σ3 => ((r4 = 0 → Q a1 σ3) ∧ (¬ r4 = 0 → wX6_next σ3 (fun σ6 => wX6_both2 σ6 (fun r8 σ7 => ((¬ a1 = 0 → (wX6_either2_j39 σ7 ih Q)) ∧ (a1 = 0 → ((r8 = 0 → (wX6_either2_j44 0 σ7 ih Q)) ∧ (¬ r8 = 0 → (wX6_either2_j39 σ7 ih Q))))))))))
def wX6_either2_l5 (n : Nat) : Int32 → St → (Int32 → St → Prop) → Prop := @Nat.rec (fun _ => Int32 → St → (Int32 → St → Prop) → Prop) (fun _ _ _ => False) (fun _ ih a1 σ Q => wX6_either2_l5s (fun a1 σ => ih a1 σ Q) a1 σ Q) n
set_option maxRecDepth 100000 in
set_option maxHeartbeats 4000000 in
theorem bX6_either2_5 {p : Program} {l : Launch} {e : Env} {s : State} {m : MethodId} {args : Array Value} {below : List Frame} {meth : Method} {c : Code} {D : va_G} {F : (Nat → Prop) → State → Prop} {A : Nat → Prop} {ad : Nat → Nat → Nat} {cy : Nat → ClassId} {Rr : va_W} {Q : Int32 → St → Prop} (hF : Stab F) (E : CallFix p m c cX6_either2 3 s args TB RX6) (hr : meth.sig.returnType = some .int) (hlk : meth.locks = false) : ∀ (n : Nat) {a1 : Int32} {σ : St} {H : Heap} {locs : List Loc} {ls : Array Slot}, wX6_either2_l5 n a1 σ Q → In (D, tysM cy, F) (LM ad cy Rr σ) A s H locs → lv_has ls 3 [(0, .ref (ad 16 99)), (1, .int a1)] → W p l e (rmD 27) s m args below meth c H locs 0 0 (PI below args s (D, tysM cy, F) A (LM ad cy Rr) Q) (F0 m 5 ls []) := by
  have hx := E.1
  have hb := E.2.1
  intro n
  induction n with
  | zero => intro a1 σ H locs ls hf hI hl; exact False.elim hf
  | succ n ih =>
    intro a1 σ H locs ls hf hI hl
    have hf : wX6_either2_l5s (fun a1 σ => wX6_either2_l5 n a1 σ Q) a1 σ Q := hf
    unfold wX6_either2_l5s at hf
    refine lv_aload_n (pc := 5) hx hb dX6_either2_5 rfl (lv_at hl 0 rfl) ?_
    refine lv_bipush (v := 111) (pc := 6) hx hb dX6_either2_6 rfl ?_
    refine lv_bipush (v := 114) (pc := 8) hx hb dX6_either2_8 rfl ?_
    refine lv_iconst (v := 0) (pc := 10) hx hb dX6_either2_10 rfl ?_
    refine lv_iconst (v := 0) (pc := 11) hx hb dX6_either2_11 rfl ?_
    refine lv_iconst (v := 0) (pc := 12) hx hb dX6_either2_12 rfl ?_
    refine lv_iconst (v := 0) (pc := 13) hx hb dX6_either2_13 rfl ?_
    refine lv_iconst (v := 0) (pc := 14) hx hb dX6_either2_14 rfl ?_
    refine lv_iconst (v := 0) (pc := 15) hx hb dX6_either2_15 rfl ?_
    refine callVI (G := (D, tysM cy, F)) (L := LM ad cy Rr) (pc := 16) (As := [.int 111, .int 114, .int 0, .int 0, .int 0, .int 0, .int 0, .int 0]) (rest := []) hF E cs0 hl hI (tX6_isWord hF hf) mwX6_200 (fitD (by decide)) (at6) rfl rfl rfl rfl (Nat.le_of_ble_eq_true rfl) dX6_either2_16 (fun r4 σ3 H locs hf hI => ?_)
    refine lv_if_eq (tgt := 48) (pc := 19) hx hb dX6_either2_19 (by decide) (fun c5 => ?_) (fun c5 => ?_)
    · have hf := hf.1 c5
      refine lv_iload_n (pc := 48) hx hb dX6_either2_48 rfl (lv_at hl 1 rfl) ?_
      exact rI (pc := 49) E hr hlk hI hf dX6_either2_49
    · have hf := hf.2 c5
      refine lv_aload_n (pc := 22) hx hb dX6_either2_22 rfl (lv_at hl 0 rfl) ?_
      refine callVV (G := (D, tysM cy, F)) (L := LM ad cy Rr) (pc := 23) (As := []) (rest := []) hF E cs0 hl hI (tX6_next hF hf) mwX6_197 (fitD (by decide)) (at6) rfl rfl rfl rfl (Nat.le_of_ble_eq_true rfl) dX6_either2_23 (fun σ6 H locs hf hI => ?_)
      refine lv_aload_n (pc := 26) hx hb dX6_either2_26 rfl (lv_at hl 0 rfl) ?_
      refine callVI (G := (D, tysM cy, F)) (L := LM ad cy Rr) (pc := 27) (As := []) (rest := []) hF E cs0 hl hI (tX6_both2 hF hf) mwX6_303 (fitD (by decide)) (at6) rfl rfl rfl rfl (Nat.le_of_ble_eq_true rfl) dX6_either2_27 (fun r8 σ7 H locs hf hI => ?_)
      refine lv_istore_n (lv' := [(2, .int r8), (0, .ref (ad 16 99)), (1, .int a1)]) (pc := 30) hx hb dX6_either2_30 rfl hl (by decide) rfl (fun ls hl => ?_)
      refine lv_iload_n (pc := 31) hx hb dX6_either2_31 rfl (lv_at hl 2 rfl) ?_
      refine lv_if_ne (tgt := 39) (pc := 32) hx hb dX6_either2_32 (by decide) (fun c9 => ?_) (fun c9 => ?_)
      · have hf := hf.1 c9
        exact bX6_either2_39 hF E hr hlk (fun _ _ _ _ _ hf hI hl => ih hf hI hl) hf hI (lv_sub hl [1] rfl)
      · have hf := hf.2 c9
        refine lv_iload_n (pc := 35) hx hb dX6_either2_35 rfl (lv_at hl 0 rfl) ?_
        refine lv_if_eq (tgt := 43) (pc := 36) hx hb dX6_either2_36 (by decide) (fun c10 => ?_) (fun c10 => ?_)
        · have hf := hf.1 c10
          refine lv_iconst (v := 0) (pc := 43) hx hb dX6_either2_43 rfl ?_
          exact bX6_either2_44 hF E hr hlk (fun _ _ _ _ _ hf hI hl => ih hf hI hl) hf hI (lv_sub hl [1] rfl)
        · have hf := hf.2 c10
          exact bX6_either2_39 hF E hr hlk (fun _ _ _ _ _ hf hI hl => ih hf hI hl) hf hI (lv_sub hl [1] rfl)
def wX6_either2 (σ : St) (Q : Int32 → St → Prop) : Prop := wX6_both2 σ (fun r2 σ1 => ∃ n11 : Nat, wX6_either2_l5 n11 r2 σ1 Q)
set_option maxRecDepth 100000 in
set_option maxHeartbeats 4000000 in
theorem bX6_either2 {p : Program} {l : Launch} {e : Env} {s : State} {m : MethodId} {args : Array Value} {below : List Frame} {meth : Method} {c : Code} {H : Heap} {locs : List Loc} {ls : Array Slot} {D : va_G} {F : (Nat → Prop) → State → Prop} {A : Nat → Prop} {σ : St} {ad : Nat → Nat → Nat} {cy : Nat → ClassId} {Rr : va_W} {Q : Int32 → St → Prop} (hF : Stab F) (E : CallFix p m c cX6_either2 3 s args TB RX6) (hr : meth.sig.returnType = some .int) (hlk : meth.locks = false) (hf : wX6_either2 σ Q) (hI : In (D, tysM cy, F) (LM ad cy Rr σ) A s H locs) (hl : lv_has ls 3 [(0, .ref (ad 16 99))]) : W p l e (rmD 27) s m args below meth c H locs 0 0 (PI below args s (D, tysM cy, F) A (LM ad cy Rr) Q) (F0 m 0 ls []) := by
  have hx := E.1
  have hb := E.2.1
  unfold wX6_either2 at hf
  refine lv_aload_n (pc := 0) hx hb dX6_either2_0 rfl (lv_at hl 0 rfl) ?_
  refine callVI (G := (D, tysM cy, F)) (L := LM ad cy Rr) (pc := 1) (As := []) (rest := []) hF E cs0 hl hI (tX6_both2 hF hf) mwX6_303 (fitD (by decide)) (at6) rfl rfl rfl rfl (Nat.le_of_ble_eq_true rfl) dX6_either2_1 (fun r2 σ1 H locs hf hI => ?_)
  refine lv_istore_n (lv' := [(1, .int r2), (0, .ref (ad 16 99))]) (pc := 4) hx hb dX6_either2_4 rfl hl (by decide) rfl (fun ls hl => ?_)
  obtain ⟨n11, hf⟩ := hf
  exact bX6_either2_5 hF E hr hlk n11 hf hI (lv_sub hl [1, 0] rfl)
theorem tX6_either2 {l : Launch} {D : va_G} {F : (Nat → Prop) → State → Prop} {σ : St} {ad : Nat → Nat → Nat} {cy : Nat → ClassId} {Rr : va_W} {Q : Int32 → St → Prop} (hF : Stab F) (hf : wX6_either2 σ Q) : CtI l yX6_either2 cX6_either2 3 .int 27 (D, tysM cy, F) (LM ad cy Rr) [.ref (ad 16 99)] σ Q := mkI (by decide) (Nat.le_of_ble_eq_true rfl) (fun p e s m below meth c A E hr hlk hI ls hl => bX6_either2 hF E hr hlk hf hI hl)

def wX6_atom1_j157 (a1 : Int32) (σ : St) (Q : Int32 → St → Prop) : Prop := wX6_fail σ (fun σ9 => Q a1 σ9)
set_option maxRecDepth 100000 in
set_option maxHeartbeats 4000000 in
theorem bX6_atom1_157 {p : Program} {l : Launch} {e : Env} {s : State} {m : MethodId} {args : Array Value} {below : List Frame} {meth : Method} {c : Code} {H : Heap} {locs : List Loc} {ls : Array Slot} {D : va_G} {F : (Nat → Prop) → State → Prop} {A : Nat → Prop} {σ : St} {ad : Nat → Nat → Nat} {cy : Nat → ClassId} {Rr : va_W} {Q : Int32 → St → Prop} {a1 : Int32} (hF : Stab F) (E : CallFix p m c cX6_atom1 2 s args TB RX6) (hr : meth.sig.returnType = some .int) (hlk : meth.locks = false) (hf : wX6_atom1_j157 a1 σ Q) (hI : In (D, tysM cy, F) (LM ad cy Rr σ) A s H locs) (hl : lv_has ls 2 [(0, .ref (ad 16 99)), (1, .int a1)]) : W p l e (rmD 28) s m args below meth c H locs 0 0 (PI below args s (D, tysM cy, F) A (LM ad cy Rr) Q) (F0 m 157 ls []) := by
  have hx := E.1
  have hb := E.2.1
  unfold wX6_atom1_j157 at hf
  refine lv_aload_n (pc := 157) hx hb dX6_atom1_157 rfl (lv_at hl 0 rfl) ?_
  refine callVV (G := (D, tysM cy, F)) (L := LM ad cy Rr) (pc := 158) (As := []) (rest := []) hF E cs0 hl hI (tX6_fail hF hf) mwX6_194 (fitD (by decide)) (at6) rfl rfl rfl rfl (Nat.le_of_ble_eq_true rfl) dX6_atom1_158 (fun σ9 H locs hf hI => ?_)
  refine lv_iload_n (pc := 161) hx hb dX6_atom1_161 rfl (lv_at hl 1 rfl) ?_
  exact rI (pc := 162) E hr hlk hI hf dX6_atom1_162
def wX6_atom1_j123 (a1 : Int32) (σ : St) (Q : Int32 → St → Prop) : Prop := ((¬ (gI σ 16 27) = 0 → (wX6_atom1_j157 a1 σ Q)) ∧ ((gI σ 16 27) = 0 → ((¬ (gI σ 16 23) = 1 → (wX6_atom1_j157 a1 σ Q)) ∧ ((gI σ 16 23) = 1 → wX6_name σ (fun r12 σ11 => ((¬ (gI σ11 16 27) = 0 → Q r12 σ11) ∧ ((gI σ11 16 27) = 0 → wX6_next σ11 (fun σ14 => Q r12 σ14))))))))
set_option maxRecDepth 100000 in
set_option maxHeartbeats 4000000 in
theorem bX6_atom1_123 {p : Program} {l : Launch} {e : Env} {s : State} {m : MethodId} {args : Array Value} {below : List Frame} {meth : Method} {c : Code} {H : Heap} {locs : List Loc} {ls : Array Slot} {D : va_G} {F : (Nat → Prop) → State → Prop} {A : Nat → Prop} {σ : St} {ad : Nat → Nat → Nat} {cy : Nat → ClassId} {Rr : va_W} {Q : Int32 → St → Prop} {a1 : Int32} (hF : Stab F) (E : CallFix p m c cX6_atom1 2 s args TB RX6) (hr : meth.sig.returnType = some .int) (hlk : meth.locks = false) (hf : wX6_atom1_j123 a1 σ Q) (hI : In (D, tysM cy, F) (LM ad cy Rr σ) A s H locs) (hl : lv_has ls 2 [(0, .ref (ad 16 99)), (1, .int a1)]) : W p l e (rmD 28) s m args below meth c H locs 0 0 (PI below args s (D, tysM cy, F) A (LM ad cy Rr) Q) (F0 m 123 ls []) := by
  have hx := E.1
  have hb := E.2.1
  unfold wX6_atom1_j123 at hf
  refine lv_aload_n (pc := 123) hx hb dX6_atom1_123 rfl (lv_at hl 0 rfl) ?_
  refine g6_27 (pc := 124) E hI lkX6_181 dX6_atom1_124 ?_
  refine lv_if_ne (tgt := 157) (pc := 127) hx hb dX6_atom1_127 (by decide) (fun c8 => ?_) (fun c8 => ?_)
  · have hf := hf.1 c8
    exact bX6_atom1_157 hF E hr hlk hf hI (lv_sub hl [0, 1] rfl)
  · have hf := hf.2 c8
    refine lv_aload_n (pc := 130) hx hb dX6_atom1_130 rfl (lv_at hl 0 rfl) ?_
    refine g6_23 (pc := 131) E hI lkX6_165 dX6_atom1_131 ?_
    refine lv_iconst (v := 1) (pc := 134) hx hb dX6_atom1_134 rfl ?_
    refine lv_icmp_ne (tgt := 157) (pc := 135) hx hb dX6_atom1_135 (by decide) (fun c10 => ?_) (fun c10 => ?_)
    · have hf := hf.1 c10
      exact bX6_atom1_157 hF E hr hlk hf hI (lv_sub hl [0, 1] rfl)
    · have hf := hf.2 c10
      refine lv_aload_n (pc := 138) hx hb dX6_atom1_138 rfl (lv_at hl 0 rfl) ?_
      refine callVI (G := (D, tysM cy, F)) (L := LM ad cy Rr) (pc := 139) (As := []) (rest := []) hF E cs0 hl hI (tX6_name hF hf) mwX6_229 (fitD (by decide)) (at6) rfl rfl rfl rfl (Nat.le_of_ble_eq_true rfl) dX6_atom1_139 (fun r12 σ11 H locs hf hI => ?_)
      refine lv_istore_n (lv' := [(1, .int r12), (0, .ref (ad 16 99))]) (pc := 142) hx hb dX6_atom1_142 rfl hl (by decide) rfl (fun ls hl => ?_)
      refine lv_aload_n (pc := 143) hx hb dX6_atom1_143 rfl (lv_at hl 1 rfl) ?_
      refine g6_27 (pc := 144) E hI lkX6_181 dX6_atom1_144 ?_
      refine lv_if_ne (tgt := 161) (pc := 147) hx hb dX6_atom1_147 (by decide) (fun c13 => ?_) (fun c13 => ?_)
      · have hf := hf.1 c13
        refine lv_iload_n (pc := 161) hx hb dX6_atom1_161 rfl (lv_at hl 0 rfl) ?_
        exact rI (pc := 162) E hr hlk hI hf dX6_atom1_162
      · have hf := hf.2 c13
        refine lv_aload_n (pc := 150) hx hb dX6_atom1_150 rfl (lv_at hl 1 rfl) ?_
        refine callVV (G := (D, tysM cy, F)) (L := LM ad cy Rr) (pc := 151) (As := []) (rest := []) hF E cs0 hl hI (tX6_next hF hf) mwX6_197 (fitD (by decide)) (at6) rfl rfl rfl rfl (Nat.le_of_ble_eq_true rfl) dX6_atom1_151 (fun σ14 H locs hf hI => ?_)
        refine lv_goto (tgt := 161) (pc := 154) hx hb dX6_atom1_154 (by decide) ?_
        refine lv_iload_n (pc := 161) hx hb dX6_atom1_161 rfl (lv_at hl 0 rfl) ?_
        exact rI (pc := 162) E hr hlk hI hf dX6_atom1_162
def wX6_atom1_j71 (a1 : Int32) (σ : St) (Q : Int32 → St → Prop) : Prop := ∀ σ26 : St, σ26 = sI σ 16 26 ((gI σ 16 26) - 1) → ((¬ (gI σ26 16 27) = 0 → Q a1 σ26) ∧ ((gI σ26 16 27) = 0 → wX6_next σ26 (fun σ28 => Q a1 σ28)))
set_option maxRecDepth 100000 in
set_option maxHeartbeats 4000000 in
theorem bX6_atom1_71 {p : Program} {l : Launch} {e : Env} {s : State} {m : MethodId} {args : Array Value} {below : List Frame} {meth : Method} {c : Code} {H : Heap} {locs : List Loc} {ls : Array Slot} {D : va_G} {F : (Nat → Prop) → State → Prop} {A : Nat → Prop} {σ : St} {ad : Nat → Nat → Nat} {cy : Nat → ClassId} {Rr : va_W} {Q : Int32 → St → Prop} {a1 : Int32} (hF : Stab F) (E : CallFix p m c cX6_atom1 2 s args TB RX6) (hr : meth.sig.returnType = some .int) (hlk : meth.locks = false) (hf : wX6_atom1_j71 a1 σ Q) (hI : In (D, tysM cy, F) (LM ad cy Rr σ) A s H locs) (hl : lv_has ls 2 [(0, .ref (ad 16 99)), (1, .int a1)]) : W p l e (rmD 28) s m args below meth c H locs 0 0 (PI below args s (D, tysM cy, F) A (LM ad cy Rr) Q) (F0 m 71 ls []) := by
  have hx := E.1
  have hb := E.2.1
  unfold wX6_atom1_j71 at hf
  refine lv_aload_n (pc := 71) hx hb dX6_atom1_71 rfl (lv_at hl 0 rfl) ?_
  refine lv_dup (pc := 72) hx hb dX6_atom1_72 rfl ?_
  refine g6_26 (pc := 73) E hI lkX6_191 dX6_atom1_73 ?_
  refine lv_iconst (v := 1) (pc := 76) hx hb dX6_atom1_76 rfl ?_
  refine lv_isub (pc := 77) hx hb dX6_atom1_77 ?_
  refine p6_26 (pc := 78) E hI lkX6_191 dX6_atom1_78 (fun H locs σ26 eσ26 hI => ?_)
  have hf := hf σ26 eσ26
  refine lv_aload_n (pc := 81) hx hb dX6_atom1_81 rfl (lv_at hl 0 rfl) ?_
  refine g6_27 (pc := 82) E hI lkX6_181 dX6_atom1_82 ?_
  refine lv_if_ne (tgt := 161) (pc := 85) hx hb dX6_atom1_85 (by decide) (fun c27 => ?_) (fun c27 => ?_)
  · have hf := hf.1 c27
    refine lv_iload_n (pc := 161) hx hb dX6_atom1_161 rfl (lv_at hl 1 rfl) ?_
    exact rI (pc := 162) E hr hlk hI hf dX6_atom1_162
  · have hf := hf.2 c27
    refine lv_aload_n (pc := 88) hx hb dX6_atom1_88 rfl (lv_at hl 0 rfl) ?_
    refine callVV (G := (D, tysM cy, F)) (L := LM ad cy Rr) (pc := 89) (As := []) (rest := []) hF E cs0 hl hI (tX6_next hF hf) mwX6_197 (fitD (by decide)) (at6) rfl rfl rfl rfl (Nat.le_of_ble_eq_true rfl) dX6_atom1_89 (fun σ28 H locs hf hI => ?_)
    refine lv_goto (tgt := 161) (pc := 92) hx hb dX6_atom1_92 (by decide) ?_
    refine lv_iload_n (pc := 161) hx hb dX6_atom1_161 rfl (lv_at hl 1 rfl) ?_
    exact rI (pc := 162) E hr hlk hI hf dX6_atom1_162
def wX6_atom1 (σ : St) (Q : Int32 → St → Prop) : Prop := wX6_isSign 45 σ (fun r2 σ1 => ((r2 = 0 → wX6_isSign 40 σ1 (fun r5 σ4 => ((r5 = 0 → ((¬ (gI σ4 16 27) = 0 → (wX6_atom1_j123 0 σ4 Q)) ∧ ((gI σ4 16 27) = 0 → ((¬ (gI σ4 16 23) = 2 → (wX6_atom1_j123 0 σ4 Q)) ∧ ((gI σ4 16 23) = 2 → ∀ x16 : Int32, x16 = (((gJ σ4 16 25)).toInt32) → wX6_next σ4 (fun σ17 => Q x16 σ17)))))) ∧ (¬ r5 = 0 → wX6_opens σ4 (fun r19 σ18 => ((r19 = 0 → Q 0 σ18) ∧ (¬ r19 = 0 → wX6_either2 σ18 (fun r22 σ21 => wX6_isSign 41 σ21 (fun r24 σ23 => ((¬ r24 = 0 → (wX6_atom1_j71 r22 σ23 Q)) ∧ (r24 = 0 → wX6_fail σ23 (fun σ29 => (wX6_atom1_j71 r22 σ29 Q))))))))))))) ∧ (¬ r2 = 0 → wX6_opens σ1 (fun r31 σ30 => ((r31 = 0 → Q 0 σ30) ∧ (¬ r31 = 0 → wX6_atom2 σ30 (fun r34 σ33 => ∀ x35 : Int32, x35 = (-r34) → ∀ σ36 : St, σ36 = sI σ33 16 26 ((gI σ33 16 26) - 1) → Q x35 σ36)))))))
set_option maxRecDepth 100000 in
set_option maxHeartbeats 4000000 in
theorem bX6_atom1 {p : Program} {l : Launch} {e : Env} {s : State} {m : MethodId} {args : Array Value} {below : List Frame} {meth : Method} {c : Code} {H : Heap} {locs : List Loc} {ls : Array Slot} {D : va_G} {F : (Nat → Prop) → State → Prop} {A : Nat → Prop} {σ : St} {ad : Nat → Nat → Nat} {cy : Nat → ClassId} {Rr : va_W} {Q : Int32 → St → Prop} (hF : Stab F) (E : CallFix p m c cX6_atom1 2 s args TB RX6) (hr : meth.sig.returnType = some .int) (hlk : meth.locks = false) (hf : wX6_atom1 σ Q) (hI : In (D, tysM cy, F) (LM ad cy Rr σ) A s H locs) (hl : lv_has ls 2 [(0, .ref (ad 16 99))]) : W p l e (rmD 28) s m args below meth c H locs 0 0 (PI below args s (D, tysM cy, F) A (LM ad cy Rr) Q) (F0 m 0 ls []) := by
  have hx := E.1
  have hb := E.2.1
  unfold wX6_atom1 at hf
  refine lv_iconst (v := 0) (pc := 0) hx hb dX6_atom1_0 rfl ?_
  refine lv_istore_n (lv' := [(1, .int 0), (0, .ref (ad 16 99))]) (pc := 1) hx hb dX6_atom1_1 rfl hl (by decide) rfl (fun ls hl => ?_)
  refine lv_aload_n (pc := 2) hx hb dX6_atom1_2 rfl (lv_at hl 1 rfl) ?_
  refine lv_bipush (v := 45) (pc := 3) hx hb dX6_atom1_3 rfl ?_
  refine callVI (G := (D, tysM cy, F)) (L := LM ad cy Rr) (pc := 5) (As := [.int 45]) (rest := []) hF E cs0 hl hI (tX6_isSign hF hf) mwX6_222 (fitD (by decide)) (at6) rfl rfl rfl rfl (Nat.le_of_ble_eq_true rfl) dX6_atom1_5 (fun r2 σ1 H locs hf hI => ?_)
  refine lv_if_eq (tgt := 37) (pc := 8) hx hb dX6_atom1_8 (by decide) (fun c3 => ?_) (fun c3 => ?_)
  · have hf := hf.1 c3
    refine lv_aload_n (pc := 37) hx hb dX6_atom1_37 rfl (lv_at hl 1 rfl) ?_
    refine lv_bipush (v := 40) (pc := 38) hx hb dX6_atom1_38 rfl ?_
    refine callVI (G := (D, tysM cy, F)) (L := LM ad cy Rr) (pc := 40) (As := [.int 40]) (rest := []) hF E cs0 hl hI (tX6_isSign hF hf) mwX6_222 (fitD (by decide)) (at6) rfl rfl rfl rfl (Nat.le_of_ble_eq_true rfl) dX6_atom1_40 (fun r5 σ4 H locs hf hI => ?_)
    refine lv_if_eq (tgt := 95) (pc := 43) hx hb dX6_atom1_43 (by decide) (fun c6 => ?_) (fun c6 => ?_)
    · have hf := hf.1 c6
      refine lv_aload_n (pc := 95) hx hb dX6_atom1_95 rfl (lv_at hl 1 rfl) ?_
      refine g6_27 (pc := 96) E hI lkX6_181 dX6_atom1_96 ?_
      refine lv_if_ne (tgt := 123) (pc := 99) hx hb dX6_atom1_99 (by decide) (fun c7 => ?_) (fun c7 => ?_)
      · have hf := hf.1 c7
        exact bX6_atom1_123 hF E hr hlk hf hI (lv_sub hl [1, 0] rfl)
      · have hf := hf.2 c7
        refine lv_aload_n (pc := 102) hx hb dX6_atom1_102 rfl (lv_at hl 1 rfl) ?_
        refine g6_23 (pc := 103) E hI lkX6_165 dX6_atom1_103 ?_
        refine lv_iconst (v := 2) (pc := 106) hx hb dX6_atom1_106 rfl ?_
        refine lv_icmp_ne (tgt := 123) (pc := 107) hx hb dX6_atom1_107 (by decide) (fun c15 => ?_) (fun c15 => ?_)
        · have hf := hf.1 c15
          exact bX6_atom1_123 hF E hr hlk hf hI (lv_sub hl [1, 0] rfl)
        · have hf := hf.2 c15
          refine lv_aload_n (pc := 110) hx hb dX6_atom1_110 rfl (lv_at hl 1 rfl) ?_
          refine g6_25 (pc := 111) E hI lkX6_176 dX6_atom1_111 ?_
          refine lv_l2i (v := (((gJ σ4 16 25)).toInt32)) (pc := 114) hx hb dX6_atom1_114 rfl ?_
          refine lv_topi (fun x16 ex16 => ?_)
          have hf := hf x16 ex16
          refine lv_istore_n (lv' := [(1, .int x16), (0, .ref (ad 16 99))]) (pc := 115) hx hb dX6_atom1_115 rfl hl (by decide) rfl (fun ls hl => ?_)
          refine lv_aload_n (pc := 116) hx hb dX6_atom1_116 rfl (lv_at hl 1 rfl) ?_
          refine callVV (G := (D, tysM cy, F)) (L := LM ad cy Rr) (pc := 117) (As := []) (rest := []) hF E cs0 hl hI (tX6_next hF hf) mwX6_197 (fitD (by decide)) (at6) rfl rfl rfl rfl (Nat.le_of_ble_eq_true rfl) dX6_atom1_117 (fun σ17 H locs hf hI => ?_)
          refine lv_goto (tgt := 161) (pc := 120) hx hb dX6_atom1_120 (by decide) ?_
          refine lv_iload_n (pc := 161) hx hb dX6_atom1_161 rfl (lv_at hl 0 rfl) ?_
          exact rI (pc := 162) E hr hlk hI hf dX6_atom1_162
    · have hf := hf.2 c6
      refine lv_aload_n (pc := 46) hx hb dX6_atom1_46 rfl (lv_at hl 1 rfl) ?_
      refine callVI (G := (D, tysM cy, F)) (L := LM ad cy Rr) (pc := 47) (As := []) (rest := []) hF E cs0 hl hI (tX6_opens hF hf) mwX6_225 (fitD (by decide)) (at6) rfl rfl rfl rfl (Nat.le_of_ble_eq_true rfl) dX6_atom1_47 (fun r19 σ18 H locs hf hI => ?_)
      refine lv_if_eq (tgt := 161) (pc := 50) hx hb dX6_atom1_50 (by decide) (fun c20 => ?_) (fun c20 => ?_)
      · have hf := hf.1 c20
        refine lv_iload_n (pc := 161) hx hb dX6_atom1_161 rfl (lv_at hl 0 rfl) ?_
        exact rI (pc := 162) E hr hlk hI hf dX6_atom1_162
      · have hf := hf.2 c20
        refine lv_aload_n (pc := 53) hx hb dX6_atom1_53 rfl (lv_at hl 1 rfl) ?_
        refine callVI (G := (D, tysM cy, F)) (L := LM ad cy Rr) (pc := 54) (As := []) (rest := []) hF E cs0 hl hI (tX6_either2 hF hf) mwX6_306 (fitD (by decide)) (at6) rfl rfl rfl rfl (Nat.le_of_ble_eq_true rfl) dX6_atom1_54 (fun r22 σ21 H locs hf hI => ?_)
        refine lv_istore_n (lv' := [(1, .int r22), (0, .ref (ad 16 99))]) (pc := 57) hx hb dX6_atom1_57 rfl hl (by decide) rfl (fun ls hl => ?_)
        refine lv_aload_n (pc := 58) hx hb dX6_atom1_58 rfl (lv_at hl 1 rfl) ?_
        refine lv_bipush (v := 41) (pc := 59) hx hb dX6_atom1_59 rfl ?_
        refine callVI (G := (D, tysM cy, F)) (L := LM ad cy Rr) (pc := 61) (As := [.int 41]) (rest := []) hF E cs0 hl hI (tX6_isSign hF hf) mwX6_222 (fitD (by decide)) (at6) rfl rfl rfl rfl (Nat.le_of_ble_eq_true rfl) dX6_atom1_61 (fun r24 σ23 H locs hf hI => ?_)
        refine lv_if_ne (tgt := 71) (pc := 64) hx hb dX6_atom1_64 (by decide) (fun c25 => ?_) (fun c25 => ?_)
        · have hf := hf.1 c25
          exact bX6_atom1_71 hF E hr hlk hf hI (lv_sub hl [1, 0] rfl)
        · have hf := hf.2 c25
          refine lv_aload_n (pc := 67) hx hb dX6_atom1_67 rfl (lv_at hl 1 rfl) ?_
          refine callVV (G := (D, tysM cy, F)) (L := LM ad cy Rr) (pc := 68) (As := []) (rest := []) hF E cs0 hl hI (tX6_fail hF hf) mwX6_194 (fitD (by decide)) (at6) rfl rfl rfl rfl (Nat.le_of_ble_eq_true rfl) dX6_atom1_68 (fun σ29 H locs hf hI => ?_)
          exact bX6_atom1_71 hF E hr hlk hf hI (lv_sub hl [1, 0] rfl)
  · have hf := hf.2 c3
    refine lv_aload_n (pc := 11) hx hb dX6_atom1_11 rfl (lv_at hl 1 rfl) ?_
    refine callVI (G := (D, tysM cy, F)) (L := LM ad cy Rr) (pc := 12) (As := []) (rest := []) hF E cs0 hl hI (tX6_opens hF hf) mwX6_225 (fitD (by decide)) (at6) rfl rfl rfl rfl (Nat.le_of_ble_eq_true rfl) dX6_atom1_12 (fun r31 σ30 H locs hf hI => ?_)
    refine lv_if_eq (tgt := 161) (pc := 15) hx hb dX6_atom1_15 (by decide) (fun c32 => ?_) (fun c32 => ?_)
    · have hf := hf.1 c32
      refine lv_iload_n (pc := 161) hx hb dX6_atom1_161 rfl (lv_at hl 0 rfl) ?_
      exact rI (pc := 162) E hr hlk hI hf dX6_atom1_162
    · have hf := hf.2 c32
      refine lv_aload_n (pc := 18) hx hb dX6_atom1_18 rfl (lv_at hl 1 rfl) ?_
      refine callVI (G := (D, tysM cy, F)) (L := LM ad cy Rr) (pc := 19) (As := []) (rest := []) hF E cs0 hl hI (tX6_atom2 hF hf) mwX6_291 (fitD (by decide)) (at6) rfl rfl rfl rfl (Nat.le_of_ble_eq_true rfl) dX6_atom1_19 (fun r34 σ33 H locs hf hI => ?_)
      refine lv_ineg (pc := 22) hx hb dX6_atom1_22 ?_
      refine lv_topi (fun x35 ex35 => ?_)
      have hf := hf x35 ex35
      refine lv_istore_n (lv' := [(1, .int x35), (0, .ref (ad 16 99))]) (pc := 23) hx hb dX6_atom1_23 rfl hl (by decide) rfl (fun ls hl => ?_)
      refine lv_aload_n (pc := 24) hx hb dX6_atom1_24 rfl (lv_at hl 1 rfl) ?_
      refine lv_dup (pc := 25) hx hb dX6_atom1_25 rfl ?_
      refine g6_26 (pc := 26) E hI lkX6_191 dX6_atom1_26 ?_
      refine lv_iconst (v := 1) (pc := 29) hx hb dX6_atom1_29 rfl ?_
      refine lv_isub (pc := 30) hx hb dX6_atom1_30 ?_
      refine p6_26 (pc := 31) E hI lkX6_191 dX6_atom1_31 (fun H locs σ36 eσ36 hI => ?_)
      have hf := hf σ36 eσ36
      refine lv_goto (tgt := 161) (pc := 34) hx hb dX6_atom1_34 (by decide) ?_
      refine lv_iload_n (pc := 161) hx hb dX6_atom1_161 rfl (lv_at hl 0 rfl) ?_
      exact rI (pc := 162) E hr hlk hI hf dX6_atom1_162
theorem tX6_atom1 {l : Launch} {D : va_G} {F : (Nat → Prop) → State → Prop} {σ : St} {ad : Nat → Nat → Nat} {cy : Nat → ClassId} {Rr : va_W} {Q : Int32 → St → Prop} (hF : Stab F) (hf : wX6_atom1 σ Q) : CtI l yX6_atom1 cX6_atom1 2 .int 28 (D, tysM cy, F) (LM ad cy Rr) [.ref (ad 16 99)] σ Q := mkI (by decide) (Nat.le_of_ble_eq_true rfl) (fun p e s m below meth c A E hr hlk hI ls hl => bX6_atom1 hF E hr hlk hf hI hl)

def wX6_term1_l5s (ih : Int32 → St → Prop) (a1 : Int32) (σ : St) (Q : Int32 → St → Prop) : Prop := wX6_isSign 42 σ (fun r4 σ3 => ((r4 = 0 → Q a1 σ3) ∧ (¬ r4 = 0 → wX6_next σ3 (fun σ6 => wX6_atom1 σ6 (fun r8 σ7 => ∀ x9 : Int32, x9 = (a1 * r8) → (ih x9 σ7))))))
def wX6_term1_l5 (n : Nat) : Int32 → St → (Int32 → St → Prop) → Prop := @Nat.rec (fun _ => Int32 → St → (Int32 → St → Prop) → Prop) (fun _ _ _ => False) (fun _ ih a1 σ Q => wX6_term1_l5s (fun a1 σ => ih a1 σ Q) a1 σ Q) n
set_option maxRecDepth 100000 in
set_option maxHeartbeats 4000000 in
theorem bX6_term1_5 {p : Program} {l : Launch} {e : Env} {s : State} {m : MethodId} {args : Array Value} {below : List Frame} {meth : Method} {c : Code} {D : va_G} {F : (Nat → Prop) → State → Prop} {A : Nat → Prop} {ad : Nat → Nat → Nat} {cy : Nat → ClassId} {Rr : va_W} {Q : Int32 → St → Prop} (hF : Stab F) (E : CallFix p m c cX6_term1 2 s args TB RX6) (hr : meth.sig.returnType = some .int) (hlk : meth.locks = false) : ∀ (n : Nat) {a1 : Int32} {σ : St} {H : Heap} {locs : List Loc} {ls : Array Slot}, wX6_term1_l5 n a1 σ Q → In (D, tysM cy, F) (LM ad cy Rr σ) A s H locs → lv_has ls 2 [(0, .ref (ad 16 99)), (1, .int a1)] → W p l e (rmD 29) s m args below meth c H locs 0 0 (PI below args s (D, tysM cy, F) A (LM ad cy Rr) Q) (F0 m 5 ls []) := by
  have hx := E.1
  have hb := E.2.1
  intro n
  induction n with
  | zero => intro a1 σ H locs ls hf hI hl; exact False.elim hf
  | succ n ih =>
    intro a1 σ H locs ls hf hI hl
    have hf : wX6_term1_l5s (fun a1 σ => wX6_term1_l5 n a1 σ Q) a1 σ Q := hf
    unfold wX6_term1_l5s at hf
    refine lv_aload_n (pc := 5) hx hb dX6_term1_5 rfl (lv_at hl 0 rfl) ?_
    refine lv_bipush (v := 42) (pc := 6) hx hb dX6_term1_6 rfl ?_
    refine callVI (G := (D, tysM cy, F)) (L := LM ad cy Rr) (pc := 8) (As := [.int 42]) (rest := []) hF E cs0 hl hI (tX6_isSign hF hf) mwX6_222 (fitD (by decide)) (at6) rfl rfl rfl rfl (Nat.le_of_ble_eq_true rfl) dX6_term1_8 (fun r4 σ3 H locs hf hI => ?_)
    refine lv_if_eq (tgt := 28) (pc := 11) hx hb dX6_term1_11 (by decide) (fun c5 => ?_) (fun c5 => ?_)
    · have hf := hf.1 c5
      refine lv_iload_n (pc := 28) hx hb dX6_term1_28 rfl (lv_at hl 1 rfl) ?_
      exact rI (pc := 29) E hr hlk hI hf dX6_term1_29
    · have hf := hf.2 c5
      refine lv_aload_n (pc := 14) hx hb dX6_term1_14 rfl (lv_at hl 0 rfl) ?_
      refine callVV (G := (D, tysM cy, F)) (L := LM ad cy Rr) (pc := 15) (As := []) (rest := []) hF E cs0 hl hI (tX6_next hF hf) mwX6_197 (fitD (by decide)) (at6) rfl rfl rfl rfl (Nat.le_of_ble_eq_true rfl) dX6_term1_15 (fun σ6 H locs hf hI => ?_)
      refine lv_iload_n (pc := 18) hx hb dX6_term1_18 rfl (lv_at hl 1 rfl) ?_
      refine lv_aload_n (pc := 19) hx hb dX6_term1_19 rfl (lv_at hl 0 rfl) ?_
      refine callVI (G := (D, tysM cy, F)) (L := LM ad cy Rr) (pc := 20) (As := []) (rest := [.int a1]) hF E cs0 hl hI (tX6_atom1 hF hf) mwX6_309 (fitD (by decide)) (at6) rfl rfl rfl rfl (Nat.le_of_ble_eq_true rfl) dX6_term1_20 (fun r8 σ7 H locs hf hI => ?_)
      refine lv_imul (pc := 23) hx hb dX6_term1_23 ?_
      refine lv_topi (fun x9 ex9 => ?_)
      have hf := hf x9 ex9
      refine lv_istore_n (lv' := [(1, .int x9), (0, .ref (ad 16 99))]) (pc := 24) hx hb dX6_term1_24 rfl hl (by decide) rfl (fun ls hl => ?_)
      refine lv_goto (tgt := 5) (pc := 25) hx hb dX6_term1_25 (by decide) ?_
      exact ih hf hI (lv_sub hl [1, 0] rfl)
def wX6_term1 (σ : St) (Q : Int32 → St → Prop) : Prop := wX6_atom1 σ (fun r2 σ1 => ∃ n10 : Nat, wX6_term1_l5 n10 r2 σ1 Q)
set_option maxRecDepth 100000 in
set_option maxHeartbeats 4000000 in
theorem bX6_term1 {p : Program} {l : Launch} {e : Env} {s : State} {m : MethodId} {args : Array Value} {below : List Frame} {meth : Method} {c : Code} {H : Heap} {locs : List Loc} {ls : Array Slot} {D : va_G} {F : (Nat → Prop) → State → Prop} {A : Nat → Prop} {σ : St} {ad : Nat → Nat → Nat} {cy : Nat → ClassId} {Rr : va_W} {Q : Int32 → St → Prop} (hF : Stab F) (E : CallFix p m c cX6_term1 2 s args TB RX6) (hr : meth.sig.returnType = some .int) (hlk : meth.locks = false) (hf : wX6_term1 σ Q) (hI : In (D, tysM cy, F) (LM ad cy Rr σ) A s H locs) (hl : lv_has ls 2 [(0, .ref (ad 16 99))]) : W p l e (rmD 29) s m args below meth c H locs 0 0 (PI below args s (D, tysM cy, F) A (LM ad cy Rr) Q) (F0 m 0 ls []) := by
  have hx := E.1
  have hb := E.2.1
  unfold wX6_term1 at hf
  refine lv_aload_n (pc := 0) hx hb dX6_term1_0 rfl (lv_at hl 0 rfl) ?_
  refine callVI (G := (D, tysM cy, F)) (L := LM ad cy Rr) (pc := 1) (As := []) (rest := []) hF E cs0 hl hI (tX6_atom1 hF hf) mwX6_309 (fitD (by decide)) (at6) rfl rfl rfl rfl (Nat.le_of_ble_eq_true rfl) dX6_term1_1 (fun r2 σ1 H locs hf hI => ?_)
  refine lv_istore_n (lv' := [(1, .int r2), (0, .ref (ad 16 99))]) (pc := 4) hx hb dX6_term1_4 rfl hl (by decide) rfl (fun ls hl => ?_)
  obtain ⟨n10, hf⟩ := hf
  exact bX6_term1_5 hF E hr hlk n10 hf hI (lv_sub hl [1, 0] rfl)
theorem tX6_term1 {l : Launch} {D : va_G} {F : (Nat → Prop) → State → Prop} {σ : St} {ad : Nat → Nat → Nat} {cy : Nat → ClassId} {Rr : va_W} {Q : Int32 → St → Prop} (hF : Stab F) (hf : wX6_term1 σ Q) : CtI l yX6_term1 cX6_term1 2 .int 29 (D, tysM cy, F) (LM ad cy Rr) [.ref (ad 16 99)] σ Q := mkI (by decide) (Nat.le_of_ble_eq_true rfl) (fun p e s m below meth c A E hr hlk hI ls hl => bX6_term1 hF E hr hlk hf hI hl)

def wX6_added1_j62 (s0 : Int32) (σ : St) (K : Int32 → St → Prop) (Q : Int32 → St → Prop) : Prop := (K s0 σ)
set_option maxRecDepth 100000 in
set_option maxHeartbeats 4000000 in
theorem bX6_added1_62 {p : Program} {l : Launch} {e : Env} {s : State} {m : MethodId} {args : Array Value} {below : List Frame} {meth : Method} {c : Code} {H : Heap} {locs : List Loc} {ls : Array Slot} {D : va_G} {F : (Nat → Prop) → State → Prop} {A : Nat → Prop} {σ : St} {ad : Nat → Nat → Nat} {cy : Nat → ClassId} {Rr : va_W} {Q : Int32 → St → Prop} {s0 : Int32} {K : Int32 → St → Prop} (hF : Stab F) (E : CallFix p m c cX6_added1 4 s args TB RX6) (hr : meth.sig.returnType = some .int) (hlk : meth.locks = false) (hK : ∀ (a1 : Int32) (σ : St) (H : Heap) (locs : List Loc) (ls : Array Slot), K a1 σ → In (D, tysM cy, F) (LM ad cy Rr σ) A s H locs → lv_has ls 4 [(0, .ref (ad 16 99)), (1, .int a1)] → W p l e (rmD 30) s m args below meth c H locs 0 0 (PI below args s (D, tysM cy, F) A (LM ad cy Rr) Q) (F0 m 5 ls [])) (hf : wX6_added1_j62 s0 σ K Q) (hI : In (D, tysM cy, F) (LM ad cy Rr σ) A s H locs) (hl : lv_has ls 4 [(0, .ref (ad 16 99))]) : W p l e (rmD 30) s m args below meth c H locs 0 0 (PI below args s (D, tysM cy, F) A (LM ad cy Rr) Q) (F0 m 62 ls [.int s0]) := by
  have hx := E.1
  have hb := E.2.1
  unfold wX6_added1_j62 at hf
  refine lv_istore_n (lv' := [(1, .int s0), (0, .ref (ad 16 99))]) (pc := 62) hx hb dX6_added1_62 rfl hl (by decide) rfl (fun ls hl => ?_)
  refine lv_goto (tgt := 5) (pc := 63) hx hb dX6_added1_63 (by decide) ?_
  exact hK _ _ _ _ _ hf hI (lv_sub hl [1, 0] rfl)
def wX6_added1_j39 (a1 : Int32) (s0 : Int32) (σ : St) (K : Int32 → St → Prop) (Q : Int32 → St → Prop) : Prop := wX6_next σ (fun σ7 => wX6_term1 σ7 (fun r9 σ8 => ((s0 = 0 → (wX6_added1_j62 (a1 - r9) σ8 K Q)) ∧ (¬ s0 = 0 → (wX6_added1_j62 (a1 + r9) σ8 K Q)))))
set_option maxRecDepth 100000 in
set_option maxHeartbeats 4000000 in
theorem bX6_added1_39 {p : Program} {l : Launch} {e : Env} {s : State} {m : MethodId} {args : Array Value} {below : List Frame} {meth : Method} {c : Code} {H : Heap} {locs : List Loc} {ls : Array Slot} {D : va_G} {F : (Nat → Prop) → State → Prop} {A : Nat → Prop} {σ : St} {ad : Nat → Nat → Nat} {cy : Nat → ClassId} {Rr : va_W} {Q : Int32 → St → Prop} {a1 : Int32} {s0 : Int32} {K : Int32 → St → Prop} (hF : Stab F) (E : CallFix p m c cX6_added1 4 s args TB RX6) (hr : meth.sig.returnType = some .int) (hlk : meth.locks = false) (hK : ∀ (a1 : Int32) (σ : St) (H : Heap) (locs : List Loc) (ls : Array Slot), K a1 σ → In (D, tysM cy, F) (LM ad cy Rr σ) A s H locs → lv_has ls 4 [(0, .ref (ad 16 99)), (1, .int a1)] → W p l e (rmD 30) s m args below meth c H locs 0 0 (PI below args s (D, tysM cy, F) A (LM ad cy Rr) Q) (F0 m 5 ls [])) (hf : wX6_added1_j39 a1 s0 σ K Q) (hI : In (D, tysM cy, F) (LM ad cy Rr σ) A s H locs) (hl : lv_has ls 4 [(0, .ref (ad 16 99)), (1, .int a1)]) : W p l e (rmD 30) s m args below meth c H locs 0 0 (PI below args s (D, tysM cy, F) A (LM ad cy Rr) Q) (F0 m 39 ls [.int s0]) := by
  have hx := E.1
  have hb := E.2.1
  unfold wX6_added1_j39 at hf
  refine lv_istore_n (lv' := [(2, .int s0), (0, .ref (ad 16 99)), (1, .int a1)]) (pc := 39) hx hb dX6_added1_39 rfl hl (by decide) rfl (fun ls hl => ?_)
  refine lv_aload_n (pc := 40) hx hb dX6_added1_40 rfl (lv_at hl 1 rfl) ?_
  refine callVV (G := (D, tysM cy, F)) (L := LM ad cy Rr) (pc := 41) (As := []) (rest := []) hF E cs0 hl hI (tX6_next hF hf) mwX6_197 (fitD (by decide)) (at6) rfl rfl rfl rfl (Nat.le_of_ble_eq_true rfl) dX6_added1_41 (fun σ7 H locs hf hI => ?_)
  refine lv_aload_n (pc := 44) hx hb dX6_added1_44 rfl (lv_at hl 1 rfl) ?_
  refine callVI (G := (D, tysM cy, F)) (L := LM ad cy Rr) (pc := 45) (As := []) (rest := []) hF E cs0 hl hI (tX6_term1 hF hf) mwX6_312 (fitD (by decide)) (at6) rfl rfl rfl rfl (Nat.le_of_ble_eq_true rfl) dX6_added1_45 (fun r9 σ8 H locs hf hI => ?_)
  refine lv_istore_n (lv' := [(3, .int r9), (2, .int s0), (0, .ref (ad 16 99)), (1, .int a1)]) (pc := 48) hx hb dX6_added1_48 rfl hl (by decide) rfl (fun ls hl => ?_)
  refine lv_iload_n (pc := 49) hx hb dX6_added1_49 rfl (lv_at hl 1 rfl) ?_
  refine lv_if_eq (tgt := 59) (pc := 50) hx hb dX6_added1_50 (by decide) (fun c10 => ?_) (fun c10 => ?_)
  · have hf := hf.1 c10
    refine lv_iload_n (pc := 59) hx hb dX6_added1_59 rfl (lv_at hl 3 rfl) ?_
    refine lv_iload_n (pc := 60) hx hb dX6_added1_60 rfl (lv_at hl 0 rfl) ?_
    refine lv_isub (pc := 61) hx hb dX6_added1_61 ?_
    exact bX6_added1_62 hF E hr hlk hK hf hI (lv_sub hl [2] rfl)
  · have hf := hf.2 c10
    refine lv_iload_n (pc := 53) hx hb dX6_added1_53 rfl (lv_at hl 3 rfl) ?_
    refine lv_iload_n (pc := 54) hx hb dX6_added1_54 rfl (lv_at hl 0 rfl) ?_
    refine lv_iadd (pc := 55) hx hb dX6_added1_55 ?_
    refine lv_goto (tgt := 62) (pc := 56) hx hb dX6_added1_56 (by decide) ?_
    exact bX6_added1_62 hF E hr hlk hK hf hI (lv_sub hl [2] rfl)
def wX6_added1_j23 (a1 : Int32) (σ : St) (K : Int32 → St → Prop) (Q : Int32 → St → Prop) : Prop := ((¬ (lg_cmp (gJ σ 16 25) 43) = 0 → (wX6_added1_j39 a1 0 σ K Q)) ∧ ((lg_cmp (gJ σ 16 25) 43) = 0 → (wX6_added1_j39 a1 1 σ K Q)))
set_option maxRecDepth 100000 in
set_option maxHeartbeats 4000000 in
theorem bX6_added1_23 {p : Program} {l : Launch} {e : Env} {s : State} {m : MethodId} {args : Array Value} {below : List Frame} {meth : Method} {c : Code} {H : Heap} {locs : List Loc} {ls : Array Slot} {D : va_G} {F : (Nat → Prop) → State → Prop} {A : Nat → Prop} {σ : St} {ad : Nat → Nat → Nat} {cy : Nat → ClassId} {Rr : va_W} {Q : Int32 → St → Prop} {a1 : Int32} {K : Int32 → St → Prop} (hF : Stab F) (E : CallFix p m c cX6_added1 4 s args TB RX6) (hr : meth.sig.returnType = some .int) (hlk : meth.locks = false) (hK : ∀ (a1 : Int32) (σ : St) (H : Heap) (locs : List Loc) (ls : Array Slot), K a1 σ → In (D, tysM cy, F) (LM ad cy Rr σ) A s H locs → lv_has ls 4 [(0, .ref (ad 16 99)), (1, .int a1)] → W p l e (rmD 30) s m args below meth c H locs 0 0 (PI below args s (D, tysM cy, F) A (LM ad cy Rr) Q) (F0 m 5 ls [])) (hf : wX6_added1_j23 a1 σ K Q) (hI : In (D, tysM cy, F) (LM ad cy Rr σ) A s H locs) (hl : lv_has ls 4 [(0, .ref (ad 16 99)), (1, .int a1)]) : W p l e (rmD 30) s m args below meth c H locs 0 0 (PI below args s (D, tysM cy, F) A (LM ad cy Rr) Q) (F0 m 23 ls []) := by
  have hx := E.1
  have hb := E.2.1
  unfold wX6_added1_j23 at hf
  refine lv_aload_n (pc := 23) hx hb dX6_added1_23 rfl (lv_at hl 0 rfl) ?_
  refine g6_25 (pc := 24) E hI lkX6_176 dX6_added1_24 ?_
  refine lv_ldc2 (pc := 27) E.1 E.2.1 E.2.2.2.1 (E.2.2.2.2 _ kcX6_239) dX6_added1_27 ?_
  refine W.lcmp (pc := 30) hx hb dX6_added1_30 ?_
  refine lv_if_ne (tgt := 38) (pc := 31) hx hb dX6_added1_31 (by decide) (fun c6 => ?_) (fun c6 => ?_)
  · have hf := hf.1 c6
    refine lv_iconst (v := 0) (pc := 38) hx hb dX6_added1_38 rfl ?_
    exact bX6_added1_39 hF E hr hlk hK hf hI (lv_sub hl [0, 1] rfl)
  · have hf := hf.2 c6
    refine lv_iconst (v := 1) (pc := 34) hx hb dX6_added1_34 rfl ?_
    refine lv_goto (tgt := 39) (pc := 35) hx hb dX6_added1_35 (by decide) ?_
    exact bX6_added1_39 hF E hr hlk hK hf hI (lv_sub hl [0, 1] rfl)
def wX6_added1_l5s (ih : Int32 → St → Prop) (a1 : Int32) (σ : St) (Q : Int32 → St → Prop) : Prop := wX6_isSign 43 σ (fun r4 σ3 => ((¬ r4 = 0 → (wX6_added1_j23 a1 σ3 ih Q)) ∧ (r4 = 0 → wX6_isSign 45 σ3 (fun r12 σ11 => ((r12 = 0 → Q a1 σ11) ∧ (¬ r12 = 0 → (wX6_added1_j23 a1 σ11 ih Q)))))))
def wX6_added1_l5 (n : Nat) : Int32 → St → (Int32 → St → Prop) → Prop := @Nat.rec (fun _ => Int32 → St → (Int32 → St → Prop) → Prop) (fun _ _ _ => False) (fun _ ih a1 σ Q => wX6_added1_l5s (fun a1 σ => ih a1 σ Q) a1 σ Q) n
set_option maxRecDepth 100000 in
set_option maxHeartbeats 4000000 in
theorem bX6_added1_5 {p : Program} {l : Launch} {e : Env} {s : State} {m : MethodId} {args : Array Value} {below : List Frame} {meth : Method} {c : Code} {D : va_G} {F : (Nat → Prop) → State → Prop} {A : Nat → Prop} {ad : Nat → Nat → Nat} {cy : Nat → ClassId} {Rr : va_W} {Q : Int32 → St → Prop} (hF : Stab F) (E : CallFix p m c cX6_added1 4 s args TB RX6) (hr : meth.sig.returnType = some .int) (hlk : meth.locks = false) : ∀ (n : Nat) {a1 : Int32} {σ : St} {H : Heap} {locs : List Loc} {ls : Array Slot}, wX6_added1_l5 n a1 σ Q → In (D, tysM cy, F) (LM ad cy Rr σ) A s H locs → lv_has ls 4 [(0, .ref (ad 16 99)), (1, .int a1)] → W p l e (rmD 30) s m args below meth c H locs 0 0 (PI below args s (D, tysM cy, F) A (LM ad cy Rr) Q) (F0 m 5 ls []) := by
  have hx := E.1
  have hb := E.2.1
  intro n
  induction n with
  | zero => intro a1 σ H locs ls hf hI hl; exact False.elim hf
  | succ n ih =>
    intro a1 σ H locs ls hf hI hl
    have hf : wX6_added1_l5s (fun a1 σ => wX6_added1_l5 n a1 σ Q) a1 σ Q := hf
    unfold wX6_added1_l5s at hf
    refine lv_aload_n (pc := 5) hx hb dX6_added1_5 rfl (lv_at hl 0 rfl) ?_
    refine lv_bipush (v := 43) (pc := 6) hx hb dX6_added1_6 rfl ?_
    refine callVI (G := (D, tysM cy, F)) (L := LM ad cy Rr) (pc := 8) (As := [.int 43]) (rest := []) hF E cs0 hl hI (tX6_isSign hF hf) mwX6_222 (fitD (by decide)) (at6) rfl rfl rfl rfl (Nat.le_of_ble_eq_true rfl) dX6_added1_8 (fun r4 σ3 H locs hf hI => ?_)
    refine lv_if_ne (tgt := 23) (pc := 11) hx hb dX6_added1_11 (by decide) (fun c5 => ?_) (fun c5 => ?_)
    · have hf := hf.1 c5
      exact bX6_added1_23 hF E hr hlk (fun _ _ _ _ _ hf hI hl => ih hf hI hl) hf hI (lv_sub hl [0, 1] rfl)
    · have hf := hf.2 c5
      refine lv_aload_n (pc := 14) hx hb dX6_added1_14 rfl (lv_at hl 0 rfl) ?_
      refine lv_bipush (v := 45) (pc := 15) hx hb dX6_added1_15 rfl ?_
      refine callVI (G := (D, tysM cy, F)) (L := LM ad cy Rr) (pc := 17) (As := [.int 45]) (rest := []) hF E cs0 hl hI (tX6_isSign hF hf) mwX6_222 (fitD (by decide)) (at6) rfl rfl rfl rfl (Nat.le_of_ble_eq_true rfl) dX6_added1_17 (fun r12 σ11 H locs hf hI => ?_)
      refine lv_if_eq (tgt := 66) (pc := 20) hx hb dX6_added1_20 (by decide) (fun c13 => ?_) (fun c13 => ?_)
      · have hf := hf.1 c13
        refine lv_iload_n (pc := 66) hx hb dX6_added1_66 rfl (lv_at hl 1 rfl) ?_
        exact rI (pc := 67) E hr hlk hI hf dX6_added1_67
      · have hf := hf.2 c13
        exact bX6_added1_23 hF E hr hlk (fun _ _ _ _ _ hf hI hl => ih hf hI hl) hf hI (lv_sub hl [0, 1] rfl)
def wX6_added1 (σ : St) (Q : Int32 → St → Prop) : Prop := wX6_term1 σ (fun r2 σ1 => ∃ n14 : Nat, wX6_added1_l5 n14 r2 σ1 Q)
set_option maxRecDepth 100000 in
set_option maxHeartbeats 4000000 in
theorem bX6_added1 {p : Program} {l : Launch} {e : Env} {s : State} {m : MethodId} {args : Array Value} {below : List Frame} {meth : Method} {c : Code} {H : Heap} {locs : List Loc} {ls : Array Slot} {D : va_G} {F : (Nat → Prop) → State → Prop} {A : Nat → Prop} {σ : St} {ad : Nat → Nat → Nat} {cy : Nat → ClassId} {Rr : va_W} {Q : Int32 → St → Prop} (hF : Stab F) (E : CallFix p m c cX6_added1 4 s args TB RX6) (hr : meth.sig.returnType = some .int) (hlk : meth.locks = false) (hf : wX6_added1 σ Q) (hI : In (D, tysM cy, F) (LM ad cy Rr σ) A s H locs) (hl : lv_has ls 4 [(0, .ref (ad 16 99))]) : W p l e (rmD 30) s m args below meth c H locs 0 0 (PI below args s (D, tysM cy, F) A (LM ad cy Rr) Q) (F0 m 0 ls []) := by
  have hx := E.1
  have hb := E.2.1
  unfold wX6_added1 at hf
  refine lv_aload_n (pc := 0) hx hb dX6_added1_0 rfl (lv_at hl 0 rfl) ?_
  refine callVI (G := (D, tysM cy, F)) (L := LM ad cy Rr) (pc := 1) (As := []) (rest := []) hF E cs0 hl hI (tX6_term1 hF hf) mwX6_312 (fitD (by decide)) (at6) rfl rfl rfl rfl (Nat.le_of_ble_eq_true rfl) dX6_added1_1 (fun r2 σ1 H locs hf hI => ?_)
  refine lv_istore_n (lv' := [(1, .int r2), (0, .ref (ad 16 99))]) (pc := 4) hx hb dX6_added1_4 rfl hl (by decide) rfl (fun ls hl => ?_)
  obtain ⟨n14, hf⟩ := hf
  exact bX6_added1_5 hF E hr hlk n14 hf hI (lv_sub hl [1, 0] rfl)
theorem tX6_added1 {l : Launch} {D : va_G} {F : (Nat → Prop) → State → Prop} {σ : St} {ad : Nat → Nat → Nat} {cy : Nat → ClassId} {Rr : va_W} {Q : Int32 → St → Prop} (hF : Stab F) (hf : wX6_added1 σ Q) : CtI l yX6_added1 cX6_added1 4 .int 30 (D, tysM cy, F) (LM ad cy Rr) [.ref (ad 16 99)] σ Q := mkI (by decide) (Nat.le_of_ble_eq_true rfl) (fun p e s m below meth c A E hr hlk hI ls hl => bX6_added1 hF E hr hlk hf hI hl)

def wX6_not1_j93 (a1 : Int32) (s0 : Int32) (σ : St) (Q : Int32 → St → Prop) : Prop := wX6_next σ (fun σ10 => wX6_added1 σ10 (fun r12 σ11 => ((s0 = 0 → ((¬ a1 = r12 → Q 0 σ11) ∧ (a1 = r12 → Q 1 σ11))) ∧ (¬ s0 = 0 → ((r12 ≤ a1 → Q 0 σ11) ∧ (¬ r12 ≤ a1 → Q 1 σ11))))))
set_option maxRecDepth 100000 in
set_option maxHeartbeats 4000000 in
theorem bX6_not1_93 {p : Program} {l : Launch} {e : Env} {s : State} {m : MethodId} {args : Array Value} {below : List Frame} {meth : Method} {c : Code} {H : Heap} {locs : List Loc} {ls : Array Slot} {D : va_G} {F : (Nat → Prop) → State → Prop} {A : Nat → Prop} {σ : St} {ad : Nat → Nat → Nat} {cy : Nat → ClassId} {Rr : va_W} {Q : Int32 → St → Prop} {a1 : Int32} {s0 : Int32} (hF : Stab F) (E : CallFix p m c cX6_not1 4 s args TB RX6) (hr : meth.sig.returnType = some .int) (hlk : meth.locks = false) (hf : wX6_not1_j93 a1 s0 σ Q) (hI : In (D, tysM cy, F) (LM ad cy Rr σ) A s H locs) (hl : lv_has ls 4 [(0, .ref (ad 16 99)), (1, .int a1)]) : W p l e (rmD 31) s m args below meth c H locs 0 0 (PI below args s (D, tysM cy, F) A (LM ad cy Rr) Q) (F0 m 93 ls [.int s0]) := by
  have hx := E.1
  have hb := E.2.1
  unfold wX6_not1_j93 at hf
  refine lv_istore_n (lv' := [(2, .int s0), (0, .ref (ad 16 99)), (1, .int a1)]) (pc := 93) hx hb dX6_not1_93 rfl hl (by decide) rfl (fun ls hl => ?_)
  refine lv_aload_n (pc := 94) hx hb dX6_not1_94 rfl (lv_at hl 1 rfl) ?_
  refine callVV (G := (D, tysM cy, F)) (L := LM ad cy Rr) (pc := 95) (As := []) (rest := []) hF E cs0 hl hI (tX6_next hF hf) mwX6_197 (fitD (by decide)) (at6) rfl rfl rfl rfl (Nat.le_of_ble_eq_true rfl) dX6_not1_95 (fun σ10 H locs hf hI => ?_)
  refine lv_aload_n (pc := 98) hx hb dX6_not1_98 rfl (lv_at hl 1 rfl) ?_
  refine callVI (G := (D, tysM cy, F)) (L := LM ad cy Rr) (pc := 99) (As := []) (rest := []) hF E cs0 hl hI (tX6_added1 hF hf) mwX6_315 (fitD (by decide)) (at6) rfl rfl rfl rfl (Nat.le_of_ble_eq_true rfl) dX6_not1_99 (fun r12 σ11 H locs hf hI => ?_)
  refine lv_istore_n (lv' := [(3, .int r12), (2, .int s0), (0, .ref (ad 16 99)), (1, .int a1)]) (pc := 102) hx hb dX6_not1_102 rfl hl (by decide) rfl (fun ls hl => ?_)
  refine lv_iload_n (pc := 103) hx hb dX6_not1_103 rfl (lv_at hl 1 rfl) ?_
  refine lv_if_eq (tgt := 115) (pc := 104) hx hb dX6_not1_104 (by decide) (fun c13 => ?_) (fun c13 => ?_)
  · have hf := hf.1 c13
    refine lv_iload_n (pc := 115) hx hb dX6_not1_115 rfl (lv_at hl 3 rfl) ?_
    refine lv_iload_n (pc := 116) hx hb dX6_not1_116 rfl (lv_at hl 0 rfl) ?_
    refine lv_icmp_ne (tgt := 124) (pc := 117) hx hb dX6_not1_117 (by decide) (fun c14 => ?_) (fun c14 => ?_)
    · have hf := hf.1 c14
      refine lv_iconst (v := 0) (pc := 124) hx hb dX6_not1_124 rfl ?_
      exact rI (pc := 125) E hr hlk hI hf dX6_not1_125
    · have hf := hf.2 c14
      refine lv_iconst (v := 1) (pc := 120) hx hb dX6_not1_120 rfl ?_
      refine lv_goto (tgt := 125) (pc := 121) hx hb dX6_not1_121 (by decide) ?_
      exact rI (pc := 125) E hr hlk hI hf dX6_not1_125
  · have hf := hf.2 c13
    refine lv_iload_n (pc := 107) hx hb dX6_not1_107 rfl (lv_at hl 3 rfl) ?_
    refine lv_iload_n (pc := 108) hx hb dX6_not1_108 rfl (lv_at hl 0 rfl) ?_
    refine lv_icmp_ge (tgt := 124) (pc := 109) hx hb dX6_not1_109 (by decide) (fun c15 => ?_) (fun c15 => ?_)
    · have hf := hf.1 c15
      refine lv_iconst (v := 0) (pc := 124) hx hb dX6_not1_124 rfl ?_
      exact rI (pc := 125) E hr hlk hI hf dX6_not1_125
    · have hf := hf.2 c15
      refine lv_goto (tgt := 120) (pc := 112) hx hb dX6_not1_112 (by decide) ?_
      refine lv_iconst (v := 1) (pc := 120) hx hb dX6_not1_120 rfl ?_
      refine lv_goto (tgt := 125) (pc := 121) hx hb dX6_not1_121 (by decide) ?_
      exact rI (pc := 125) E hr hlk hI hf dX6_not1_125
def wX6_not1_j77 (a1 : Int32) (σ : St) (Q : Int32 → St → Prop) : Prop := ((¬ (lg_cmp (gJ σ 16 25) 60) = 0 → (wX6_not1_j93 a1 0 σ Q)) ∧ ((lg_cmp (gJ σ 16 25) 60) = 0 → (wX6_not1_j93 a1 1 σ Q)))
set_option maxRecDepth 100000 in
set_option maxHeartbeats 4000000 in
theorem bX6_not1_77 {p : Program} {l : Launch} {e : Env} {s : State} {m : MethodId} {args : Array Value} {below : List Frame} {meth : Method} {c : Code} {H : Heap} {locs : List Loc} {ls : Array Slot} {D : va_G} {F : (Nat → Prop) → State → Prop} {A : Nat → Prop} {σ : St} {ad : Nat → Nat → Nat} {cy : Nat → ClassId} {Rr : va_W} {Q : Int32 → St → Prop} {a1 : Int32} (hF : Stab F) (E : CallFix p m c cX6_not1 4 s args TB RX6) (hr : meth.sig.returnType = some .int) (hlk : meth.locks = false) (hf : wX6_not1_j77 a1 σ Q) (hI : In (D, tysM cy, F) (LM ad cy Rr σ) A s H locs) (hl : lv_has ls 4 [(0, .ref (ad 16 99)), (1, .int a1)]) : W p l e (rmD 31) s m args below meth c H locs 0 0 (PI below args s (D, tysM cy, F) A (LM ad cy Rr) Q) (F0 m 77 ls []) := by
  have hx := E.1
  have hb := E.2.1
  unfold wX6_not1_j77 at hf
  refine lv_aload_n (pc := 77) hx hb dX6_not1_77 rfl (lv_at hl 0 rfl) ?_
  refine g6_25 (pc := 78) E hI lkX6_176 dX6_not1_78 ?_
  refine lv_ldc2 (pc := 81) E.1 E.2.1 E.2.2.2.1 (E.2.2.2.2 _ kcX6_244) dX6_not1_81 ?_
  refine W.lcmp (pc := 84) hx hb dX6_not1_84 ?_
  refine lv_if_ne (tgt := 92) (pc := 85) hx hb dX6_not1_85 (by decide) (fun c9 => ?_) (fun c9 => ?_)
  · have hf := hf.1 c9
    refine lv_iconst (v := 0) (pc := 92) hx hb dX6_not1_92 rfl ?_
    exact bX6_not1_93 hF E hr hlk hf hI (lv_sub hl [0, 1] rfl)
  · have hf := hf.2 c9
    refine lv_iconst (v := 1) (pc := 88) hx hb dX6_not1_88 rfl ?_
    refine lv_goto (tgt := 93) (pc := 89) hx hb dX6_not1_89 (by decide) ?_
    exact bX6_not1_93 hF E hr hlk hf hI (lv_sub hl [0, 1] rfl)
def wX6_not1 (σ : St) (Q : Int32 → St → Prop) : Prop := wX6_isWord 110 111 116 0 0 0 0 0 σ (fun r2 σ1 => ((r2 = 0 → wX6_added1 σ1 (fun r5 σ4 => wX6_isSign 60 σ4 (fun r7 σ6 => ((¬ r7 = 0 → (wX6_not1_j77 r5 σ6 Q)) ∧ (r7 = 0 → wX6_isSign 61 σ6 (fun r17 σ16 => ((¬ r17 = 0 → (wX6_not1_j77 r5 σ16 Q)) ∧ (r17 = 0 → Q r5 σ16)))))))) ∧ (¬ r2 = 0 → wX6_opens σ1 (fun r20 σ19 => ((¬ r20 = 0 → wX6_not2 σ19 (fun r23 σ22 => ∀ σ24 : St, σ24 = sI σ22 16 26 ((gI σ22 16 26) - 1) → ((¬ r23 = 0 → Q 0 σ24) ∧ (r23 = 0 → Q 1 σ24)))) ∧ (r20 = 0 → Q 0 σ19))))))
set_option maxRecDepth 100000 in
set_option maxHeartbeats 4000000 in
theorem bX6_not1 {p : Program} {l : Launch} {e : Env} {s : State} {m : MethodId} {args : Array Value} {below : List Frame} {meth : Method} {c : Code} {H : Heap} {locs : List Loc} {ls : Array Slot} {D : va_G} {F : (Nat → Prop) → State → Prop} {A : Nat → Prop} {σ : St} {ad : Nat → Nat → Nat} {cy : Nat → ClassId} {Rr : va_W} {Q : Int32 → St → Prop} (hF : Stab F) (E : CallFix p m c cX6_not1 4 s args TB RX6) (hr : meth.sig.returnType = some .int) (hlk : meth.locks = false) (hf : wX6_not1 σ Q) (hI : In (D, tysM cy, F) (LM ad cy Rr σ) A s H locs) (hl : lv_has ls 4 [(0, .ref (ad 16 99))]) : W p l e (rmD 31) s m args below meth c H locs 0 0 (PI below args s (D, tysM cy, F) A (LM ad cy Rr) Q) (F0 m 0 ls []) := by
  have hx := E.1
  have hb := E.2.1
  unfold wX6_not1 at hf
  refine lv_aload_n (pc := 0) hx hb dX6_not1_0 rfl (lv_at hl 0 rfl) ?_
  refine lv_bipush (v := 110) (pc := 1) hx hb dX6_not1_1 rfl ?_
  refine lv_bipush (v := 111) (pc := 3) hx hb dX6_not1_3 rfl ?_
  refine lv_bipush (v := 116) (pc := 5) hx hb dX6_not1_5 rfl ?_
  refine lv_iconst (v := 0) (pc := 7) hx hb dX6_not1_7 rfl ?_
  refine lv_iconst (v := 0) (pc := 8) hx hb dX6_not1_8 rfl ?_
  refine lv_iconst (v := 0) (pc := 9) hx hb dX6_not1_9 rfl ?_
  refine lv_iconst (v := 0) (pc := 10) hx hb dX6_not1_10 rfl ?_
  refine lv_iconst (v := 0) (pc := 11) hx hb dX6_not1_11 rfl ?_
  refine callVI (G := (D, tysM cy, F)) (L := LM ad cy Rr) (pc := 12) (As := [.int 110, .int 111, .int 116, .int 0, .int 0, .int 0, .int 0, .int 0]) (rest := []) hF E cs0 hl hI (tX6_isWord hF hf) mwX6_200 (fitD (by decide)) (at6) rfl rfl rfl rfl (Nat.le_of_ble_eq_true rfl) dX6_not1_12 (fun r2 σ1 H locs hf hI => ?_)
  refine lv_if_eq (tgt := 52) (pc := 15) hx hb dX6_not1_15 (by decide) (fun c3 => ?_) (fun c3 => ?_)
  · have hf := hf.1 c3
    refine lv_aload_n (pc := 52) hx hb dX6_not1_52 rfl (lv_at hl 0 rfl) ?_
    refine callVI (G := (D, tysM cy, F)) (L := LM ad cy Rr) (pc := 53) (As := []) (rest := []) hF E cs0 hl hI (tX6_added1 hF hf) mwX6_315 (fitD (by decide)) (at6) rfl rfl rfl rfl (Nat.le_of_ble_eq_true rfl) dX6_not1_53 (fun r5 σ4 H locs hf hI => ?_)
    refine lv_istore_n (lv' := [(1, .int r5), (0, .ref (ad 16 99))]) (pc := 56) hx hb dX6_not1_56 rfl hl (by decide) rfl (fun ls hl => ?_)
    refine lv_aload_n (pc := 57) hx hb dX6_not1_57 rfl (lv_at hl 1 rfl) ?_
    refine lv_bipush (v := 60) (pc := 58) hx hb dX6_not1_58 rfl ?_
    refine callVI (G := (D, tysM cy, F)) (L := LM ad cy Rr) (pc := 60) (As := [.int 60]) (rest := []) hF E cs0 hl hI (tX6_isSign hF hf) mwX6_222 (fitD (by decide)) (at6) rfl rfl rfl rfl (Nat.le_of_ble_eq_true rfl) dX6_not1_60 (fun r7 σ6 H locs hf hI => ?_)
    refine lv_if_ne (tgt := 77) (pc := 63) hx hb dX6_not1_63 (by decide) (fun c8 => ?_) (fun c8 => ?_)
    · have hf := hf.1 c8
      exact bX6_not1_77 hF E hr hlk hf hI (lv_sub hl [1, 0] rfl)
    · have hf := hf.2 c8
      refine lv_aload_n (pc := 66) hx hb dX6_not1_66 rfl (lv_at hl 1 rfl) ?_
      refine lv_bipush (v := 61) (pc := 67) hx hb dX6_not1_67 rfl ?_
      refine callVI (G := (D, tysM cy, F)) (L := LM ad cy Rr) (pc := 69) (As := [.int 61]) (rest := []) hF E cs0 hl hI (tX6_isSign hF hf) mwX6_222 (fitD (by decide)) (at6) rfl rfl rfl rfl (Nat.le_of_ble_eq_true rfl) dX6_not1_69 (fun r17 σ16 H locs hf hI => ?_)
      refine lv_if_ne (tgt := 77) (pc := 72) hx hb dX6_not1_72 (by decide) (fun c18 => ?_) (fun c18 => ?_)
      · have hf := hf.1 c18
        exact bX6_not1_77 hF E hr hlk hf hI (lv_sub hl [1, 0] rfl)
      · have hf := hf.2 c18
        refine lv_iload_n (pc := 75) hx hb dX6_not1_75 rfl (lv_at hl 0 rfl) ?_
        exact rI (pc := 76) E hr hlk hI hf dX6_not1_76
  · have hf := hf.2 c3
    refine lv_aload_n (pc := 18) hx hb dX6_not1_18 rfl (lv_at hl 0 rfl) ?_
    refine callVI (G := (D, tysM cy, F)) (L := LM ad cy Rr) (pc := 19) (As := []) (rest := []) hF E cs0 hl hI (tX6_opens hF hf) mwX6_225 (fitD (by decide)) (at6) rfl rfl rfl rfl (Nat.le_of_ble_eq_true rfl) dX6_not1_19 (fun r20 σ19 H locs hf hI => ?_)
    refine lv_if_ne (tgt := 27) (pc := 22) hx hb dX6_not1_22 (by decide) (fun c21 => ?_) (fun c21 => ?_)
    · have hf := hf.1 c21
      refine lv_aload_n (pc := 27) hx hb dX6_not1_27 rfl (lv_at hl 0 rfl) ?_
      refine callVI (G := (D, tysM cy, F)) (L := LM ad cy Rr) (pc := 28) (As := []) (rest := []) hF E cs0 hl hI (tX6_not2 hF hf) mwX6_300 (fitD (by decide)) (at6) rfl rfl rfl rfl (Nat.le_of_ble_eq_true rfl) dX6_not1_28 (fun r23 σ22 H locs hf hI => ?_)
      refine lv_istore_n (lv' := [(1, .int r23), (0, .ref (ad 16 99))]) (pc := 31) hx hb dX6_not1_31 rfl hl (by decide) rfl (fun ls hl => ?_)
      refine lv_aload_n (pc := 32) hx hb dX6_not1_32 rfl (lv_at hl 1 rfl) ?_
      refine lv_dup (pc := 33) hx hb dX6_not1_33 rfl ?_
      refine g6_26 (pc := 34) E hI lkX6_191 dX6_not1_34 ?_
      refine lv_iconst (v := 1) (pc := 37) hx hb dX6_not1_37 rfl ?_
      refine lv_isub (pc := 38) hx hb dX6_not1_38 ?_
      refine p6_26 (pc := 39) E hI lkX6_191 dX6_not1_39 (fun H locs σ24 eσ24 hI => ?_)
      have hf := hf σ24 eσ24
      refine lv_iload_n (pc := 42) hx hb dX6_not1_42 rfl (lv_at hl 0 rfl) ?_
      refine lv_if_ne (tgt := 50) (pc := 43) hx hb dX6_not1_43 (by decide) (fun c25 => ?_) (fun c25 => ?_)
      · have hf := hf.1 c25
        refine lv_iconst (v := 0) (pc := 50) hx hb dX6_not1_50 rfl ?_
        exact rI (pc := 51) E hr hlk hI hf dX6_not1_51
      · have hf := hf.2 c25
        refine lv_iconst (v := 1) (pc := 46) hx hb dX6_not1_46 rfl ?_
        refine lv_goto (tgt := 51) (pc := 47) hx hb dX6_not1_47 (by decide) ?_
        exact rI (pc := 51) E hr hlk hI hf dX6_not1_51
    · have hf := hf.2 c21
      refine lv_iconst (v := 0) (pc := 25) hx hb dX6_not1_25 rfl ?_
      exact rI (pc := 26) E hr hlk hI hf dX6_not1_26
theorem tX6_not1 {l : Launch} {D : va_G} {F : (Nat → Prop) → State → Prop} {σ : St} {ad : Nat → Nat → Nat} {cy : Nat → ClassId} {Rr : va_W} {Q : Int32 → St → Prop} (hF : Stab F) (hf : wX6_not1 σ Q) : CtI l yX6_not1 cX6_not1 4 .int 31 (D, tysM cy, F) (LM ad cy Rr) [.ref (ad 16 99)] σ Q := mkI (by decide) (Nat.le_of_ble_eq_true rfl) (fun p e s m below meth c A E hr hlk hI ls hl => bX6_not1 hF E hr hlk hf hI hl)

def wX6_both1_j45 (s0 : Int32) (σ : St) (K : Int32 → St → Prop) (Q : Int32 → St → Prop) : Prop := (K s0 σ)
set_option maxRecDepth 100000 in
set_option maxHeartbeats 4000000 in
theorem bX6_both1_45 {p : Program} {l : Launch} {e : Env} {s : State} {m : MethodId} {args : Array Value} {below : List Frame} {meth : Method} {c : Code} {H : Heap} {locs : List Loc} {ls : Array Slot} {D : va_G} {F : (Nat → Prop) → State → Prop} {A : Nat → Prop} {σ : St} {ad : Nat → Nat → Nat} {cy : Nat → ClassId} {Rr : va_W} {Q : Int32 → St → Prop} {s0 : Int32} {K : Int32 → St → Prop} (hF : Stab F) (E : CallFix p m c cX6_both1 3 s args TB RX6) (hr : meth.sig.returnType = some .int) (hlk : meth.locks = false) (hK : ∀ (a1 : Int32) (σ : St) (H : Heap) (locs : List Loc) (ls : Array Slot), K a1 σ → In (D, tysM cy, F) (LM ad cy Rr σ) A s H locs → lv_has ls 3 [(0, .ref (ad 16 99)), (1, .int a1)] → W p l e (rmD 32) s m args below meth c H locs 0 0 (PI below args s (D, tysM cy, F) A (LM ad cy Rr) Q) (F0 m 5 ls [])) (hf : wX6_both1_j45 s0 σ K Q) (hI : In (D, tysM cy, F) (LM ad cy Rr σ) A s H locs) (hl : lv_has ls 3 [(0, .ref (ad 16 99))]) : W p l e (rmD 32) s m args below meth c H locs 0 0 (PI below args s (D, tysM cy, F) A (LM ad cy Rr) Q) (F0 m 45 ls [.int s0]) := by
  have hx := E.1
  have hb := E.2.1
  unfold wX6_both1_j45 at hf
  refine lv_istore_n (lv' := [(1, .int s0), (0, .ref (ad 16 99))]) (pc := 45) hx hb dX6_both1_45 rfl hl (by decide) rfl (fun ls hl => ?_)
  refine lv_goto (tgt := 5) (pc := 46) hx hb dX6_both1_46 (by decide) ?_
  exact hK _ _ _ _ _ hf hI (lv_sub hl [1, 0] rfl)
def wX6_both1_j44 (σ : St) (K : Int32 → St → Prop) (Q : Int32 → St → Prop) : Prop := (wX6_both1_j45 0 σ K Q)
set_option maxRecDepth 100000 in
set_option maxHeartbeats 4000000 in
theorem bX6_both1_44 {p : Program} {l : Launch} {e : Env} {s : State} {m : MethodId} {args : Array Value} {below : List Frame} {meth : Method} {c : Code} {H : Heap} {locs : List Loc} {ls : Array Slot} {D : va_G} {F : (Nat → Prop) → State → Prop} {A : Nat → Prop} {σ : St} {ad : Nat → Nat → Nat} {cy : Nat → ClassId} {Rr : va_W} {Q : Int32 → St → Prop} {K : Int32 → St → Prop} (hF : Stab F) (E : CallFix p m c cX6_both1 3 s args TB RX6) (hr : meth.sig.returnType = some .int) (hlk : meth.locks = false) (hK : ∀ (a1 : Int32) (σ : St) (H : Heap) (locs : List Loc) (ls : Array Slot), K a1 σ → In (D, tysM cy, F) (LM ad cy Rr σ) A s H locs → lv_has ls 3 [(0, .ref (ad 16 99)), (1, .int a1)] → W p l e (rmD 32) s m args below meth c H locs 0 0 (PI below args s (D, tysM cy, F) A (LM ad cy Rr) Q) (F0 m 5 ls [])) (hf : wX6_both1_j44 σ K Q) (hI : In (D, tysM cy, F) (LM ad cy Rr σ) A s H locs) (hl : lv_has ls 3 [(0, .ref (ad 16 99))]) : W p l e (rmD 32) s m args below meth c H locs 0 0 (PI below args s (D, tysM cy, F) A (LM ad cy Rr) Q) (F0 m 44 ls []) := by
  have hx := E.1
  have hb := E.2.1
  unfold wX6_both1_j44 at hf
  refine lv_iconst (v := 0) (pc := 44) hx hb dX6_both1_44 rfl ?_
  exact bX6_both1_45 hF E hr hlk hK hf hI (lv_sub hl [0] rfl)
def wX6_both1_l5s (ih : Int32 → St → Prop) (a1 : Int32) (σ : St) (Q : Int32 → St → Prop) : Prop := wX6_isWord 97 110 100 0 0 0 0 0 σ (fun r4 σ3 => ((r4 = 0 → Q a1 σ3) ∧ (¬ r4 = 0 → wX6_next σ3 (fun σ6 => wX6_not1 σ6 (fun r8 σ7 => ((a1 = 0 → (wX6_both1_j44 σ7 ih Q)) ∧ (¬ a1 = 0 → ((r8 = 0 → (wX6_both1_j44 σ7 ih Q)) ∧ (¬ r8 = 0 → (wX6_both1_j45 1 σ7 ih Q))))))))))
def wX6_both1_l5 (n : Nat) : Int32 → St → (Int32 → St → Prop) → Prop := @Nat.rec (fun _ => Int32 → St → (Int32 → St → Prop) → Prop) (fun _ _ _ => False) (fun _ ih a1 σ Q => wX6_both1_l5s (fun a1 σ => ih a1 σ Q) a1 σ Q) n
set_option maxRecDepth 100000 in
set_option maxHeartbeats 4000000 in
theorem bX6_both1_5 {p : Program} {l : Launch} {e : Env} {s : State} {m : MethodId} {args : Array Value} {below : List Frame} {meth : Method} {c : Code} {D : va_G} {F : (Nat → Prop) → State → Prop} {A : Nat → Prop} {ad : Nat → Nat → Nat} {cy : Nat → ClassId} {Rr : va_W} {Q : Int32 → St → Prop} (hF : Stab F) (E : CallFix p m c cX6_both1 3 s args TB RX6) (hr : meth.sig.returnType = some .int) (hlk : meth.locks = false) : ∀ (n : Nat) {a1 : Int32} {σ : St} {H : Heap} {locs : List Loc} {ls : Array Slot}, wX6_both1_l5 n a1 σ Q → In (D, tysM cy, F) (LM ad cy Rr σ) A s H locs → lv_has ls 3 [(0, .ref (ad 16 99)), (1, .int a1)] → W p l e (rmD 32) s m args below meth c H locs 0 0 (PI below args s (D, tysM cy, F) A (LM ad cy Rr) Q) (F0 m 5 ls []) := by
  have hx := E.1
  have hb := E.2.1
  intro n
  induction n with
  | zero => intro a1 σ H locs ls hf hI hl; exact False.elim hf
  | succ n ih =>
    intro a1 σ H locs ls hf hI hl
    have hf : wX6_both1_l5s (fun a1 σ => wX6_both1_l5 n a1 σ Q) a1 σ Q := hf
    unfold wX6_both1_l5s at hf
    refine lv_aload_n (pc := 5) hx hb dX6_both1_5 rfl (lv_at hl 0 rfl) ?_
    refine lv_bipush (v := 97) (pc := 6) hx hb dX6_both1_6 rfl ?_
    refine lv_bipush (v := 110) (pc := 8) hx hb dX6_both1_8 rfl ?_
    refine lv_bipush (v := 100) (pc := 10) hx hb dX6_both1_10 rfl ?_
    refine lv_iconst (v := 0) (pc := 12) hx hb dX6_both1_12 rfl ?_
    refine lv_iconst (v := 0) (pc := 13) hx hb dX6_both1_13 rfl ?_
    refine lv_iconst (v := 0) (pc := 14) hx hb dX6_both1_14 rfl ?_
    refine lv_iconst (v := 0) (pc := 15) hx hb dX6_both1_15 rfl ?_
    refine lv_iconst (v := 0) (pc := 16) hx hb dX6_both1_16 rfl ?_
    refine callVI (G := (D, tysM cy, F)) (L := LM ad cy Rr) (pc := 17) (As := [.int 97, .int 110, .int 100, .int 0, .int 0, .int 0, .int 0, .int 0]) (rest := []) hF E cs0 hl hI (tX6_isWord hF hf) mwX6_200 (fitD (by decide)) (at6) rfl rfl rfl rfl (Nat.le_of_ble_eq_true rfl) dX6_both1_17 (fun r4 σ3 H locs hf hI => ?_)
    refine lv_if_eq (tgt := 49) (pc := 20) hx hb dX6_both1_20 (by decide) (fun c5 => ?_) (fun c5 => ?_)
    · have hf := hf.1 c5
      refine lv_iload_n (pc := 49) hx hb dX6_both1_49 rfl (lv_at hl 1 rfl) ?_
      exact rI (pc := 50) E hr hlk hI hf dX6_both1_50
    · have hf := hf.2 c5
      refine lv_aload_n (pc := 23) hx hb dX6_both1_23 rfl (lv_at hl 0 rfl) ?_
      refine callVV (G := (D, tysM cy, F)) (L := LM ad cy Rr) (pc := 24) (As := []) (rest := []) hF E cs0 hl hI (tX6_next hF hf) mwX6_197 (fitD (by decide)) (at6) rfl rfl rfl rfl (Nat.le_of_ble_eq_true rfl) dX6_both1_24 (fun σ6 H locs hf hI => ?_)
      refine lv_aload_n (pc := 27) hx hb dX6_both1_27 rfl (lv_at hl 0 rfl) ?_
      refine callVI (G := (D, tysM cy, F)) (L := LM ad cy Rr) (pc := 28) (As := []) (rest := []) hF E cs0 hl hI (tX6_not1 hF hf) mwX6_318 (fitD (by decide)) (at6) rfl rfl rfl rfl (Nat.le_of_ble_eq_true rfl) dX6_both1_28 (fun r8 σ7 H locs hf hI => ?_)
      refine lv_istore_n (lv' := [(2, .int r8), (0, .ref (ad 16 99)), (1, .int a1)]) (pc := 31) hx hb dX6_both1_31 rfl hl (by decide) rfl (fun ls hl => ?_)
      refine lv_iload_n (pc := 32) hx hb dX6_both1_32 rfl (lv_at hl 2 rfl) ?_
      refine lv_if_eq (tgt := 44) (pc := 33) hx hb dX6_both1_33 (by decide) (fun c9 => ?_) (fun c9 => ?_)
      · have hf := hf.1 c9
        exact bX6_both1_44 hF E hr hlk (fun _ _ _ _ _ hf hI hl => ih hf hI hl) hf hI (lv_sub hl [1] rfl)
      · have hf := hf.2 c9
        refine lv_iload_n (pc := 36) hx hb dX6_both1_36 rfl (lv_at hl 0 rfl) ?_
        refine lv_if_eq (tgt := 44) (pc := 37) hx hb dX6_both1_37 (by decide) (fun c10 => ?_) (fun c10 => ?_)
        · have hf := hf.1 c10
          exact bX6_both1_44 hF E hr hlk (fun _ _ _ _ _ hf hI hl => ih hf hI hl) hf hI (lv_sub hl [1] rfl)
        · have hf := hf.2 c10
          refine lv_iconst (v := 1) (pc := 40) hx hb dX6_both1_40 rfl ?_
          refine lv_goto (tgt := 45) (pc := 41) hx hb dX6_both1_41 (by decide) ?_
          exact bX6_both1_45 hF E hr hlk (fun _ _ _ _ _ hf hI hl => ih hf hI hl) hf hI (lv_sub hl [1] rfl)
def wX6_both1 (σ : St) (Q : Int32 → St → Prop) : Prop := wX6_not1 σ (fun r2 σ1 => ∃ n11 : Nat, wX6_both1_l5 n11 r2 σ1 Q)
set_option maxRecDepth 100000 in
set_option maxHeartbeats 4000000 in
theorem bX6_both1 {p : Program} {l : Launch} {e : Env} {s : State} {m : MethodId} {args : Array Value} {below : List Frame} {meth : Method} {c : Code} {H : Heap} {locs : List Loc} {ls : Array Slot} {D : va_G} {F : (Nat → Prop) → State → Prop} {A : Nat → Prop} {σ : St} {ad : Nat → Nat → Nat} {cy : Nat → ClassId} {Rr : va_W} {Q : Int32 → St → Prop} (hF : Stab F) (E : CallFix p m c cX6_both1 3 s args TB RX6) (hr : meth.sig.returnType = some .int) (hlk : meth.locks = false) (hf : wX6_both1 σ Q) (hI : In (D, tysM cy, F) (LM ad cy Rr σ) A s H locs) (hl : lv_has ls 3 [(0, .ref (ad 16 99))]) : W p l e (rmD 32) s m args below meth c H locs 0 0 (PI below args s (D, tysM cy, F) A (LM ad cy Rr) Q) (F0 m 0 ls []) := by
  have hx := E.1
  have hb := E.2.1
  unfold wX6_both1 at hf
  refine lv_aload_n (pc := 0) hx hb dX6_both1_0 rfl (lv_at hl 0 rfl) ?_
  refine callVI (G := (D, tysM cy, F)) (L := LM ad cy Rr) (pc := 1) (As := []) (rest := []) hF E cs0 hl hI (tX6_not1 hF hf) mwX6_318 (fitD (by decide)) (at6) rfl rfl rfl rfl (Nat.le_of_ble_eq_true rfl) dX6_both1_1 (fun r2 σ1 H locs hf hI => ?_)
  refine lv_istore_n (lv' := [(1, .int r2), (0, .ref (ad 16 99))]) (pc := 4) hx hb dX6_both1_4 rfl hl (by decide) rfl (fun ls hl => ?_)
  obtain ⟨n11, hf⟩ := hf
  exact bX6_both1_5 hF E hr hlk n11 hf hI (lv_sub hl [1, 0] rfl)
theorem tX6_both1 {l : Launch} {D : va_G} {F : (Nat → Prop) → State → Prop} {σ : St} {ad : Nat → Nat → Nat} {cy : Nat → ClassId} {Rr : va_W} {Q : Int32 → St → Prop} (hF : Stab F) (hf : wX6_both1 σ Q) : CtI l yX6_both1 cX6_both1 3 .int 32 (D, tysM cy, F) (LM ad cy Rr) [.ref (ad 16 99)] σ Q := mkI (by decide) (Nat.le_of_ble_eq_true rfl) (fun p e s m below meth c A E hr hlk hI ls hl => bX6_both1 hF E hr hlk hf hI hl)

def wX6_either1_j44 (s0 : Int32) (σ : St) (K : Int32 → St → Prop) (Q : Int32 → St → Prop) : Prop := (K s0 σ)
set_option maxRecDepth 100000 in
set_option maxHeartbeats 4000000 in
theorem bX6_either1_44 {p : Program} {l : Launch} {e : Env} {s : State} {m : MethodId} {args : Array Value} {below : List Frame} {meth : Method} {c : Code} {H : Heap} {locs : List Loc} {ls : Array Slot} {D : va_G} {F : (Nat → Prop) → State → Prop} {A : Nat → Prop} {σ : St} {ad : Nat → Nat → Nat} {cy : Nat → ClassId} {Rr : va_W} {Q : Int32 → St → Prop} {s0 : Int32} {K : Int32 → St → Prop} (hF : Stab F) (E : CallFix p m c cX6_either1 3 s args TB RX6) (hr : meth.sig.returnType = some .int) (hlk : meth.locks = false) (hK : ∀ (a1 : Int32) (σ : St) (H : Heap) (locs : List Loc) (ls : Array Slot), K a1 σ → In (D, tysM cy, F) (LM ad cy Rr σ) A s H locs → lv_has ls 3 [(0, .ref (ad 16 99)), (1, .int a1)] → W p l e (rmD 33) s m args below meth c H locs 0 0 (PI below args s (D, tysM cy, F) A (LM ad cy Rr) Q) (F0 m 5 ls [])) (hf : wX6_either1_j44 s0 σ K Q) (hI : In (D, tysM cy, F) (LM ad cy Rr σ) A s H locs) (hl : lv_has ls 3 [(0, .ref (ad 16 99))]) : W p l e (rmD 33) s m args below meth c H locs 0 0 (PI below args s (D, tysM cy, F) A (LM ad cy Rr) Q) (F0 m 44 ls [.int s0]) := by
  have hx := E.1
  have hb := E.2.1
  unfold wX6_either1_j44 at hf
  refine lv_istore_n (lv' := [(1, .int s0), (0, .ref (ad 16 99))]) (pc := 44) hx hb dX6_either1_44 rfl hl (by decide) rfl (fun ls hl => ?_)
  refine lv_goto (tgt := 5) (pc := 45) hx hb dX6_either1_45 (by decide) ?_
  exact hK _ _ _ _ _ hf hI (lv_sub hl [1, 0] rfl)
def wX6_either1_j39 (σ : St) (K : Int32 → St → Prop) (Q : Int32 → St → Prop) : Prop := (wX6_either1_j44 1 σ K Q)
set_option maxRecDepth 100000 in
set_option maxHeartbeats 4000000 in
theorem bX6_either1_39 {p : Program} {l : Launch} {e : Env} {s : State} {m : MethodId} {args : Array Value} {below : List Frame} {meth : Method} {c : Code} {H : Heap} {locs : List Loc} {ls : Array Slot} {D : va_G} {F : (Nat → Prop) → State → Prop} {A : Nat → Prop} {σ : St} {ad : Nat → Nat → Nat} {cy : Nat → ClassId} {Rr : va_W} {Q : Int32 → St → Prop} {K : Int32 → St → Prop} (hF : Stab F) (E : CallFix p m c cX6_either1 3 s args TB RX6) (hr : meth.sig.returnType = some .int) (hlk : meth.locks = false) (hK : ∀ (a1 : Int32) (σ : St) (H : Heap) (locs : List Loc) (ls : Array Slot), K a1 σ → In (D, tysM cy, F) (LM ad cy Rr σ) A s H locs → lv_has ls 3 [(0, .ref (ad 16 99)), (1, .int a1)] → W p l e (rmD 33) s m args below meth c H locs 0 0 (PI below args s (D, tysM cy, F) A (LM ad cy Rr) Q) (F0 m 5 ls [])) (hf : wX6_either1_j39 σ K Q) (hI : In (D, tysM cy, F) (LM ad cy Rr σ) A s H locs) (hl : lv_has ls 3 [(0, .ref (ad 16 99))]) : W p l e (rmD 33) s m args below meth c H locs 0 0 (PI below args s (D, tysM cy, F) A (LM ad cy Rr) Q) (F0 m 39 ls []) := by
  have hx := E.1
  have hb := E.2.1
  unfold wX6_either1_j39 at hf
  refine lv_iconst (v := 1) (pc := 39) hx hb dX6_either1_39 rfl ?_
  refine lv_goto (tgt := 44) (pc := 40) hx hb dX6_either1_40 (by decide) ?_
  exact bX6_either1_44 hF E hr hlk hK hf hI (lv_sub hl [0] rfl)
def wX6_either1_l5s (ih : Int32 → St → Prop) (a1 : Int32) (σ : St) (Q : Int32 → St → Prop) : Prop := wX6_isWord 111 114 0 0 0 0 0 0 σ (fun r4 σ3 => ((r4 = 0 → Q a1 σ3) ∧ (¬ r4 = 0 → wX6_next σ3 (fun σ6 => wX6_both1 σ6 (fun r8 σ7 => ((¬ a1 = 0 → (wX6_either1_j39 σ7 ih Q)) ∧ (a1 = 0 → ((r8 = 0 → (wX6_either1_j44 0 σ7 ih Q)) ∧ (¬ r8 = 0 → (wX6_either1_j39 σ7 ih Q))))))))))
def wX6_either1_l5 (n : Nat) : Int32 → St → (Int32 → St → Prop) → Prop := @Nat.rec (fun _ => Int32 → St → (Int32 → St → Prop) → Prop) (fun _ _ _ => False) (fun _ ih a1 σ Q => wX6_either1_l5s (fun a1 σ => ih a1 σ Q) a1 σ Q) n
set_option maxRecDepth 100000 in
set_option maxHeartbeats 4000000 in
theorem bX6_either1_5 {p : Program} {l : Launch} {e : Env} {s : State} {m : MethodId} {args : Array Value} {below : List Frame} {meth : Method} {c : Code} {D : va_G} {F : (Nat → Prop) → State → Prop} {A : Nat → Prop} {ad : Nat → Nat → Nat} {cy : Nat → ClassId} {Rr : va_W} {Q : Int32 → St → Prop} (hF : Stab F) (E : CallFix p m c cX6_either1 3 s args TB RX6) (hr : meth.sig.returnType = some .int) (hlk : meth.locks = false) : ∀ (n : Nat) {a1 : Int32} {σ : St} {H : Heap} {locs : List Loc} {ls : Array Slot}, wX6_either1_l5 n a1 σ Q → In (D, tysM cy, F) (LM ad cy Rr σ) A s H locs → lv_has ls 3 [(0, .ref (ad 16 99)), (1, .int a1)] → W p l e (rmD 33) s m args below meth c H locs 0 0 (PI below args s (D, tysM cy, F) A (LM ad cy Rr) Q) (F0 m 5 ls []) := by
  have hx := E.1
  have hb := E.2.1
  intro n
  induction n with
  | zero => intro a1 σ H locs ls hf hI hl; exact False.elim hf
  | succ n ih =>
    intro a1 σ H locs ls hf hI hl
    have hf : wX6_either1_l5s (fun a1 σ => wX6_either1_l5 n a1 σ Q) a1 σ Q := hf
    unfold wX6_either1_l5s at hf
    refine lv_aload_n (pc := 5) hx hb dX6_either1_5 rfl (lv_at hl 0 rfl) ?_
    refine lv_bipush (v := 111) (pc := 6) hx hb dX6_either1_6 rfl ?_
    refine lv_bipush (v := 114) (pc := 8) hx hb dX6_either1_8 rfl ?_
    refine lv_iconst (v := 0) (pc := 10) hx hb dX6_either1_10 rfl ?_
    refine lv_iconst (v := 0) (pc := 11) hx hb dX6_either1_11 rfl ?_
    refine lv_iconst (v := 0) (pc := 12) hx hb dX6_either1_12 rfl ?_
    refine lv_iconst (v := 0) (pc := 13) hx hb dX6_either1_13 rfl ?_
    refine lv_iconst (v := 0) (pc := 14) hx hb dX6_either1_14 rfl ?_
    refine lv_iconst (v := 0) (pc := 15) hx hb dX6_either1_15 rfl ?_
    refine callVI (G := (D, tysM cy, F)) (L := LM ad cy Rr) (pc := 16) (As := [.int 111, .int 114, .int 0, .int 0, .int 0, .int 0, .int 0, .int 0]) (rest := []) hF E cs0 hl hI (tX6_isWord hF hf) mwX6_200 (fitD (by decide)) (at6) rfl rfl rfl rfl (Nat.le_of_ble_eq_true rfl) dX6_either1_16 (fun r4 σ3 H locs hf hI => ?_)
    refine lv_if_eq (tgt := 48) (pc := 19) hx hb dX6_either1_19 (by decide) (fun c5 => ?_) (fun c5 => ?_)
    · have hf := hf.1 c5
      refine lv_iload_n (pc := 48) hx hb dX6_either1_48 rfl (lv_at hl 1 rfl) ?_
      exact rI (pc := 49) E hr hlk hI hf dX6_either1_49
    · have hf := hf.2 c5
      refine lv_aload_n (pc := 22) hx hb dX6_either1_22 rfl (lv_at hl 0 rfl) ?_
      refine callVV (G := (D, tysM cy, F)) (L := LM ad cy Rr) (pc := 23) (As := []) (rest := []) hF E cs0 hl hI (tX6_next hF hf) mwX6_197 (fitD (by decide)) (at6) rfl rfl rfl rfl (Nat.le_of_ble_eq_true rfl) dX6_either1_23 (fun σ6 H locs hf hI => ?_)
      refine lv_aload_n (pc := 26) hx hb dX6_either1_26 rfl (lv_at hl 0 rfl) ?_
      refine callVI (G := (D, tysM cy, F)) (L := LM ad cy Rr) (pc := 27) (As := []) (rest := []) hF E cs0 hl hI (tX6_both1 hF hf) mwX6_321 (fitD (by decide)) (at6) rfl rfl rfl rfl (Nat.le_of_ble_eq_true rfl) dX6_either1_27 (fun r8 σ7 H locs hf hI => ?_)
      refine lv_istore_n (lv' := [(2, .int r8), (0, .ref (ad 16 99)), (1, .int a1)]) (pc := 30) hx hb dX6_either1_30 rfl hl (by decide) rfl (fun ls hl => ?_)
      refine lv_iload_n (pc := 31) hx hb dX6_either1_31 rfl (lv_at hl 2 rfl) ?_
      refine lv_if_ne (tgt := 39) (pc := 32) hx hb dX6_either1_32 (by decide) (fun c9 => ?_) (fun c9 => ?_)
      · have hf := hf.1 c9
        exact bX6_either1_39 hF E hr hlk (fun _ _ _ _ _ hf hI hl => ih hf hI hl) hf hI (lv_sub hl [1] rfl)
      · have hf := hf.2 c9
        refine lv_iload_n (pc := 35) hx hb dX6_either1_35 rfl (lv_at hl 0 rfl) ?_
        refine lv_if_eq (tgt := 43) (pc := 36) hx hb dX6_either1_36 (by decide) (fun c10 => ?_) (fun c10 => ?_)
        · have hf := hf.1 c10
          refine lv_iconst (v := 0) (pc := 43) hx hb dX6_either1_43 rfl ?_
          exact bX6_either1_44 hF E hr hlk (fun _ _ _ _ _ hf hI hl => ih hf hI hl) hf hI (lv_sub hl [1] rfl)
        · have hf := hf.2 c10
          exact bX6_either1_39 hF E hr hlk (fun _ _ _ _ _ hf hI hl => ih hf hI hl) hf hI (lv_sub hl [1] rfl)
def wX6_either1 (σ : St) (Q : Int32 → St → Prop) : Prop := wX6_both1 σ (fun r2 σ1 => ∃ n11 : Nat, wX6_either1_l5 n11 r2 σ1 Q)
set_option maxRecDepth 100000 in
set_option maxHeartbeats 4000000 in
theorem bX6_either1 {p : Program} {l : Launch} {e : Env} {s : State} {m : MethodId} {args : Array Value} {below : List Frame} {meth : Method} {c : Code} {H : Heap} {locs : List Loc} {ls : Array Slot} {D : va_G} {F : (Nat → Prop) → State → Prop} {A : Nat → Prop} {σ : St} {ad : Nat → Nat → Nat} {cy : Nat → ClassId} {Rr : va_W} {Q : Int32 → St → Prop} (hF : Stab F) (E : CallFix p m c cX6_either1 3 s args TB RX6) (hr : meth.sig.returnType = some .int) (hlk : meth.locks = false) (hf : wX6_either1 σ Q) (hI : In (D, tysM cy, F) (LM ad cy Rr σ) A s H locs) (hl : lv_has ls 3 [(0, .ref (ad 16 99))]) : W p l e (rmD 33) s m args below meth c H locs 0 0 (PI below args s (D, tysM cy, F) A (LM ad cy Rr) Q) (F0 m 0 ls []) := by
  have hx := E.1
  have hb := E.2.1
  unfold wX6_either1 at hf
  refine lv_aload_n (pc := 0) hx hb dX6_either1_0 rfl (lv_at hl 0 rfl) ?_
  refine callVI (G := (D, tysM cy, F)) (L := LM ad cy Rr) (pc := 1) (As := []) (rest := []) hF E cs0 hl hI (tX6_both1 hF hf) mwX6_321 (fitD (by decide)) (at6) rfl rfl rfl rfl (Nat.le_of_ble_eq_true rfl) dX6_either1_1 (fun r2 σ1 H locs hf hI => ?_)
  refine lv_istore_n (lv' := [(1, .int r2), (0, .ref (ad 16 99))]) (pc := 4) hx hb dX6_either1_4 rfl hl (by decide) rfl (fun ls hl => ?_)
  obtain ⟨n11, hf⟩ := hf
  exact bX6_either1_5 hF E hr hlk n11 hf hI (lv_sub hl [1, 0] rfl)
theorem tX6_either1 {l : Launch} {D : va_G} {F : (Nat → Prop) → State → Prop} {σ : St} {ad : Nat → Nat → Nat} {cy : Nat → ClassId} {Rr : va_W} {Q : Int32 → St → Prop} (hF : Stab F) (hf : wX6_either1 σ Q) : CtI l yX6_either1 cX6_either1 3 .int 33 (D, tysM cy, F) (LM ad cy Rr) [.ref (ad 16 99)] σ Q := mkI (by decide) (Nat.le_of_ble_eq_true rfl) (fun p e s m below meth c A E hr hlk hI ls hl => bX6_either1 hF E hr hlk hf hI hl)

def wX6_atom0_j157 (a1 : Int32) (σ : St) (Q : Int32 → St → Prop) : Prop := wX6_fail σ (fun σ9 => Q a1 σ9)
set_option maxRecDepth 100000 in
set_option maxHeartbeats 4000000 in
theorem bX6_atom0_157 {p : Program} {l : Launch} {e : Env} {s : State} {m : MethodId} {args : Array Value} {below : List Frame} {meth : Method} {c : Code} {H : Heap} {locs : List Loc} {ls : Array Slot} {D : va_G} {F : (Nat → Prop) → State → Prop} {A : Nat → Prop} {σ : St} {ad : Nat → Nat → Nat} {cy : Nat → ClassId} {Rr : va_W} {Q : Int32 → St → Prop} {a1 : Int32} (hF : Stab F) (E : CallFix p m c cX6_atom0 2 s args TB RX6) (hr : meth.sig.returnType = some .int) (hlk : meth.locks = false) (hf : wX6_atom0_j157 a1 σ Q) (hI : In (D, tysM cy, F) (LM ad cy Rr σ) A s H locs) (hl : lv_has ls 2 [(0, .ref (ad 16 99)), (1, .int a1)]) : W p l e (rmD 34) s m args below meth c H locs 0 0 (PI below args s (D, tysM cy, F) A (LM ad cy Rr) Q) (F0 m 157 ls []) := by
  have hx := E.1
  have hb := E.2.1
  unfold wX6_atom0_j157 at hf
  refine lv_aload_n (pc := 157) hx hb dX6_atom0_157 rfl (lv_at hl 0 rfl) ?_
  refine callVV (G := (D, tysM cy, F)) (L := LM ad cy Rr) (pc := 158) (As := []) (rest := []) hF E cs0 hl hI (tX6_fail hF hf) mwX6_194 (fitD (by decide)) (at6) rfl rfl rfl rfl (Nat.le_of_ble_eq_true rfl) dX6_atom0_158 (fun σ9 H locs hf hI => ?_)
  refine lv_iload_n (pc := 161) hx hb dX6_atom0_161 rfl (lv_at hl 1 rfl) ?_
  exact rI (pc := 162) E hr hlk hI hf dX6_atom0_162
def wX6_atom0_j123 (a1 : Int32) (σ : St) (Q : Int32 → St → Prop) : Prop := ((¬ (gI σ 16 27) = 0 → (wX6_atom0_j157 a1 σ Q)) ∧ ((gI σ 16 27) = 0 → ((¬ (gI σ 16 23) = 1 → (wX6_atom0_j157 a1 σ Q)) ∧ ((gI σ 16 23) = 1 → wX6_name σ (fun r12 σ11 => ((¬ (gI σ11 16 27) = 0 → Q r12 σ11) ∧ ((gI σ11 16 27) = 0 → wX6_next σ11 (fun σ14 => Q r12 σ14))))))))
set_option maxRecDepth 100000 in
set_option maxHeartbeats 4000000 in
theorem bX6_atom0_123 {p : Program} {l : Launch} {e : Env} {s : State} {m : MethodId} {args : Array Value} {below : List Frame} {meth : Method} {c : Code} {H : Heap} {locs : List Loc} {ls : Array Slot} {D : va_G} {F : (Nat → Prop) → State → Prop} {A : Nat → Prop} {σ : St} {ad : Nat → Nat → Nat} {cy : Nat → ClassId} {Rr : va_W} {Q : Int32 → St → Prop} {a1 : Int32} (hF : Stab F) (E : CallFix p m c cX6_atom0 2 s args TB RX6) (hr : meth.sig.returnType = some .int) (hlk : meth.locks = false) (hf : wX6_atom0_j123 a1 σ Q) (hI : In (D, tysM cy, F) (LM ad cy Rr σ) A s H locs) (hl : lv_has ls 2 [(0, .ref (ad 16 99)), (1, .int a1)]) : W p l e (rmD 34) s m args below meth c H locs 0 0 (PI below args s (D, tysM cy, F) A (LM ad cy Rr) Q) (F0 m 123 ls []) := by
  have hx := E.1
  have hb := E.2.1
  unfold wX6_atom0_j123 at hf
  refine lv_aload_n (pc := 123) hx hb dX6_atom0_123 rfl (lv_at hl 0 rfl) ?_
  refine g6_27 (pc := 124) E hI lkX6_181 dX6_atom0_124 ?_
  refine lv_if_ne (tgt := 157) (pc := 127) hx hb dX6_atom0_127 (by decide) (fun c8 => ?_) (fun c8 => ?_)
  · have hf := hf.1 c8
    exact bX6_atom0_157 hF E hr hlk hf hI (lv_sub hl [0, 1] rfl)
  · have hf := hf.2 c8
    refine lv_aload_n (pc := 130) hx hb dX6_atom0_130 rfl (lv_at hl 0 rfl) ?_
    refine g6_23 (pc := 131) E hI lkX6_165 dX6_atom0_131 ?_
    refine lv_iconst (v := 1) (pc := 134) hx hb dX6_atom0_134 rfl ?_
    refine lv_icmp_ne (tgt := 157) (pc := 135) hx hb dX6_atom0_135 (by decide) (fun c10 => ?_) (fun c10 => ?_)
    · have hf := hf.1 c10
      exact bX6_atom0_157 hF E hr hlk hf hI (lv_sub hl [0, 1] rfl)
    · have hf := hf.2 c10
      refine lv_aload_n (pc := 138) hx hb dX6_atom0_138 rfl (lv_at hl 0 rfl) ?_
      refine callVI (G := (D, tysM cy, F)) (L := LM ad cy Rr) (pc := 139) (As := []) (rest := []) hF E cs0 hl hI (tX6_name hF hf) mwX6_229 (fitD (by decide)) (at6) rfl rfl rfl rfl (Nat.le_of_ble_eq_true rfl) dX6_atom0_139 (fun r12 σ11 H locs hf hI => ?_)
      refine lv_istore_n (lv' := [(1, .int r12), (0, .ref (ad 16 99))]) (pc := 142) hx hb dX6_atom0_142 rfl hl (by decide) rfl (fun ls hl => ?_)
      refine lv_aload_n (pc := 143) hx hb dX6_atom0_143 rfl (lv_at hl 1 rfl) ?_
      refine g6_27 (pc := 144) E hI lkX6_181 dX6_atom0_144 ?_
      refine lv_if_ne (tgt := 161) (pc := 147) hx hb dX6_atom0_147 (by decide) (fun c13 => ?_) (fun c13 => ?_)
      · have hf := hf.1 c13
        refine lv_iload_n (pc := 161) hx hb dX6_atom0_161 rfl (lv_at hl 0 rfl) ?_
        exact rI (pc := 162) E hr hlk hI hf dX6_atom0_162
      · have hf := hf.2 c13
        refine lv_aload_n (pc := 150) hx hb dX6_atom0_150 rfl (lv_at hl 1 rfl) ?_
        refine callVV (G := (D, tysM cy, F)) (L := LM ad cy Rr) (pc := 151) (As := []) (rest := []) hF E cs0 hl hI (tX6_next hF hf) mwX6_197 (fitD (by decide)) (at6) rfl rfl rfl rfl (Nat.le_of_ble_eq_true rfl) dX6_atom0_151 (fun σ14 H locs hf hI => ?_)
        refine lv_goto (tgt := 161) (pc := 154) hx hb dX6_atom0_154 (by decide) ?_
        refine lv_iload_n (pc := 161) hx hb dX6_atom0_161 rfl (lv_at hl 0 rfl) ?_
        exact rI (pc := 162) E hr hlk hI hf dX6_atom0_162
def wX6_atom0_j71 (a1 : Int32) (σ : St) (Q : Int32 → St → Prop) : Prop := ∀ σ26 : St, σ26 = sI σ 16 26 ((gI σ 16 26) - 1) → ((¬ (gI σ26 16 27) = 0 → Q a1 σ26) ∧ ((gI σ26 16 27) = 0 → wX6_next σ26 (fun σ28 => Q a1 σ28)))
set_option maxRecDepth 100000 in
set_option maxHeartbeats 4000000 in
theorem bX6_atom0_71 {p : Program} {l : Launch} {e : Env} {s : State} {m : MethodId} {args : Array Value} {below : List Frame} {meth : Method} {c : Code} {H : Heap} {locs : List Loc} {ls : Array Slot} {D : va_G} {F : (Nat → Prop) → State → Prop} {A : Nat → Prop} {σ : St} {ad : Nat → Nat → Nat} {cy : Nat → ClassId} {Rr : va_W} {Q : Int32 → St → Prop} {a1 : Int32} (hF : Stab F) (E : CallFix p m c cX6_atom0 2 s args TB RX6) (hr : meth.sig.returnType = some .int) (hlk : meth.locks = false) (hf : wX6_atom0_j71 a1 σ Q) (hI : In (D, tysM cy, F) (LM ad cy Rr σ) A s H locs) (hl : lv_has ls 2 [(0, .ref (ad 16 99)), (1, .int a1)]) : W p l e (rmD 34) s m args below meth c H locs 0 0 (PI below args s (D, tysM cy, F) A (LM ad cy Rr) Q) (F0 m 71 ls []) := by
  have hx := E.1
  have hb := E.2.1
  unfold wX6_atom0_j71 at hf
  refine lv_aload_n (pc := 71) hx hb dX6_atom0_71 rfl (lv_at hl 0 rfl) ?_
  refine lv_dup (pc := 72) hx hb dX6_atom0_72 rfl ?_
  refine g6_26 (pc := 73) E hI lkX6_191 dX6_atom0_73 ?_
  refine lv_iconst (v := 1) (pc := 76) hx hb dX6_atom0_76 rfl ?_
  refine lv_isub (pc := 77) hx hb dX6_atom0_77 ?_
  refine p6_26 (pc := 78) E hI lkX6_191 dX6_atom0_78 (fun H locs σ26 eσ26 hI => ?_)
  have hf := hf σ26 eσ26
  refine lv_aload_n (pc := 81) hx hb dX6_atom0_81 rfl (lv_at hl 0 rfl) ?_
  refine g6_27 (pc := 82) E hI lkX6_181 dX6_atom0_82 ?_
  refine lv_if_ne (tgt := 161) (pc := 85) hx hb dX6_atom0_85 (by decide) (fun c27 => ?_) (fun c27 => ?_)
  · have hf := hf.1 c27
    refine lv_iload_n (pc := 161) hx hb dX6_atom0_161 rfl (lv_at hl 1 rfl) ?_
    exact rI (pc := 162) E hr hlk hI hf dX6_atom0_162
  · have hf := hf.2 c27
    refine lv_aload_n (pc := 88) hx hb dX6_atom0_88 rfl (lv_at hl 0 rfl) ?_
    refine callVV (G := (D, tysM cy, F)) (L := LM ad cy Rr) (pc := 89) (As := []) (rest := []) hF E cs0 hl hI (tX6_next hF hf) mwX6_197 (fitD (by decide)) (at6) rfl rfl rfl rfl (Nat.le_of_ble_eq_true rfl) dX6_atom0_89 (fun σ28 H locs hf hI => ?_)
    refine lv_goto (tgt := 161) (pc := 92) hx hb dX6_atom0_92 (by decide) ?_
    refine lv_iload_n (pc := 161) hx hb dX6_atom0_161 rfl (lv_at hl 1 rfl) ?_
    exact rI (pc := 162) E hr hlk hI hf dX6_atom0_162
def wX6_atom0 (σ : St) (Q : Int32 → St → Prop) : Prop := wX6_isSign 45 σ (fun r2 σ1 => ((r2 = 0 → wX6_isSign 40 σ1 (fun r5 σ4 => ((r5 = 0 → ((¬ (gI σ4 16 27) = 0 → (wX6_atom0_j123 0 σ4 Q)) ∧ ((gI σ4 16 27) = 0 → ((¬ (gI σ4 16 23) = 2 → (wX6_atom0_j123 0 σ4 Q)) ∧ ((gI σ4 16 23) = 2 → ∀ x16 : Int32, x16 = (((gJ σ4 16 25)).toInt32) → wX6_next σ4 (fun σ17 => Q x16 σ17)))))) ∧ (¬ r5 = 0 → wX6_opens σ4 (fun r19 σ18 => ((r19 = 0 → Q 0 σ18) ∧ (¬ r19 = 0 → wX6_either1 σ18 (fun r22 σ21 => wX6_isSign 41 σ21 (fun r24 σ23 => ((¬ r24 = 0 → (wX6_atom0_j71 r22 σ23 Q)) ∧ (r24 = 0 → wX6_fail σ23 (fun σ29 => (wX6_atom0_j71 r22 σ29 Q))))))))))))) ∧ (¬ r2 = 0 → wX6_opens σ1 (fun r31 σ30 => ((r31 = 0 → Q 0 σ30) ∧ (¬ r31 = 0 → wX6_atom1 σ30 (fun r34 σ33 => ∀ x35 : Int32, x35 = (-r34) → ∀ σ36 : St, σ36 = sI σ33 16 26 ((gI σ33 16 26) - 1) → Q x35 σ36)))))))
set_option maxRecDepth 100000 in
set_option maxHeartbeats 4000000 in
theorem bX6_atom0 {p : Program} {l : Launch} {e : Env} {s : State} {m : MethodId} {args : Array Value} {below : List Frame} {meth : Method} {c : Code} {H : Heap} {locs : List Loc} {ls : Array Slot} {D : va_G} {F : (Nat → Prop) → State → Prop} {A : Nat → Prop} {σ : St} {ad : Nat → Nat → Nat} {cy : Nat → ClassId} {Rr : va_W} {Q : Int32 → St → Prop} (hF : Stab F) (E : CallFix p m c cX6_atom0 2 s args TB RX6) (hr : meth.sig.returnType = some .int) (hlk : meth.locks = false) (hf : wX6_atom0 σ Q) (hI : In (D, tysM cy, F) (LM ad cy Rr σ) A s H locs) (hl : lv_has ls 2 [(0, .ref (ad 16 99))]) : W p l e (rmD 34) s m args below meth c H locs 0 0 (PI below args s (D, tysM cy, F) A (LM ad cy Rr) Q) (F0 m 0 ls []) := by
  have hx := E.1
  have hb := E.2.1
  unfold wX6_atom0 at hf
  refine lv_iconst (v := 0) (pc := 0) hx hb dX6_atom0_0 rfl ?_
  refine lv_istore_n (lv' := [(1, .int 0), (0, .ref (ad 16 99))]) (pc := 1) hx hb dX6_atom0_1 rfl hl (by decide) rfl (fun ls hl => ?_)
  refine lv_aload_n (pc := 2) hx hb dX6_atom0_2 rfl (lv_at hl 1 rfl) ?_
  refine lv_bipush (v := 45) (pc := 3) hx hb dX6_atom0_3 rfl ?_
  refine callVI (G := (D, tysM cy, F)) (L := LM ad cy Rr) (pc := 5) (As := [.int 45]) (rest := []) hF E cs0 hl hI (tX6_isSign hF hf) mwX6_222 (fitD (by decide)) (at6) rfl rfl rfl rfl (Nat.le_of_ble_eq_true rfl) dX6_atom0_5 (fun r2 σ1 H locs hf hI => ?_)
  refine lv_if_eq (tgt := 37) (pc := 8) hx hb dX6_atom0_8 (by decide) (fun c3 => ?_) (fun c3 => ?_)
  · have hf := hf.1 c3
    refine lv_aload_n (pc := 37) hx hb dX6_atom0_37 rfl (lv_at hl 1 rfl) ?_
    refine lv_bipush (v := 40) (pc := 38) hx hb dX6_atom0_38 rfl ?_
    refine callVI (G := (D, tysM cy, F)) (L := LM ad cy Rr) (pc := 40) (As := [.int 40]) (rest := []) hF E cs0 hl hI (tX6_isSign hF hf) mwX6_222 (fitD (by decide)) (at6) rfl rfl rfl rfl (Nat.le_of_ble_eq_true rfl) dX6_atom0_40 (fun r5 σ4 H locs hf hI => ?_)
    refine lv_if_eq (tgt := 95) (pc := 43) hx hb dX6_atom0_43 (by decide) (fun c6 => ?_) (fun c6 => ?_)
    · have hf := hf.1 c6
      refine lv_aload_n (pc := 95) hx hb dX6_atom0_95 rfl (lv_at hl 1 rfl) ?_
      refine g6_27 (pc := 96) E hI lkX6_181 dX6_atom0_96 ?_
      refine lv_if_ne (tgt := 123) (pc := 99) hx hb dX6_atom0_99 (by decide) (fun c7 => ?_) (fun c7 => ?_)
      · have hf := hf.1 c7
        exact bX6_atom0_123 hF E hr hlk hf hI (lv_sub hl [1, 0] rfl)
      · have hf := hf.2 c7
        refine lv_aload_n (pc := 102) hx hb dX6_atom0_102 rfl (lv_at hl 1 rfl) ?_
        refine g6_23 (pc := 103) E hI lkX6_165 dX6_atom0_103 ?_
        refine lv_iconst (v := 2) (pc := 106) hx hb dX6_atom0_106 rfl ?_
        refine lv_icmp_ne (tgt := 123) (pc := 107) hx hb dX6_atom0_107 (by decide) (fun c15 => ?_) (fun c15 => ?_)
        · have hf := hf.1 c15
          exact bX6_atom0_123 hF E hr hlk hf hI (lv_sub hl [1, 0] rfl)
        · have hf := hf.2 c15
          refine lv_aload_n (pc := 110) hx hb dX6_atom0_110 rfl (lv_at hl 1 rfl) ?_
          refine g6_25 (pc := 111) E hI lkX6_176 dX6_atom0_111 ?_
          refine lv_l2i (v := (((gJ σ4 16 25)).toInt32)) (pc := 114) hx hb dX6_atom0_114 rfl ?_
          refine lv_topi (fun x16 ex16 => ?_)
          have hf := hf x16 ex16
          refine lv_istore_n (lv' := [(1, .int x16), (0, .ref (ad 16 99))]) (pc := 115) hx hb dX6_atom0_115 rfl hl (by decide) rfl (fun ls hl => ?_)
          refine lv_aload_n (pc := 116) hx hb dX6_atom0_116 rfl (lv_at hl 1 rfl) ?_
          refine callVV (G := (D, tysM cy, F)) (L := LM ad cy Rr) (pc := 117) (As := []) (rest := []) hF E cs0 hl hI (tX6_next hF hf) mwX6_197 (fitD (by decide)) (at6) rfl rfl rfl rfl (Nat.le_of_ble_eq_true rfl) dX6_atom0_117 (fun σ17 H locs hf hI => ?_)
          refine lv_goto (tgt := 161) (pc := 120) hx hb dX6_atom0_120 (by decide) ?_
          refine lv_iload_n (pc := 161) hx hb dX6_atom0_161 rfl (lv_at hl 0 rfl) ?_
          exact rI (pc := 162) E hr hlk hI hf dX6_atom0_162
    · have hf := hf.2 c6
      refine lv_aload_n (pc := 46) hx hb dX6_atom0_46 rfl (lv_at hl 1 rfl) ?_
      refine callVI (G := (D, tysM cy, F)) (L := LM ad cy Rr) (pc := 47) (As := []) (rest := []) hF E cs0 hl hI (tX6_opens hF hf) mwX6_225 (fitD (by decide)) (at6) rfl rfl rfl rfl (Nat.le_of_ble_eq_true rfl) dX6_atom0_47 (fun r19 σ18 H locs hf hI => ?_)
      refine lv_if_eq (tgt := 161) (pc := 50) hx hb dX6_atom0_50 (by decide) (fun c20 => ?_) (fun c20 => ?_)
      · have hf := hf.1 c20
        refine lv_iload_n (pc := 161) hx hb dX6_atom0_161 rfl (lv_at hl 0 rfl) ?_
        exact rI (pc := 162) E hr hlk hI hf dX6_atom0_162
      · have hf := hf.2 c20
        refine lv_aload_n (pc := 53) hx hb dX6_atom0_53 rfl (lv_at hl 1 rfl) ?_
        refine callVI (G := (D, tysM cy, F)) (L := LM ad cy Rr) (pc := 54) (As := []) (rest := []) hF E cs0 hl hI (tX6_either1 hF hf) mwX6_324 (fitD (by decide)) (at6) rfl rfl rfl rfl (Nat.le_of_ble_eq_true rfl) dX6_atom0_54 (fun r22 σ21 H locs hf hI => ?_)
        refine lv_istore_n (lv' := [(1, .int r22), (0, .ref (ad 16 99))]) (pc := 57) hx hb dX6_atom0_57 rfl hl (by decide) rfl (fun ls hl => ?_)
        refine lv_aload_n (pc := 58) hx hb dX6_atom0_58 rfl (lv_at hl 1 rfl) ?_
        refine lv_bipush (v := 41) (pc := 59) hx hb dX6_atom0_59 rfl ?_
        refine callVI (G := (D, tysM cy, F)) (L := LM ad cy Rr) (pc := 61) (As := [.int 41]) (rest := []) hF E cs0 hl hI (tX6_isSign hF hf) mwX6_222 (fitD (by decide)) (at6) rfl rfl rfl rfl (Nat.le_of_ble_eq_true rfl) dX6_atom0_61 (fun r24 σ23 H locs hf hI => ?_)
        refine lv_if_ne (tgt := 71) (pc := 64) hx hb dX6_atom0_64 (by decide) (fun c25 => ?_) (fun c25 => ?_)
        · have hf := hf.1 c25
          exact bX6_atom0_71 hF E hr hlk hf hI (lv_sub hl [1, 0] rfl)
        · have hf := hf.2 c25
          refine lv_aload_n (pc := 67) hx hb dX6_atom0_67 rfl (lv_at hl 1 rfl) ?_
          refine callVV (G := (D, tysM cy, F)) (L := LM ad cy Rr) (pc := 68) (As := []) (rest := []) hF E cs0 hl hI (tX6_fail hF hf) mwX6_194 (fitD (by decide)) (at6) rfl rfl rfl rfl (Nat.le_of_ble_eq_true rfl) dX6_atom0_68 (fun σ29 H locs hf hI => ?_)
          exact bX6_atom0_71 hF E hr hlk hf hI (lv_sub hl [1, 0] rfl)
  · have hf := hf.2 c3
    refine lv_aload_n (pc := 11) hx hb dX6_atom0_11 rfl (lv_at hl 1 rfl) ?_
    refine callVI (G := (D, tysM cy, F)) (L := LM ad cy Rr) (pc := 12) (As := []) (rest := []) hF E cs0 hl hI (tX6_opens hF hf) mwX6_225 (fitD (by decide)) (at6) rfl rfl rfl rfl (Nat.le_of_ble_eq_true rfl) dX6_atom0_12 (fun r31 σ30 H locs hf hI => ?_)
    refine lv_if_eq (tgt := 161) (pc := 15) hx hb dX6_atom0_15 (by decide) (fun c32 => ?_) (fun c32 => ?_)
    · have hf := hf.1 c32
      refine lv_iload_n (pc := 161) hx hb dX6_atom0_161 rfl (lv_at hl 0 rfl) ?_
      exact rI (pc := 162) E hr hlk hI hf dX6_atom0_162
    · have hf := hf.2 c32
      refine lv_aload_n (pc := 18) hx hb dX6_atom0_18 rfl (lv_at hl 1 rfl) ?_
      refine callVI (G := (D, tysM cy, F)) (L := LM ad cy Rr) (pc := 19) (As := []) (rest := []) hF E cs0 hl hI (tX6_atom1 hF hf) mwX6_309 (fitD (by decide)) (at6) rfl rfl rfl rfl (Nat.le_of_ble_eq_true rfl) dX6_atom0_19 (fun r34 σ33 H locs hf hI => ?_)
      refine lv_ineg (pc := 22) hx hb dX6_atom0_22 ?_
      refine lv_topi (fun x35 ex35 => ?_)
      have hf := hf x35 ex35
      refine lv_istore_n (lv' := [(1, .int x35), (0, .ref (ad 16 99))]) (pc := 23) hx hb dX6_atom0_23 rfl hl (by decide) rfl (fun ls hl => ?_)
      refine lv_aload_n (pc := 24) hx hb dX6_atom0_24 rfl (lv_at hl 1 rfl) ?_
      refine lv_dup (pc := 25) hx hb dX6_atom0_25 rfl ?_
      refine g6_26 (pc := 26) E hI lkX6_191 dX6_atom0_26 ?_
      refine lv_iconst (v := 1) (pc := 29) hx hb dX6_atom0_29 rfl ?_
      refine lv_isub (pc := 30) hx hb dX6_atom0_30 ?_
      refine p6_26 (pc := 31) E hI lkX6_191 dX6_atom0_31 (fun H locs σ36 eσ36 hI => ?_)
      have hf := hf σ36 eσ36
      refine lv_goto (tgt := 161) (pc := 34) hx hb dX6_atom0_34 (by decide) ?_
      refine lv_iload_n (pc := 161) hx hb dX6_atom0_161 rfl (lv_at hl 0 rfl) ?_
      exact rI (pc := 162) E hr hlk hI hf dX6_atom0_162
theorem tX6_atom0 {l : Launch} {D : va_G} {F : (Nat → Prop) → State → Prop} {σ : St} {ad : Nat → Nat → Nat} {cy : Nat → ClassId} {Rr : va_W} {Q : Int32 → St → Prop} (hF : Stab F) (hf : wX6_atom0 σ Q) : CtI l yX6_atom0 cX6_atom0 2 .int 34 (D, tysM cy, F) (LM ad cy Rr) [.ref (ad 16 99)] σ Q := mkI (by decide) (Nat.le_of_ble_eq_true rfl) (fun p e s m below meth c A E hr hlk hI ls hl => bX6_atom0 hF E hr hlk hf hI hl)
