def wX6_in (p1 : Int64) (p2 : Int64) (p3 : Int64) (σ : St) (Q : Int32 → St → Prop) : Prop := (((lg_cmp p1 p2) < 0 → Q 0 σ) ∧ (¬ (lg_cmp p1 p2) < 0 → ((0 < (lg_cmp p1 p3) → Q 0 σ) ∧ (¬ 0 < (lg_cmp p1 p3) → Q 1 σ))))
set_option maxRecDepth 100000 in
set_option maxHeartbeats 4000000 in
theorem bX6_in {p : Program} {l : Launch} {e : Env} {s : State} {m : MethodId} {args : Array Value} {below : List Frame} {meth : Method} {c : Code} {H : Heap} {locs : List Loc} {ls : Array Slot} {D : va_G} {F : (Nat → Prop) → State → Prop} {A : Nat → Prop} {σ : St} {ad : Nat → Nat → Nat} {cy : Nat → ClassId} {Rr : va_W} {Q : Int32 → St → Prop} {p1 : Int64} {p2 : Int64} {p3 : Int64} (hF : Stab F) (E : CallFix p m c cX6_in 6 s args TB RX6) (hr : meth.sig.returnType = some .boolean) (hlk : meth.locks = false) (hf : wX6_in p1 p2 p3 σ Q) (hI : In (D, tysM cy, F) (LM ad cy Rr σ) A s H locs) (hl : lv_has ls 6 [(0, .long p1), (2, .long p2), (4, .long p3)]) : W p l e (rmD 0) s m args below meth c H locs 0 0 (PI below args s (D, tysM cy, F) A (LM ad cy Rr) Q) (F0 m 0 ls []) := by
  have hx := E.1
  have hb := E.2.1
  unfold wX6_in at hf
  refine lv_lload_n (pc := 0) hx hb dX6_in_0 rfl (lv_at hl 0 rfl) ?_
  refine lv_lload_n (pc := 1) hx hb dX6_in_1 rfl (lv_at hl 1 rfl) ?_
  refine W.lcmp (pc := 2) hx hb dX6_in_2 ?_
  refine lv_if_lt (tgt := 17) (pc := 3) hx hb dX6_in_3 (by decide) (fun c1 => ?_) (fun c1 => ?_)
  · have hf := hf.1 c1
    refine lv_iconst (v := 0) (pc := 17) hx hb dX6_in_17 rfl ?_
    exact rZ (pc := 18) E hr hlk hI (Or.inl rfl) hf dX6_in_18
  · have hf := hf.2 c1
    refine lv_lload_n (pc := 6) hx hb dX6_in_6 rfl (lv_at hl 0 rfl) ?_
    refine lv_lload (pc := 7) hx hb dX6_in_7 (lv_at hl 2 rfl) ?_
    refine W.lcmp (pc := 9) hx hb dX6_in_9 ?_
    refine lv_if_gt (tgt := 17) (pc := 10) hx hb dX6_in_10 (by decide) (fun c2 => ?_) (fun c2 => ?_)
    · have hf := hf.1 c2
      refine lv_iconst (v := 0) (pc := 17) hx hb dX6_in_17 rfl ?_
      exact rZ (pc := 18) E hr hlk hI (Or.inl rfl) hf dX6_in_18
    · have hf := hf.2 c2
      refine lv_iconst (v := 1) (pc := 13) hx hb dX6_in_13 rfl ?_
      refine lv_goto (tgt := 18) (pc := 14) hx hb dX6_in_14 (by decide) ?_
      exact rZ (pc := 18) E hr hlk hI (Or.inr rfl) hf dX6_in_18
theorem tX6_in {l : Launch} {D : va_G} {F : (Nat → Prop) → State → Prop} {σ : St} {ad : Nat → Nat → Nat} {cy : Nat → ClassId} {Rr : va_W} {Q : Int32 → St → Prop} {p1 : Int64} {p2 : Int64} {p3 : Int64} (hF : Stab F) (hf : wX6_in p1 p2 p3 σ Q) : CtI l yX6_in cX6_in 6 .boolean 0 (D, tysM cy, F) (LM ad cy Rr) [.long p1, .long p2, .long p3] σ Q := mkI (by decide) (Nat.le_of_ble_eq_true rfl) (fun p e s m below meth c A E hr hlk hI ls hl => bX6_in hF E hr hlk hf hI hl)

def wX6_within (p1 : Int32) (p2 : Int32) (p3 : Int32) (σ : St) (Q : Int32 → St → Prop) : Prop := ((p2 ≤ p1 → ((p1 ≤ p3 → Q p1 σ) ∧ (¬ p1 ≤ p3 → Q p3 σ))) ∧ (¬ p2 ≤ p1 → Q p2 σ))
set_option maxRecDepth 100000 in
set_option maxHeartbeats 4000000 in
theorem bX6_within {p : Program} {l : Launch} {e : Env} {s : State} {m : MethodId} {args : Array Value} {below : List Frame} {meth : Method} {c : Code} {H : Heap} {locs : List Loc} {ls : Array Slot} {D : va_G} {F : (Nat → Prop) → State → Prop} {A : Nat → Prop} {σ : St} {ad : Nat → Nat → Nat} {cy : Nat → ClassId} {Rr : va_W} {Q : Int32 → St → Prop} {p1 : Int32} {p2 : Int32} {p3 : Int32} (hF : Stab F) (E : CallFix p m c cX6_within 3 s args TB RX6) (hr : meth.sig.returnType = some .int) (hlk : meth.locks = false) (hf : wX6_within p1 p2 p3 σ Q) (hI : In (D, tysM cy, F) (LM ad cy Rr σ) A s H locs) (hl : lv_has ls 3 [(0, .int p1), (1, .int p2), (2, .int p3)]) : W p l e (rmD 0) s m args below meth c H locs 0 0 (PI below args s (D, tysM cy, F) A (LM ad cy Rr) Q) (F0 m 0 ls []) := by
  have hx := E.1
  have hb := E.2.1
  unfold wX6_within at hf
  refine lv_iload_n (pc := 0) hx hb dX6_within_0 rfl (lv_at hl 0 rfl) ?_
  refine lv_iload_n (pc := 1) hx hb dX6_within_1 rfl (lv_at hl 1 rfl) ?_
  refine lv_icmp_ge (tgt := 9) (pc := 2) hx hb dX6_within_2 (by decide) (fun c1 => ?_) (fun c1 => ?_)
  · have hf := hf.1 c1
    refine lv_iload_n (pc := 9) hx hb dX6_within_9 rfl (lv_at hl 0 rfl) ?_
    refine lv_iload_n (pc := 10) hx hb dX6_within_10 rfl (lv_at hl 2 rfl) ?_
    refine lv_icmp_le (tgt := 18) (pc := 11) hx hb dX6_within_11 (by decide) (fun c2 => ?_) (fun c2 => ?_)
    · have hf := hf.1 c2
      refine lv_iload_n (pc := 18) hx hb dX6_within_18 rfl (lv_at hl 0 rfl) ?_
      exact rI (pc := 19) E hr hlk hI hf dX6_within_19
    · have hf := hf.2 c2
      refine lv_iload_n (pc := 14) hx hb dX6_within_14 rfl (lv_at hl 2 rfl) ?_
      refine lv_goto (tgt := 19) (pc := 15) hx hb dX6_within_15 (by decide) ?_
      exact rI (pc := 19) E hr hlk hI hf dX6_within_19
  · have hf := hf.2 c1
    refine lv_iload_n (pc := 5) hx hb dX6_within_5 rfl (lv_at hl 1 rfl) ?_
    refine lv_goto (tgt := 19) (pc := 6) hx hb dX6_within_6 (by decide) ?_
    exact rI (pc := 19) E hr hlk hI hf dX6_within_19
theorem tX6_within {l : Launch} {D : va_G} {F : (Nat → Prop) → State → Prop} {σ : St} {ad : Nat → Nat → Nat} {cy : Nat → ClassId} {Rr : va_W} {Q : Int32 → St → Prop} {p1 : Int32} {p2 : Int32} {p3 : Int32} (hF : Stab F) (hf : wX6_within p1 p2 p3 σ Q) : CtI l yX6_within cX6_within 3 .int 0 (D, tysM cy, F) (LM ad cy Rr) [.int p1, .int p2, .int p3] σ Q := mkI (by decide) (Nat.le_of_ble_eq_true rfl) (fun p e s m below meth c A E hr hlk hI ls hl => bX6_within hF E hr hlk hf hI hl)

def wX6_spell (p1 : Int32) (p2 : Int32) (p3 : Int32) (p4 : Int32) (p5 : Int32) (p6 : Int32) (p7 : Int32) (p8 : Int32) (p9 : Int32) (σ : St) (Q : St → Prop) : Prop := vp_in p1 960 ∧ ∀ σ2 : St, σ2 = sA σ 16 1 p1.toNatClampNeg p2 → vp_in (p1 + 1) 960 ∧ ∀ σ4 : St, σ4 = sA σ2 16 1 (p1 + 1).toNatClampNeg p3 → vp_in (p1 + 2) 960 ∧ ∀ σ6 : St, σ6 = sA σ4 16 1 (p1 + 2).toNatClampNeg p4 → vp_in (p1 + 3) 960 ∧ ∀ σ8 : St, σ8 = sA σ6 16 1 (p1 + 3).toNatClampNeg p5 → vp_in (p1 + 4) 960 ∧ ∀ σ10 : St, σ10 = sA σ8 16 1 (p1 + 4).toNatClampNeg p6 → vp_in (p1 + 5) 960 ∧ ∀ σ12 : St, σ12 = sA σ10 16 1 (p1 + 5).toNatClampNeg p7 → vp_in (p1 + 6) 960 ∧ ∀ σ14 : St, σ14 = sA σ12 16 1 (p1 + 6).toNatClampNeg p8 → vp_in (p1 + 7) 960 ∧ ∀ σ16 : St, σ16 = sA σ14 16 1 (p1 + 7).toNatClampNeg p9 → Q σ16
set_option maxRecDepth 100000 in
set_option maxHeartbeats 4000000 in
theorem bX6_spell {p : Program} {l : Launch} {e : Env} {s : State} {m : MethodId} {args : Array Value} {below : List Frame} {meth : Method} {c : Code} {H : Heap} {locs : List Loc} {ls : Array Slot} {D : va_G} {F : (Nat → Prop) → State → Prop} {A : Nat → Prop} {σ : St} {ad : Nat → Nat → Nat} {cy : Nat → ClassId} {Rr : va_W} {Q : St → Prop} {p1 : Int32} {p2 : Int32} {p3 : Int32} {p4 : Int32} {p5 : Int32} {p6 : Int32} {p7 : Int32} {p8 : Int32} {p9 : Int32} (hF : Stab F) (E : CallFix p m c cX6_spell 10 s args TB RX6) (hr : meth.sig.returnType = none) (hlk : meth.locks = false) (hf : wX6_spell p1 p2 p3 p4 p5 p6 p7 p8 p9 σ Q) (hI : In (D, tysM cy, F) (LM ad cy Rr σ) A s H locs) (hl : lv_has ls 10 [(0, .ref (ad 16 99)), (1, .int p1), (2, .int p2), (3, .int p3), (4, .int p4), (5, .int p5), (6, .int p6), (7, .int p7), (8, .int p8), (9, .int p9)]) : W p l e (rmD 0) s m args below meth c H locs 0 0 (PV below args s (D, tysM cy, F) A (LM ad cy Rr) Q) (F0 m 0 ls []) := by
  have hx := E.1
  have hb := E.2.1
  unfold wX6_spell at hf
  refine lv_aload_n (pc := 0) hx hb dX6_spell_0 rfl (lv_at hl 0 rfl) ?_
  refine g6_1 (pc := 1) E hI lkX6_13 dX6_spell_1 ?_
  refine lv_iload_n (pc := 4) hx hb dX6_spell_4 rfl (lv_at hl 1 rfl) ?_
  refine lv_iload_n (pc := 5) hx hb dX6_spell_5 rfl (lv_at hl 2 rfl) ?_
  have g1 := hf.1
  have hf := hf.2
  refine s6_1 (pc := 6) E hI g1 dX6_spell_6 (fun H locs σ2 eσ2 hI => ?_)
  have hf := hf σ2 eσ2
  refine lv_aload_n (pc := 7) hx hb dX6_spell_7 rfl (lv_at hl 0 rfl) ?_
  refine g6_1 (pc := 8) E hI lkX6_13 dX6_spell_8 ?_
  refine lv_iload_n (pc := 11) hx hb dX6_spell_11 rfl (lv_at hl 1 rfl) ?_
  refine lv_iconst (v := 1) (pc := 12) hx hb dX6_spell_12 rfl ?_
  refine lv_iadd (pc := 13) hx hb dX6_spell_13 ?_
  refine lv_iload_n (pc := 14) hx hb dX6_spell_14 rfl (lv_at hl 3 rfl) ?_
  have g3 := hf.1
  have hf := hf.2
  refine s6_1 (pc := 15) E hI g3 dX6_spell_15 (fun H locs σ4 eσ4 hI => ?_)
  have hf := hf σ4 eσ4
  refine lv_aload_n (pc := 16) hx hb dX6_spell_16 rfl (lv_at hl 0 rfl) ?_
  refine g6_1 (pc := 17) E hI lkX6_13 dX6_spell_17 ?_
  refine lv_iload_n (pc := 20) hx hb dX6_spell_20 rfl (lv_at hl 1 rfl) ?_
  refine lv_iconst (v := 2) (pc := 21) hx hb dX6_spell_21 rfl ?_
  refine lv_iadd (pc := 22) hx hb dX6_spell_22 ?_
  refine lv_iload (pc := 23) hx hb dX6_spell_23 (lv_at hl 4 rfl) ?_
  have g5 := hf.1
  have hf := hf.2
  refine s6_1 (pc := 25) E hI g5 dX6_spell_25 (fun H locs σ6 eσ6 hI => ?_)
  have hf := hf σ6 eσ6
  refine lv_aload_n (pc := 26) hx hb dX6_spell_26 rfl (lv_at hl 0 rfl) ?_
  refine g6_1 (pc := 27) E hI lkX6_13 dX6_spell_27 ?_
  refine lv_iload_n (pc := 30) hx hb dX6_spell_30 rfl (lv_at hl 1 rfl) ?_
  refine lv_iconst (v := 3) (pc := 31) hx hb dX6_spell_31 rfl ?_
  refine lv_iadd (pc := 32) hx hb dX6_spell_32 ?_
  refine lv_iload (pc := 33) hx hb dX6_spell_33 (lv_at hl 5 rfl) ?_
  have g7 := hf.1
  have hf := hf.2
  refine s6_1 (pc := 35) E hI g7 dX6_spell_35 (fun H locs σ8 eσ8 hI => ?_)
  have hf := hf σ8 eσ8
  refine lv_aload_n (pc := 36) hx hb dX6_spell_36 rfl (lv_at hl 0 rfl) ?_
  refine g6_1 (pc := 37) E hI lkX6_13 dX6_spell_37 ?_
  refine lv_iload_n (pc := 40) hx hb dX6_spell_40 rfl (lv_at hl 1 rfl) ?_
  refine lv_iconst (v := 4) (pc := 41) hx hb dX6_spell_41 rfl ?_
  refine lv_iadd (pc := 42) hx hb dX6_spell_42 ?_
  refine lv_iload (pc := 43) hx hb dX6_spell_43 (lv_at hl 6 rfl) ?_
  have g9 := hf.1
  have hf := hf.2
  refine s6_1 (pc := 45) E hI g9 dX6_spell_45 (fun H locs σ10 eσ10 hI => ?_)
  have hf := hf σ10 eσ10
  refine lv_aload_n (pc := 46) hx hb dX6_spell_46 rfl (lv_at hl 0 rfl) ?_
  refine g6_1 (pc := 47) E hI lkX6_13 dX6_spell_47 ?_
  refine lv_iload_n (pc := 50) hx hb dX6_spell_50 rfl (lv_at hl 1 rfl) ?_
  refine lv_iconst (v := 5) (pc := 51) hx hb dX6_spell_51 rfl ?_
  refine lv_iadd (pc := 52) hx hb dX6_spell_52 ?_
  refine lv_iload (pc := 53) hx hb dX6_spell_53 (lv_at hl 7 rfl) ?_
  have g11 := hf.1
  have hf := hf.2
  refine s6_1 (pc := 55) E hI g11 dX6_spell_55 (fun H locs σ12 eσ12 hI => ?_)
  have hf := hf σ12 eσ12
  refine lv_aload_n (pc := 56) hx hb dX6_spell_56 rfl (lv_at hl 0 rfl) ?_
  refine g6_1 (pc := 57) E hI lkX6_13 dX6_spell_57 ?_
  refine lv_iload_n (pc := 60) hx hb dX6_spell_60 rfl (lv_at hl 1 rfl) ?_
  refine lv_bipush (v := 6) (pc := 61) hx hb dX6_spell_61 rfl ?_
  refine lv_iadd (pc := 63) hx hb dX6_spell_63 ?_
  refine lv_iload (pc := 64) hx hb dX6_spell_64 (lv_at hl 8 rfl) ?_
  have g13 := hf.1
  have hf := hf.2
  refine s6_1 (pc := 66) E hI g13 dX6_spell_66 (fun H locs σ14 eσ14 hI => ?_)
  have hf := hf σ14 eσ14
  refine lv_aload_n (pc := 67) hx hb dX6_spell_67 rfl (lv_at hl 0 rfl) ?_
  refine g6_1 (pc := 68) E hI lkX6_13 dX6_spell_68 ?_
  refine lv_iload_n (pc := 71) hx hb dX6_spell_71 rfl (lv_at hl 1 rfl) ?_
  refine lv_bipush (v := 7) (pc := 72) hx hb dX6_spell_72 rfl ?_
  refine lv_iadd (pc := 74) hx hb dX6_spell_74 ?_
  refine lv_iload (pc := 75) hx hb dX6_spell_75 (lv_at hl 9 rfl) ?_
  have g15 := hf.1
  have hf := hf.2
  refine s6_1 (pc := 77) E hI g15 dX6_spell_77 (fun H locs σ16 eσ16 hI => ?_)
  have hf := hf σ16 eσ16
  exact rV (pc := 78) E hr hlk hI hf dX6_spell_78
theorem tX6_spell {l : Launch} {D : va_G} {F : (Nat → Prop) → State → Prop} {σ : St} {ad : Nat → Nat → Nat} {cy : Nat → ClassId} {Rr : va_W} {Q : St → Prop} {p1 : Int32} {p2 : Int32} {p3 : Int32} {p4 : Int32} {p5 : Int32} {p6 : Int32} {p7 : Int32} {p8 : Int32} {p9 : Int32} (hF : Stab F) (hf : wX6_spell p1 p2 p3 p4 p5 p6 p7 p8 p9 σ Q) : CtV l yX6_spell cX6_spell 10 0 (D, tysM cy, F) (LM ad cy Rr) [.ref (ad 16 99), .int p1, .int p2, .int p3, .int p4, .int p5, .int p6, .int p7, .int p8, .int p9] σ Q := mkV (by decide) (Nat.le_of_ble_eq_true rfl) (fun p e s m below meth c A E hr hlk hI ls hl => bX6_spell hF E hr hlk hf hI hl)

def wX6_has (p1 : Int64) (p2 : Int32) (σ : St) (Q : Int32 → St → Prop) : Prop := ((¬ (lg_cmp ((lsr p1 p2) &&& 1) 1) = 0 → Q 0 σ) ∧ ((lg_cmp ((lsr p1 p2) &&& 1) 1) = 0 → Q 1 σ))
set_option maxRecDepth 100000 in
set_option maxHeartbeats 4000000 in
theorem bX6_has {p : Program} {l : Launch} {e : Env} {s : State} {m : MethodId} {args : Array Value} {below : List Frame} {meth : Method} {c : Code} {H : Heap} {locs : List Loc} {ls : Array Slot} {D : va_G} {F : (Nat → Prop) → State → Prop} {A : Nat → Prop} {σ : St} {ad : Nat → Nat → Nat} {cy : Nat → ClassId} {Rr : va_W} {Q : Int32 → St → Prop} {p1 : Int64} {p2 : Int32} (hF : Stab F) (E : CallFix p m c cX6_has 3 s args TB RX6) (hr : meth.sig.returnType = some .boolean) (hlk : meth.locks = false) (hf : wX6_has p1 p2 σ Q) (hI : In (D, tysM cy, F) (LM ad cy Rr σ) A s H locs) (hl : lv_has ls 3 [(0, .long p1), (2, .int p2)]) : W p l e (rmD 0) s m args below meth c H locs 0 0 (PI below args s (D, tysM cy, F) A (LM ad cy Rr) Q) (F0 m 0 ls []) := by
  have hx := E.1
  have hb := E.2.1
  unfold wX6_has at hf
  refine lv_lload_n (pc := 0) hx hb dX6_has_0 rfl (lv_at hl 0 rfl) ?_
  refine lv_iload_n (pc := 1) hx hb dX6_has_1 rfl (lv_at hl 1 rfl) ?_
  refine lv_lshr (v := (lsr p1 p2)) (pc := 2) hx hb dX6_has_2 rfl ?_
  refine lv_lconst (v := 1) (pc := 3) hx hb dX6_has_3 rfl ?_
  refine lv_land (pc := 4) hx hb dX6_has_4 ?_
  refine lv_lconst (v := 1) (pc := 5) hx hb dX6_has_5 rfl ?_
  refine W.lcmp (pc := 6) hx hb dX6_has_6 ?_
  refine lv_if_ne (tgt := 14) (pc := 7) hx hb dX6_has_7 (by decide) (fun c1 => ?_) (fun c1 => ?_)
  · have hf := hf.1 c1
    refine lv_iconst (v := 0) (pc := 14) hx hb dX6_has_14 rfl ?_
    exact rZ (pc := 15) E hr hlk hI (Or.inl rfl) hf dX6_has_15
  · have hf := hf.2 c1
    refine lv_iconst (v := 1) (pc := 10) hx hb dX6_has_10 rfl ?_
    refine lv_goto (tgt := 15) (pc := 11) hx hb dX6_has_11 (by decide) ?_
    exact rZ (pc := 15) E hr hlk hI (Or.inr rfl) hf dX6_has_15
theorem tX6_has {l : Launch} {D : va_G} {F : (Nat → Prop) → State → Prop} {σ : St} {ad : Nat → Nat → Nat} {cy : Nat → ClassId} {Rr : va_W} {Q : Int32 → St → Prop} {p1 : Int64} {p2 : Int32} (hF : Stab F) (hf : wX6_has p1 p2 σ Q) : CtI l yX6_has cX6_has 3 .boolean 0 (D, tysM cy, F) (LM ad cy Rr) [.long p1, .int p2] σ Q := mkI (by decide) (Nat.le_of_ble_eq_true rfl) (fun p e s m below meth c A E hr hlk hI ls hl => bX6_has hF E hr hlk hf hI hl)

def wX6_bitsOf_l4s (ih : Int32 → Int64 → St → Prop) (a2 : Int32) (a3 : Int64) (σ : St) (Q : Int32 → St → Prop) : Prop := (((lg_cmp a3 0) = 0 → Q a2 σ) ∧ (¬ (lg_cmp a3 0) = 0 → ∀ x2 : Int32, x2 = a2 + 1 → ∀ x3 : Int64, x3 = (a3 &&& (a3 - 1)) → (ih x2 x3 σ)))
def wX6_bitsOf_l4 (n : Nat) : Int32 → Int64 → St → (Int32 → St → Prop) → Prop := @Nat.rec (fun _ => Int32 → Int64 → St → (Int32 → St → Prop) → Prop) (fun _ _ _ _ => False) (fun _ ih a2 a3 σ Q => wX6_bitsOf_l4s (fun a2 a3 σ => ih a2 a3 σ Q) a2 a3 σ Q) n
set_option maxRecDepth 100000 in
set_option maxHeartbeats 4000000 in
theorem bX6_bitsOf_4 {p : Program} {l : Launch} {e : Env} {s : State} {m : MethodId} {args : Array Value} {below : List Frame} {meth : Method} {c : Code} {D : va_G} {F : (Nat → Prop) → State → Prop} {A : Nat → Prop} {ad : Nat → Nat → Nat} {cy : Nat → ClassId} {Rr : va_W} {Q : Int32 → St → Prop} (hF : Stab F) (E : CallFix p m c cX6_bitsOf 5 s args TB RX6) (hr : meth.sig.returnType = some .int) (hlk : meth.locks = false) : ∀ (n : Nat) {a2 : Int32} {a3 : Int64} {σ : St} {H : Heap} {locs : List Loc} {ls : Array Slot}, wX6_bitsOf_l4 n a2 a3 σ Q → In (D, tysM cy, F) (LM ad cy Rr σ) A s H locs → lv_has ls 5 [(2, .int a2), (3, .long a3)] → W p l e (rmD 0) s m args below meth c H locs 0 0 (PI below args s (D, tysM cy, F) A (LM ad cy Rr) Q) (F0 m 4 ls []) := by
  have hx := E.1
  have hb := E.2.1
  intro n
  induction n with
  | zero => intro a2 a3 σ H locs ls hf hI hl; exact False.elim hf
  | succ n ih =>
    intro a2 a3 σ H locs ls hf hI hl
    have hf : wX6_bitsOf_l4s (fun a2 a3 σ => wX6_bitsOf_l4 n a2 a3 σ Q) a2 a3 σ Q := hf
    unfold wX6_bitsOf_l4s at hf
    refine lv_lload_n (pc := 4) hx hb dX6_bitsOf_4 rfl (lv_at hl 1 rfl) ?_
    refine lv_lconst (v := 0) (pc := 5) hx hb dX6_bitsOf_5 rfl ?_
    refine W.lcmp (pc := 6) hx hb dX6_bitsOf_6 ?_
    refine lv_if_eq (tgt := 22) (pc := 7) hx hb dX6_bitsOf_7 (by decide) (fun c1 => ?_) (fun c1 => ?_)
    · have hf := hf.1 c1
      refine lv_iload_n (pc := 22) hx hb dX6_bitsOf_22 rfl (lv_at hl 0 rfl) ?_
      exact rI (pc := 23) E hr hlk hI hf dX6_bitsOf_23
    · have hf := hf.2 c1
      obtain ⟨x2, ex2⟩ : ∃ y : Int32, y = a2 + 1 := ⟨_, rfl⟩
      have hf := hf x2 ex2
      refine lv_iinc (v := x2) (lv' := [(2, .int x2), (3, .long a3)]) (pc := 10) hx hb dX6_bitsOf_10 hl (k := 0) rfl (by rw [ex2]; rfl) (by decide) rfl (fun ls hl => ?_)
      refine lv_lload_n (pc := 13) hx hb dX6_bitsOf_13 rfl (lv_at hl 1 rfl) ?_
      refine lv_lload_n (pc := 14) hx hb dX6_bitsOf_14 rfl (lv_at hl 1 rfl) ?_
      refine lv_lconst (v := 1) (pc := 15) hx hb dX6_bitsOf_15 rfl ?_
      refine lv_lsub (pc := 16) hx hb dX6_bitsOf_16 ?_
      refine lv_land (pc := 17) hx hb dX6_bitsOf_17 ?_
      refine lv_topl (fun x3 ex3 => ?_)
      have hf := hf x3 ex3
      refine lv_lstore_n (lv' := [(3, .long x3), (2, .int x2)]) (pc := 18) hx hb dX6_bitsOf_18 rfl hl (by decide) rfl (fun ls hl => ?_)
      refine lv_goto (tgt := 4) (pc := 19) hx hb dX6_bitsOf_19 (by decide) ?_
      exact ih hf hI (lv_sub hl [1, 0] rfl)
def wX6_bitsOf (p1 : Int64) (σ : St) (Q : Int32 → St → Prop) : Prop := ∃ n4 : Nat, wX6_bitsOf_l4 n4 0 p1 σ Q
set_option maxRecDepth 100000 in
set_option maxHeartbeats 4000000 in
theorem bX6_bitsOf {p : Program} {l : Launch} {e : Env} {s : State} {m : MethodId} {args : Array Value} {below : List Frame} {meth : Method} {c : Code} {H : Heap} {locs : List Loc} {ls : Array Slot} {D : va_G} {F : (Nat → Prop) → State → Prop} {A : Nat → Prop} {σ : St} {ad : Nat → Nat → Nat} {cy : Nat → ClassId} {Rr : va_W} {Q : Int32 → St → Prop} {p1 : Int64} (hF : Stab F) (E : CallFix p m c cX6_bitsOf 5 s args TB RX6) (hr : meth.sig.returnType = some .int) (hlk : meth.locks = false) (hf : wX6_bitsOf p1 σ Q) (hI : In (D, tysM cy, F) (LM ad cy Rr σ) A s H locs) (hl : lv_has ls 5 [(0, .long p1)]) : W p l e (rmD 0) s m args below meth c H locs 0 0 (PI below args s (D, tysM cy, F) A (LM ad cy Rr) Q) (F0 m 0 ls []) := by
  have hx := E.1
  have hb := E.2.1
  unfold wX6_bitsOf at hf
  refine lv_iconst (v := 0) (pc := 0) hx hb dX6_bitsOf_0 rfl ?_
  refine lv_istore_n (lv' := [(2, .int 0), (0, .long p1)]) (pc := 1) hx hb dX6_bitsOf_1 rfl hl (by decide) rfl (fun ls hl => ?_)
  refine lv_lload_n (pc := 2) hx hb dX6_bitsOf_2 rfl (lv_at hl 1 rfl) ?_
  refine lv_lstore_n (lv' := [(3, .long p1), (2, .int 0), (0, .long p1)]) (pc := 3) hx hb dX6_bitsOf_3 rfl hl (by decide) rfl (fun ls hl => ?_)
  obtain ⟨n4, hf⟩ := hf
  exact bX6_bitsOf_4 hF E hr hlk n4 hf hI (lv_sub hl [1, 0] rfl)
theorem tX6_bitsOf {l : Launch} {D : va_G} {F : (Nat → Prop) → State → Prop} {σ : St} {ad : Nat → Nat → Nat} {cy : Nat → ClassId} {Rr : va_W} {Q : Int32 → St → Prop} {p1 : Int64} (hF : Stab F) (hf : wX6_bitsOf p1 σ Q) : CtI l yX6_bitsOf cX6_bitsOf 5 .int 0 (D, tysM cy, F) (LM ad cy Rr) [.long p1] σ Q := mkI (by decide) (Nat.le_of_ble_eq_true rfl) (fun p e s m below meth c A E hr hlk hI ls hl => bX6_bitsOf hF E hr hlk hf hI hl)

def wX6_mostOf (p1 : Int32) (σ : St) (Q : Int32 → St → Prop) : Prop := ((¬ p1 = 0 → ((p1 = 1 → Q 3 σ) ∧ (¬ p1 = 1 → ((¬ p1 = 5 → ((¬ p1 = 2 → ((¬ p1 = 4 → Q 99 σ) ∧ (p1 = 4 → Q 9 σ))) ∧ (p1 = 2 → Q 1 σ))) ∧ (p1 = 5 → Q 3 σ))))) ∧ (p1 = 0 → Q 999 σ))
set_option maxRecDepth 100000 in
set_option maxHeartbeats 4000000 in
theorem bX6_mostOf {p : Program} {l : Launch} {e : Env} {s : State} {m : MethodId} {args : Array Value} {below : List Frame} {meth : Method} {c : Code} {H : Heap} {locs : List Loc} {ls : Array Slot} {D : va_G} {F : (Nat → Prop) → State → Prop} {A : Nat → Prop} {σ : St} {ad : Nat → Nat → Nat} {cy : Nat → ClassId} {Rr : va_W} {Q : Int32 → St → Prop} {p1 : Int32} (hF : Stab F) (E : CallFix p m c cX6_mostOf 1 s args TB RX6) (hr : meth.sig.returnType = some .int) (hlk : meth.locks = false) (hf : wX6_mostOf p1 σ Q) (hI : In (D, tysM cy, F) (LM ad cy Rr σ) A s H locs) (hl : lv_has ls 1 [(0, .int p1)]) : W p l e (rmD 0) s m args below meth c H locs 0 0 (PI below args s (D, tysM cy, F) A (LM ad cy Rr) Q) (F0 m 0 ls []) := by
  have hx := E.1
  have hb := E.2.1
  unfold wX6_mostOf at hf
  refine lv_iload_n (pc := 0) hx hb dX6_mostOf_0 rfl (lv_at hl 0 rfl) ?_
  refine lv_if_ne (tgt := 10) (pc := 1) hx hb dX6_mostOf_1 (by decide) (fun c1 => ?_) (fun c1 => ?_)
  · have hf := hf.1 c1
    refine lv_iload_n (pc := 10) hx hb dX6_mostOf_10 rfl (lv_at hl 0 rfl) ?_
    refine lv_iconst (v := 1) (pc := 11) hx hb dX6_mostOf_11 rfl ?_
    refine lv_icmp_eq (tgt := 20) (pc := 12) hx hb dX6_mostOf_12 (by decide) (fun c2 => ?_) (fun c2 => ?_)
    · have hf := hf.1 c2
      refine lv_iconst (v := 3) (pc := 20) hx hb dX6_mostOf_20 rfl ?_
      refine lv_goto (tgt := 45) (pc := 21) hx hb dX6_mostOf_21 (by decide) ?_
      exact rI (pc := 45) E hr hlk hI hf dX6_mostOf_45
    · have hf := hf.2 c2
      refine lv_iload_n (pc := 15) hx hb dX6_mostOf_15 rfl (lv_at hl 0 rfl) ?_
      refine lv_iconst (v := 5) (pc := 16) hx hb dX6_mostOf_16 rfl ?_
      refine lv_icmp_ne (tgt := 24) (pc := 17) hx hb dX6_mostOf_17 (by decide) (fun c3 => ?_) (fun c3 => ?_)
      · have hf := hf.1 c3
        refine lv_iload_n (pc := 24) hx hb dX6_mostOf_24 rfl (lv_at hl 0 rfl) ?_
        refine lv_iconst (v := 2) (pc := 25) hx hb dX6_mostOf_25 rfl ?_
        refine lv_icmp_ne (tgt := 33) (pc := 26) hx hb dX6_mostOf_26 (by decide) (fun c4 => ?_) (fun c4 => ?_)
        · have hf := hf.1 c4
          refine lv_iload_n (pc := 33) hx hb dX6_mostOf_33 rfl (lv_at hl 0 rfl) ?_
          refine lv_iconst (v := 4) (pc := 34) hx hb dX6_mostOf_34 rfl ?_
          refine lv_icmp_ne (tgt := 43) (pc := 35) hx hb dX6_mostOf_35 (by decide) (fun c5 => ?_) (fun c5 => ?_)
          · have hf := hf.1 c5
            refine lv_bipush (v := 99) (pc := 43) hx hb dX6_mostOf_43 rfl ?_
            exact rI (pc := 45) E hr hlk hI hf dX6_mostOf_45
          · have hf := hf.2 c5
            refine lv_bipush (v := 9) (pc := 38) hx hb dX6_mostOf_38 rfl ?_
            refine lv_goto (tgt := 45) (pc := 40) hx hb dX6_mostOf_40 (by decide) ?_
            exact rI (pc := 45) E hr hlk hI hf dX6_mostOf_45
        · have hf := hf.2 c4
          refine lv_iconst (v := 1) (pc := 29) hx hb dX6_mostOf_29 rfl ?_
          refine lv_goto (tgt := 45) (pc := 30) hx hb dX6_mostOf_30 (by decide) ?_
          exact rI (pc := 45) E hr hlk hI hf dX6_mostOf_45
      · have hf := hf.2 c3
        refine lv_iconst (v := 3) (pc := 20) hx hb dX6_mostOf_20 rfl ?_
        refine lv_goto (tgt := 45) (pc := 21) hx hb dX6_mostOf_21 (by decide) ?_
        exact rI (pc := 45) E hr hlk hI hf dX6_mostOf_45
  · have hf := hf.2 c1
    refine lv_sipush (v := 999) (pc := 4) hx hb dX6_mostOf_4 rfl ?_
    refine lv_goto (tgt := 45) (pc := 7) hx hb dX6_mostOf_7 (by decide) ?_
    exact rI (pc := 45) E hr hlk hI hf dX6_mostOf_45
theorem tX6_mostOf {l : Launch} {D : va_G} {F : (Nat → Prop) → State → Prop} {σ : St} {ad : Nat → Nat → Nat} {cy : Nat → ClassId} {Rr : va_W} {Q : Int32 → St → Prop} {p1 : Int32} (hF : Stab F) (hf : wX6_mostOf p1 σ Q) : CtI l yX6_mostOf cX6_mostOf 1 .int 0 (D, tysM cy, F) (LM ad cy Rr) [.int p1] σ Q := mkI (by decide) (Nat.le_of_ble_eq_true rfl) (fun p e s m below meth c A E hr hlk hI ls hl => bX6_mostOf hF E hr hlk hf hI hl)

def wX6_lays (p1 : Int32) (p2 : Int32) (p3 : Int32) (σ : St) (Q : St → Prop) : Prop := ((¬ p1 = 0 → ((¬ p1 = 1 → ((¬ p1 = 2 → ((¬ p1 = 3 → ((9 ≤ p1 → ∀ σ6 : St, σ6 = sI σ 16 4 p3 → Q σ6) ∧ (¬ 9 ≤ p1 → vp_in (((5 * p2) + p1) - 4) 25 ∧ ∀ σ8 : St, σ8 = sA σ 16 11 (((5 * p2) + p1) - 4).toNatClampNeg p3 → Q σ8))) ∧ (p1 = 3 → vp_in p2 4 ∧ ∀ σ10 : St, σ10 = sA σ 16 10 p2.toNatClampNeg p3 → Q σ10))) ∧ (p1 = 2 → ∀ σ11 : St, σ11 = sJ σ 16 8 (((gJ σ 16 8) &&& ((lsh 1 p2) ^^^ (-1))) ||| (lsh (p3.toInt64) p2)) → Q σ11))) ∧ (p1 = 1 → vp_in p2 64 ∧ ∀ σ13 : St, σ13 = sA σ 16 9 p2.toNatClampNeg p3 → Q σ13))) ∧ (p1 = 0 → ∀ σ14 : St, σ14 = sI σ 16 7 p3 → Q σ14))
set_option maxRecDepth 100000 in
set_option maxHeartbeats 4000000 in
theorem bX6_lays {p : Program} {l : Launch} {e : Env} {s : State} {m : MethodId} {args : Array Value} {below : List Frame} {meth : Method} {c : Code} {H : Heap} {locs : List Loc} {ls : Array Slot} {D : va_G} {F : (Nat → Prop) → State → Prop} {A : Nat → Prop} {σ : St} {ad : Nat → Nat → Nat} {cy : Nat → ClassId} {Rr : va_W} {Q : St → Prop} {p1 : Int32} {p2 : Int32} {p3 : Int32} (hF : Stab F) (E : CallFix p m c cX6_lays 4 s args TB RX6) (hr : meth.sig.returnType = none) (hlk : meth.locks = false) (hf : wX6_lays p1 p2 p3 σ Q) (hI : In (D, tysM cy, F) (LM ad cy Rr σ) A s H locs) (hl : lv_has ls 4 [(0, .ref (ad 16 99)), (1, .int p1), (2, .int p2), (3, .int p3)]) : W p l e (rmD 0) s m args below meth c H locs 0 0 (PV below args s (D, tysM cy, F) A (LM ad cy Rr) Q) (F0 m 0 ls []) := by
  have hx := E.1
  have hb := E.2.1
  unfold wX6_lays at hf
  refine lv_iload_n (pc := 0) hx hb dX6_lays_0 rfl (lv_at hl 1 rfl) ?_
  refine lv_if_ne (tgt := 12) (pc := 1) hx hb dX6_lays_1 (by decide) (fun c1 => ?_) (fun c1 => ?_)
  · have hf := hf.1 c1
    refine lv_iload_n (pc := 12) hx hb dX6_lays_12 rfl (lv_at hl 1 rfl) ?_
    refine lv_iconst (v := 1) (pc := 13) hx hb dX6_lays_13 rfl ?_
    refine lv_icmp_ne (tgt := 27) (pc := 14) hx hb dX6_lays_14 (by decide) (fun c2 => ?_) (fun c2 => ?_)
    · have hf := hf.1 c2
      refine lv_iload_n (pc := 27) hx hb dX6_lays_27 rfl (lv_at hl 1 rfl) ?_
      refine lv_iconst (v := 2) (pc := 28) hx hb dX6_lays_28 rfl ?_
      refine lv_icmp_ne (tgt := 56) (pc := 29) hx hb dX6_lays_29 (by decide) (fun c3 => ?_) (fun c3 => ?_)
      · have hf := hf.1 c3
        refine lv_iload_n (pc := 56) hx hb dX6_lays_56 rfl (lv_at hl 1 rfl) ?_
        refine lv_iconst (v := 3) (pc := 57) hx hb dX6_lays_57 rfl ?_
        refine lv_icmp_ne (tgt := 71) (pc := 58) hx hb dX6_lays_58 (by decide) (fun c4 => ?_) (fun c4 => ?_)
        · have hf := hf.1 c4
          refine lv_iload_n (pc := 71) hx hb dX6_lays_71 rfl (lv_at hl 1 rfl) ?_
          refine lv_bipush (v := 9) (pc := 72) hx hb dX6_lays_72 rfl ?_
          refine lv_icmp_ge (tgt := 93) (pc := 74) hx hb dX6_lays_74 (by decide) (fun c5 => ?_) (fun c5 => ?_)
          · have hf := hf.1 c5
            refine lv_aload_n (pc := 93) hx hb dX6_lays_93 rfl (lv_at hl 0 rfl) ?_
            refine lv_iload_n (pc := 94) hx hb dX6_lays_94 rfl (lv_at hl 3 rfl) ?_
            refine p6_4 (pc := 95) E hI lkX6_115 dX6_lays_95 (fun H locs σ6 eσ6 hI => ?_)
            have hf := hf σ6 eσ6
            exact rV (pc := 98) E hr hlk hI hf dX6_lays_98
          · have hf := hf.2 c5
            refine lv_aload_n (pc := 77) hx hb dX6_lays_77 rfl (lv_at hl 0 rfl) ?_
            refine g6_11 (pc := 78) E hI lkX6_29 dX6_lays_78 ?_
            refine lv_iconst (v := 5) (pc := 81) hx hb dX6_lays_81 rfl ?_
            refine lv_iload_n (pc := 82) hx hb dX6_lays_82 rfl (lv_at hl 2 rfl) ?_
            refine lv_imul (pc := 83) hx hb dX6_lays_83 ?_
            refine lv_iload_n (pc := 84) hx hb dX6_lays_84 rfl (lv_at hl 1 rfl) ?_
            refine lv_iadd (pc := 85) hx hb dX6_lays_85 ?_
            refine lv_iconst (v := 4) (pc := 86) hx hb dX6_lays_86 rfl ?_
            refine lv_isub (pc := 87) hx hb dX6_lays_87 ?_
            refine lv_iload_n (pc := 88) hx hb dX6_lays_88 rfl (lv_at hl 3 rfl) ?_
            have g7 := hf.1
            have hf := hf.2
            refine s6_11 (pc := 89) E hI g7 dX6_lays_89 (fun H locs σ8 eσ8 hI => ?_)
            have hf := hf σ8 eσ8
            refine lv_goto (tgt := 98) (pc := 90) hx hb dX6_lays_90 (by decide) ?_
            exact rV (pc := 98) E hr hlk hI hf dX6_lays_98
        · have hf := hf.2 c4
          refine lv_aload_n (pc := 61) hx hb dX6_lays_61 rfl (lv_at hl 0 rfl) ?_
          refine g6_10 (pc := 62) E hI lkX6_26 dX6_lays_62 ?_
          refine lv_iload_n (pc := 65) hx hb dX6_lays_65 rfl (lv_at hl 2 rfl) ?_
          refine lv_iload_n (pc := 66) hx hb dX6_lays_66 rfl (lv_at hl 3 rfl) ?_
          have g9 := hf.1
          have hf := hf.2
          refine s6_10 (pc := 67) E hI g9 dX6_lays_67 (fun H locs σ10 eσ10 hI => ?_)
          have hf := hf σ10 eσ10
          refine lv_goto (tgt := 98) (pc := 68) hx hb dX6_lays_68 (by decide) ?_
          exact rV (pc := 98) E hr hlk hI hf dX6_lays_98
      · have hf := hf.2 c3
        refine lv_aload_n (pc := 32) hx hb dX6_lays_32 rfl (lv_at hl 0 rfl) ?_
        refine lv_aload_n (pc := 33) hx hb dX6_lays_33 rfl (lv_at hl 0 rfl) ?_
        refine g6_8 (pc := 34) E hI lkX6_109 dX6_lays_34 ?_
        refine lv_lconst (v := 1) (pc := 37) hx hb dX6_lays_37 rfl ?_
        refine lv_iload_n (pc := 38) hx hb dX6_lays_38 rfl (lv_at hl 2 rfl) ?_
        refine lv_lshl (v := (lsh 1 p2)) (pc := 39) hx hb dX6_lays_39 rfl ?_
        refine lv_ldc2 (pc := 40) E.1 E.2.1 E.2.2.2.1 (E.2.2.2.2 _ kcX6_113) dX6_lays_40 ?_
        refine lv_lxor (pc := 43) hx hb dX6_lays_43 ?_
        refine lv_land (pc := 44) hx hb dX6_lays_44 ?_
        refine lv_iload_n (pc := 45) hx hb dX6_lays_45 rfl (lv_at hl 3 rfl) ?_
        refine lv_i2l (v := (p3.toInt64)) (pc := 46) hx hb dX6_lays_46 rfl ?_
        refine lv_iload_n (pc := 47) hx hb dX6_lays_47 rfl (lv_at hl 2 rfl) ?_
        refine lv_lshl (v := (lsh (p3.toInt64) p2)) (pc := 48) hx hb dX6_lays_48 rfl ?_
        refine lv_lor (pc := 49) hx hb dX6_lays_49 ?_
        refine p6_8 (pc := 50) E hI lkX6_109 dX6_lays_50 (fun H locs σ11 eσ11 hI => ?_)
        have hf := hf σ11 eσ11
        refine lv_goto (tgt := 98) (pc := 53) hx hb dX6_lays_53 (by decide) ?_
        exact rV (pc := 98) E hr hlk hI hf dX6_lays_98
    · have hf := hf.2 c2
      refine lv_aload_n (pc := 17) hx hb dX6_lays_17 rfl (lv_at hl 0 rfl) ?_
      refine g6_9 (pc := 18) E hI lkX6_23 dX6_lays_18 ?_
      refine lv_iload_n (pc := 21) hx hb dX6_lays_21 rfl (lv_at hl 2 rfl) ?_
      refine lv_iload_n (pc := 22) hx hb dX6_lays_22 rfl (lv_at hl 3 rfl) ?_
      have g12 := hf.1
      have hf := hf.2
      refine s6_9 (pc := 23) E hI g12 dX6_lays_23 (fun H locs σ13 eσ13 hI => ?_)
      have hf := hf σ13 eσ13
      refine lv_goto (tgt := 98) (pc := 24) hx hb dX6_lays_24 (by decide) ?_
      exact rV (pc := 98) E hr hlk hI hf dX6_lays_98
  · have hf := hf.2 c1
    refine lv_aload_n (pc := 4) hx hb dX6_lays_4 rfl (lv_at hl 0 rfl) ?_
    refine lv_iload_n (pc := 5) hx hb dX6_lays_5 rfl (lv_at hl 3 rfl) ?_
    refine p6_7 (pc := 6) E hI lkX6_106 dX6_lays_6 (fun H locs σ14 eσ14 hI => ?_)
    have hf := hf σ14 eσ14
    refine lv_goto (tgt := 98) (pc := 9) hx hb dX6_lays_9 (by decide) ?_
    exact rV (pc := 98) E hr hlk hI hf dX6_lays_98
theorem tX6_lays {l : Launch} {D : va_G} {F : (Nat → Prop) → State → Prop} {σ : St} {ad : Nat → Nat → Nat} {cy : Nat → ClassId} {Rr : va_W} {Q : St → Prop} {p1 : Int32} {p2 : Int32} {p3 : Int32} (hF : Stab F) (hf : wX6_lays p1 p2 p3 σ Q) : CtV l yX6_lays cX6_lays 4 0 (D, tysM cy, F) (LM ad cy Rr) [.ref (ad 16 99), .int p1, .int p2, .int p3] σ Q := mkV (by decide) (Nat.le_of_ble_eq_true rfl) (fun p e s m below meth c A E hr hlk hI ls hl => bX6_lays hF E hr hlk hf hI hl)

def wX6_wanting_j32 (a1 : Int32) (a4 : Int32) (s0 : Int64) (s1 : Int64) (σ : St) (K : Int32 → Int64 → Int32 → St → Prop) (Q : Int64 → St → Prop) : Prop := ∀ x4 : Int64, x4 = (s0 ||| s1) → ∀ x5 : Int32, x5 = a4 + 1 → (K a1 x4 x5 σ)
set_option maxRecDepth 100000 in
set_option maxHeartbeats 4000000 in
theorem bX6_wanting_32 {p : Program} {l : Launch} {e : Env} {s : State} {m : MethodId} {args : Array Value} {below : List Frame} {meth : Method} {c : Code} {H : Heap} {locs : List Loc} {ls : Array Slot} {D : va_G} {F : (Nat → Prop) → State → Prop} {A : Nat → Prop} {σ : St} {ad : Nat → Nat → Nat} {cy : Nat → ClassId} {Rr : va_W} {Q : Int64 → St → Prop} {a1 : Int32} {a4 : Int32} {s0 : Int64} {s1 : Int64} {K : Int32 → Int64 → Int32 → St → Prop} (hF : Stab F) (E : CallFix p m c cX6_wanting 5 s args TB RX6) (hr : meth.sig.returnType = some .long) (hlk : meth.locks = false) (hK : ∀ (a1 : Int32) (a2 : Int64) (a4 : Int32) (σ : St) (H : Heap) (locs : List Loc) (ls : Array Slot), K a1 a2 a4 σ → In (D, tysM cy, F) (LM ad cy Rr σ) A s H locs → lv_has ls 5 [(0, .ref (ad 16 99)), (1, .int a1), (2, .long a2), (4, .int a4)] → W p l e (rmD 0) s m args below meth c H locs 0 0 (PJ below args s (D, tysM cy, F) A (LM ad cy Rr) Q) (F0 m 5 ls [])) (hf : wX6_wanting_j32 a1 a4 s0 s1 σ K Q) (hI : In (D, tysM cy, F) (LM ad cy Rr σ) A s H locs) (hl : lv_has ls 5 [(0, .ref (ad 16 99)), (1, .int a1), (4, .int a4)]) : W p l e (rmD 0) s m args below meth c H locs 0 0 (PJ below args s (D, tysM cy, F) A (LM ad cy Rr) Q) (F0 m 32 ls [.long s1, .long s0]) := by
  have hx := E.1
  have hb := E.2.1
  unfold wX6_wanting_j32 at hf
  refine lv_lor (pc := 32) hx hb dX6_wanting_32 ?_
  refine lv_topl (fun x4 ex4 => ?_)
  have hf := hf x4 ex4
  refine lv_lstore_n (lv' := [(2, .long x4), (0, .ref (ad 16 99)), (1, .int a1), (4, .int a4)]) (pc := 33) hx hb dX6_wanting_33 rfl hl (by decide) rfl (fun ls hl => ?_)
  obtain ⟨x5, ex5⟩ : ∃ y : Int32, y = a4 + 1 := ⟨_, rfl⟩
  have hf := hf x5 ex5
  refine lv_iinc (v := x5) (lv' := [(4, .int x5), (2, .long x4), (0, .ref (ad 16 99)), (1, .int a1)]) (pc := 34) hx hb dX6_wanting_34 hl (k := 3) rfl (by rw [ex5]; rfl) (by decide) rfl (fun ls hl => ?_)
  refine lv_goto (tgt := 5) (pc := 37) hx hb dX6_wanting_37 (by decide) ?_
  exact hK _ _ _ _ _ _ _ hf hI (lv_sub hl [2, 3, 1, 0] rfl)
def wX6_wanting_l5s (ih : Int32 → Int64 → Int32 → St → Prop) (a1 : Int32) (a2 : Int64) (a4 : Int32) (σ : St) (Q : Int64 → St → Prop) : Prop := ((64 ≤ a4 → Q a2 σ) ∧ (¬ 64 ≤ a4 → vp_in a4 64 ∧ ((¬ (gA σ 16 9 a4.toNatClampNeg) = a1 → (wX6_wanting_j32 a1 a4 a2 0 σ ih Q)) ∧ ((gA σ 16 9 a4.toNatClampNeg) = a1 → (wX6_wanting_j32 a1 a4 a2 (lsh 1 a4) σ ih Q)))))
def wX6_wanting_l5 (n : Nat) : Int32 → Int64 → Int32 → St → (Int64 → St → Prop) → Prop := @Nat.rec (fun _ => Int32 → Int64 → Int32 → St → (Int64 → St → Prop) → Prop) (fun _ _ _ _ _ => False) (fun _ ih a1 a2 a4 σ Q => wX6_wanting_l5s (fun a1 a2 a4 σ => ih a1 a2 a4 σ Q) a1 a2 a4 σ Q) n
set_option maxRecDepth 100000 in
set_option maxHeartbeats 4000000 in
theorem bX6_wanting_5 {p : Program} {l : Launch} {e : Env} {s : State} {m : MethodId} {args : Array Value} {below : List Frame} {meth : Method} {c : Code} {D : va_G} {F : (Nat → Prop) → State → Prop} {A : Nat → Prop} {ad : Nat → Nat → Nat} {cy : Nat → ClassId} {Rr : va_W} {Q : Int64 → St → Prop} (hF : Stab F) (E : CallFix p m c cX6_wanting 5 s args TB RX6) (hr : meth.sig.returnType = some .long) (hlk : meth.locks = false) : ∀ (n : Nat) {a1 : Int32} {a2 : Int64} {a4 : Int32} {σ : St} {H : Heap} {locs : List Loc} {ls : Array Slot}, wX6_wanting_l5 n a1 a2 a4 σ Q → In (D, tysM cy, F) (LM ad cy Rr σ) A s H locs → lv_has ls 5 [(0, .ref (ad 16 99)), (1, .int a1), (2, .long a2), (4, .int a4)] → W p l e (rmD 0) s m args below meth c H locs 0 0 (PJ below args s (D, tysM cy, F) A (LM ad cy Rr) Q) (F0 m 5 ls []) := by
  have hx := E.1
  have hb := E.2.1
  intro n
  induction n with
  | zero => intro a1 a2 a4 σ H locs ls hf hI hl; exact False.elim hf
  | succ n ih =>
    intro a1 a2 a4 σ H locs ls hf hI hl
    have hf : wX6_wanting_l5s (fun a1 a2 a4 σ => wX6_wanting_l5 n a1 a2 a4 σ Q) a1 a2 a4 σ Q := hf
    unfold wX6_wanting_l5s at hf
    refine lv_iload (pc := 5) hx hb dX6_wanting_5 (lv_at hl 3 rfl) ?_
    refine lv_bipush (v := 64) (pc := 7) hx hb dX6_wanting_7 rfl ?_
    refine lv_icmp_ge (tgt := 40) (pc := 9) hx hb dX6_wanting_9 (by decide) (fun c1 => ?_) (fun c1 => ?_)
    · have hf := hf.1 c1
      refine lv_lload_n (pc := 40) hx hb dX6_wanting_40 rfl (lv_at hl 2 rfl) ?_
      exact rJ (pc := 41) E hr hlk hI hf dX6_wanting_41
    · have hf := hf.2 c1
      refine lv_lload_n (pc := 12) hx hb dX6_wanting_12 rfl (lv_at hl 2 rfl) ?_
      refine lv_aload_n (pc := 13) hx hb dX6_wanting_13 rfl (lv_at hl 0 rfl) ?_
      refine g6_9 (pc := 14) E hI lkX6_23 dX6_wanting_14 ?_
      refine lv_iload (pc := 17) hx hb dX6_wanting_17 (lv_at hl 3 rfl) ?_
      have g2 := hf.1
      have hf := hf.2
      refine a6_9 (pc := 19) E hI g2 dX6_wanting_19 ?_
      refine lv_iload_n (pc := 20) hx hb dX6_wanting_20 rfl (lv_at hl 1 rfl) ?_
      refine lv_icmp_ne (tgt := 31) (pc := 21) hx hb dX6_wanting_21 (by decide) (fun c3 => ?_) (fun c3 => ?_)
      · have hf := hf.1 c3
        refine lv_lconst (v := 0) (pc := 31) hx hb dX6_wanting_31 rfl ?_
        exact bX6_wanting_32 hF E hr hlk (fun _ _ _ _ _ _ _ hf hI hl => ih hf hI hl) hf hI (lv_sub hl [0, 1, 3] rfl)
      · have hf := hf.2 c3
        refine lv_lconst (v := 1) (pc := 24) hx hb dX6_wanting_24 rfl ?_
        refine lv_iload (pc := 25) hx hb dX6_wanting_25 (lv_at hl 3 rfl) ?_
        refine lv_lshl (v := (lsh 1 a4)) (pc := 27) hx hb dX6_wanting_27 rfl ?_
        refine lv_goto (tgt := 32) (pc := 28) hx hb dX6_wanting_28 (by decide) ?_
        exact bX6_wanting_32 hF E hr hlk (fun _ _ _ _ _ _ _ hf hI hl => ih hf hI hl) hf hI (lv_sub hl [0, 1, 3] rfl)
def wX6_wanting (p1 : Int32) (σ : St) (Q : Int64 → St → Prop) : Prop := ∃ n6 : Nat, wX6_wanting_l5 n6 p1 0 0 σ Q
set_option maxRecDepth 100000 in
set_option maxHeartbeats 4000000 in
theorem bX6_wanting {p : Program} {l : Launch} {e : Env} {s : State} {m : MethodId} {args : Array Value} {below : List Frame} {meth : Method} {c : Code} {H : Heap} {locs : List Loc} {ls : Array Slot} {D : va_G} {F : (Nat → Prop) → State → Prop} {A : Nat → Prop} {σ : St} {ad : Nat → Nat → Nat} {cy : Nat → ClassId} {Rr : va_W} {Q : Int64 → St → Prop} {p1 : Int32} (hF : Stab F) (E : CallFix p m c cX6_wanting 5 s args TB RX6) (hr : meth.sig.returnType = some .long) (hlk : meth.locks = false) (hf : wX6_wanting p1 σ Q) (hI : In (D, tysM cy, F) (LM ad cy Rr σ) A s H locs) (hl : lv_has ls 5 [(0, .ref (ad 16 99)), (1, .int p1)]) : W p l e (rmD 0) s m args below meth c H locs 0 0 (PJ below args s (D, tysM cy, F) A (LM ad cy Rr) Q) (F0 m 0 ls []) := by
  have hx := E.1
  have hb := E.2.1
  unfold wX6_wanting at hf
  refine lv_lconst (v := 0) (pc := 0) hx hb dX6_wanting_0 rfl ?_
  refine lv_lstore_n (lv' := [(2, .long 0), (0, .ref (ad 16 99)), (1, .int p1)]) (pc := 1) hx hb dX6_wanting_1 rfl hl (by decide) rfl (fun ls hl => ?_)
  refine lv_iconst (v := 0) (pc := 2) hx hb dX6_wanting_2 rfl ?_
  refine lv_istore (lv' := [(4, .int 0), (2, .long 0), (0, .ref (ad 16 99)), (1, .int p1)]) (pc := 3) hx hb dX6_wanting_3 hl (by decide) rfl (fun ls hl => ?_)
  obtain ⟨n6, hf⟩ := hf
  exact bX6_wanting_5 hF E hr hlk n6 hf hI (lv_sub hl [2, 3, 1, 0] rfl)
theorem tX6_wanting {l : Launch} {D : va_G} {F : (Nat → Prop) → State → Prop} {σ : St} {ad : Nat → Nat → Nat} {cy : Nat → ClassId} {Rr : va_W} {Q : Int64 → St → Prop} {p1 : Int32} (hF : Stab F) (hf : wX6_wanting p1 σ Q) : CtJ l yX6_wanting cX6_wanting 5 0 (D, tysM cy, F) (LM ad cy Rr) [.ref (ad 16 99), .int p1] σ Q := mkJ (by decide) (Nat.le_of_ble_eq_true rfl) (fun p e s m below meth c A E hr hlk hI ls hl => bX6_wanting hF E hr hlk hf hI hl)

def wX6_byteAt (p1 : Int32) (σ : St) (Q : Int32 → St → Prop) : Prop := (((gI σ 16 21) ≤ p1 → Q (-1) σ) ∧ (¬ (gI σ 16 21) ≤ p1 → vp_in ((gI σ 16 20) + p1) 960 ∧ Q (gA σ 16 1 ((gI σ 16 20) + p1).toNatClampNeg) σ))
set_option maxRecDepth 100000 in
set_option maxHeartbeats 4000000 in
theorem bX6_byteAt {p : Program} {l : Launch} {e : Env} {s : State} {m : MethodId} {args : Array Value} {below : List Frame} {meth : Method} {c : Code} {H : Heap} {locs : List Loc} {ls : Array Slot} {D : va_G} {F : (Nat → Prop) → State → Prop} {A : Nat → Prop} {σ : St} {ad : Nat → Nat → Nat} {cy : Nat → ClassId} {Rr : va_W} {Q : Int32 → St → Prop} {p1 : Int32} (hF : Stab F) (E : CallFix p m c cX6_byteAt 2 s args TB RX6) (hr : meth.sig.returnType = some .int) (hlk : meth.locks = false) (hf : wX6_byteAt p1 σ Q) (hI : In (D, tysM cy, F) (LM ad cy Rr σ) A s H locs) (hl : lv_has ls 2 [(0, .ref (ad 16 99)), (1, .int p1)]) : W p l e (rmD 0) s m args below meth c H locs 0 0 (PI below args s (D, tysM cy, F) A (LM ad cy Rr) Q) (F0 m 0 ls []) := by
  have hx := E.1
  have hb := E.2.1
  unfold wX6_byteAt at hf
  refine lv_iload_n (pc := 0) hx hb dX6_byteAt_0 rfl (lv_at hl 1 rfl) ?_
  refine lv_aload_n (pc := 1) hx hb dX6_byteAt_1 rfl (lv_at hl 0 rfl) ?_
  refine g6_21 (pc := 2) E hI lkX6_150 dX6_byteAt_2 ?_
  refine lv_icmp_ge (tgt := 22) (pc := 5) hx hb dX6_byteAt_5 (by decide) (fun c1 => ?_) (fun c1 => ?_)
  · have hf := hf.1 c1
    refine lv_iconst (v := (-1)) (pc := 22) hx hb dX6_byteAt_22 rfl ?_
    exact rI (pc := 23) E hr hlk hI hf dX6_byteAt_23
  · have hf := hf.2 c1
    refine lv_aload_n (pc := 8) hx hb dX6_byteAt_8 rfl (lv_at hl 0 rfl) ?_
    refine g6_1 (pc := 9) E hI lkX6_13 dX6_byteAt_9 ?_
    refine lv_aload_n (pc := 12) hx hb dX6_byteAt_12 rfl (lv_at hl 0 rfl) ?_
    refine g6_20 (pc := 13) E hI lkX6_153 dX6_byteAt_13 ?_
    refine lv_iload_n (pc := 16) hx hb dX6_byteAt_16 rfl (lv_at hl 1 rfl) ?_
    refine lv_iadd (pc := 17) hx hb dX6_byteAt_17 ?_
    have g2 := hf.1
    have hf := hf.2
    refine a6_1 (pc := 18) E hI g2 dX6_byteAt_18 ?_
    refine lv_goto (tgt := 23) (pc := 19) hx hb dX6_byteAt_19 (by decide) ?_
    exact rI (pc := 23) E hr hlk hI hf dX6_byteAt_23
theorem tX6_byteAt {l : Launch} {D : va_G} {F : (Nat → Prop) → State → Prop} {σ : St} {ad : Nat → Nat → Nat} {cy : Nat → ClassId} {Rr : va_W} {Q : Int32 → St → Prop} {p1 : Int32} (hF : Stab F) (hf : wX6_byteAt p1 σ Q) : CtI l yX6_byteAt cX6_byteAt 2 .int 0 (D, tysM cy, F) (LM ad cy Rr) [.ref (ad 16 99), .int p1] σ Q := mkI (by decide) (Nat.le_of_ble_eq_true rfl) (fun p e s m below meth c A E hr hlk hI ls hl => bX6_byteAt hF E hr hlk hf hI hl)

def wX6_fail (σ : St) (Q : St → Prop) : Prop := ((¬ (gI σ 16 27) = 0 → Q σ) ∧ ((gI σ 16 27) = 0 → ∀ σ2 : St, σ2 = sI σ 16 27 1 → ∀ σ3 : St, σ3 = sI σ2 16 28 (gI σ2 16 24) → Q σ3))
set_option maxRecDepth 100000 in
set_option maxHeartbeats 4000000 in
theorem bX6_fail {p : Program} {l : Launch} {e : Env} {s : State} {m : MethodId} {args : Array Value} {below : List Frame} {meth : Method} {c : Code} {H : Heap} {locs : List Loc} {ls : Array Slot} {D : va_G} {F : (Nat → Prop) → State → Prop} {A : Nat → Prop} {σ : St} {ad : Nat → Nat → Nat} {cy : Nat → ClassId} {Rr : va_W} {Q : St → Prop} (hF : Stab F) (E : CallFix p m c cX6_fail 1 s args TB RX6) (hr : meth.sig.returnType = none) (hlk : meth.locks = false) (hf : wX6_fail σ Q) (hI : In (D, tysM cy, F) (LM ad cy Rr σ) A s H locs) (hl : lv_has ls 1 [(0, .ref (ad 16 99))]) : W p l e (rmD 0) s m args below meth c H locs 0 0 (PV below args s (D, tysM cy, F) A (LM ad cy Rr) Q) (F0 m 0 ls []) := by
  have hx := E.1
  have hb := E.2.1
  unfold wX6_fail at hf
  refine lv_aload_n (pc := 0) hx hb dX6_fail_0 rfl (lv_at hl 0 rfl) ?_
  refine g6_27 (pc := 1) E hI lkX6_181 dX6_fail_1 ?_
  refine lv_if_ne (tgt := 20) (pc := 4) hx hb dX6_fail_4 (by decide) (fun c1 => ?_) (fun c1 => ?_)
  · have hf := hf.1 c1
    exact rV (pc := 20) E hr hlk hI hf dX6_fail_20
  · have hf := hf.2 c1
    refine lv_aload_n (pc := 7) hx hb dX6_fail_7 rfl (lv_at hl 0 rfl) ?_
    refine lv_iconst (v := 1) (pc := 8) hx hb dX6_fail_8 rfl ?_
    refine p6_27 (pc := 9) E hI lkX6_181 (Or.inr rfl) dX6_fail_9 (fun H locs σ2 eσ2 hI => ?_)
    have hf := hf σ2 eσ2
    refine lv_aload_n (pc := 12) hx hb dX6_fail_12 rfl (lv_at hl 0 rfl) ?_
    refine lv_aload_n (pc := 13) hx hb dX6_fail_13 rfl (lv_at hl 0 rfl) ?_
    refine g6_24 (pc := 14) E hI lkX6_162 dX6_fail_14 ?_
    refine p6_28 (pc := 17) E hI lkX6_185 dX6_fail_17 (fun H locs σ3 eσ3 hI => ?_)
    have hf := hf σ3 eσ3
    exact rV (pc := 20) E hr hlk hI hf dX6_fail_20
theorem tX6_fail {l : Launch} {D : va_G} {F : (Nat → Prop) → State → Prop} {σ : St} {ad : Nat → Nat → Nat} {cy : Nat → ClassId} {Rr : va_W} {Q : St → Prop} (hF : Stab F) (hf : wX6_fail σ Q) : CtV l yX6_fail cX6_fail 1 0 (D, tysM cy, F) (LM ad cy Rr) [.ref (ad 16 99)] σ Q := mkV (by decide) (Nat.le_of_ble_eq_true rfl) (fun p e s m below meth c A E hr hlk hI ls hl => bX6_fail hF E hr hlk hf hI hl)

def wX6_isSign (p1 : Int32) (σ : St) (Q : Int32 → St → Prop) : Prop := ((¬ (gI σ 16 27) = 0 → Q 0 σ) ∧ ((gI σ 16 27) = 0 → ((¬ (gI σ 16 23) = 3 → Q 0 σ) ∧ ((gI σ 16 23) = 3 → ((¬ (lg_cmp (gJ σ 16 25) (p1.toInt64)) = 0 → Q 0 σ) ∧ ((lg_cmp (gJ σ 16 25) (p1.toInt64)) = 0 → Q 1 σ))))))
set_option maxRecDepth 100000 in
set_option maxHeartbeats 4000000 in
theorem bX6_isSign {p : Program} {l : Launch} {e : Env} {s : State} {m : MethodId} {args : Array Value} {below : List Frame} {meth : Method} {c : Code} {H : Heap} {locs : List Loc} {ls : Array Slot} {D : va_G} {F : (Nat → Prop) → State → Prop} {A : Nat → Prop} {σ : St} {ad : Nat → Nat → Nat} {cy : Nat → ClassId} {Rr : va_W} {Q : Int32 → St → Prop} {p1 : Int32} (hF : Stab F) (E : CallFix p m c cX6_isSign 2 s args TB RX6) (hr : meth.sig.returnType = some .boolean) (hlk : meth.locks = false) (hf : wX6_isSign p1 σ Q) (hI : In (D, tysM cy, F) (LM ad cy Rr σ) A s H locs) (hl : lv_has ls 2 [(0, .ref (ad 16 99)), (1, .int p1)]) : W p l e (rmD 0) s m args below meth c H locs 0 0 (PI below args s (D, tysM cy, F) A (LM ad cy Rr) Q) (F0 m 0 ls []) := by
  have hx := E.1
  have hb := E.2.1
  unfold wX6_isSign at hf
  refine lv_aload_n (pc := 0) hx hb dX6_isSign_0 rfl (lv_at hl 0 rfl) ?_
  refine g6_27 (pc := 1) E hI lkX6_181 dX6_isSign_1 ?_
  refine lv_if_ne (tgt := 29) (pc := 4) hx hb dX6_isSign_4 (by decide) (fun c1 => ?_) (fun c1 => ?_)
  · have hf := hf.1 c1
    refine lv_iconst (v := 0) (pc := 29) hx hb dX6_isSign_29 rfl ?_
    exact rZ (pc := 30) E hr hlk hI (Or.inl rfl) hf dX6_isSign_30
  · have hf := hf.2 c1
    refine lv_aload_n (pc := 7) hx hb dX6_isSign_7 rfl (lv_at hl 0 rfl) ?_
    refine g6_23 (pc := 8) E hI lkX6_165 dX6_isSign_8 ?_
    refine lv_iconst (v := 3) (pc := 11) hx hb dX6_isSign_11 rfl ?_
    refine lv_icmp_ne (tgt := 29) (pc := 12) hx hb dX6_isSign_12 (by decide) (fun c2 => ?_) (fun c2 => ?_)
    · have hf := hf.1 c2
      refine lv_iconst (v := 0) (pc := 29) hx hb dX6_isSign_29 rfl ?_
      exact rZ (pc := 30) E hr hlk hI (Or.inl rfl) hf dX6_isSign_30
    · have hf := hf.2 c2
      refine lv_aload_n (pc := 15) hx hb dX6_isSign_15 rfl (lv_at hl 0 rfl) ?_
      refine g6_25 (pc := 16) E hI lkX6_176 dX6_isSign_16 ?_
      refine lv_iload_n (pc := 19) hx hb dX6_isSign_19 rfl (lv_at hl 1 rfl) ?_
      refine lv_i2l (v := (p1.toInt64)) (pc := 20) hx hb dX6_isSign_20 rfl ?_
      refine W.lcmp (pc := 21) hx hb dX6_isSign_21 ?_
      refine lv_if_ne (tgt := 29) (pc := 22) hx hb dX6_isSign_22 (by decide) (fun c3 => ?_) (fun c3 => ?_)
      · have hf := hf.1 c3
        refine lv_iconst (v := 0) (pc := 29) hx hb dX6_isSign_29 rfl ?_
        exact rZ (pc := 30) E hr hlk hI (Or.inl rfl) hf dX6_isSign_30
      · have hf := hf.2 c3
        refine lv_iconst (v := 1) (pc := 25) hx hb dX6_isSign_25 rfl ?_
        refine lv_goto (tgt := 30) (pc := 26) hx hb dX6_isSign_26 (by decide) ?_
        exact rZ (pc := 30) E hr hlk hI (Or.inr rfl) hf dX6_isSign_30
theorem tX6_isSign {l : Launch} {D : va_G} {F : (Nat → Prop) → State → Prop} {σ : St} {ad : Nat → Nat → Nat} {cy : Nat → ClassId} {Rr : va_W} {Q : Int32 → St → Prop} {p1 : Int32} (hF : Stab F) (hf : wX6_isSign p1 σ Q) : CtI l yX6_isSign cX6_isSign 2 .boolean 0 (D, tysM cy, F) (LM ad cy Rr) [.ref (ad 16 99), .int p1] σ Q := mkI (by decide) (Nat.le_of_ble_eq_true rfl) (fun p e s m below meth c A E hr hlk hI ls hl => bX6_isSign hF E hr hlk hf hI hl)

def wX6_boxAll (σ : St) (Q : Int32 → St → Prop) : Prop := Q ((((gA σ 16 10 (0 : Int32).toNatClampNeg) + (gA σ 16 10 (1 : Int32).toNatClampNeg)) + (gA σ 16 10 (2 : Int32).toNatClampNeg)) + (gA σ 16 10 (3 : Int32).toNatClampNeg)) σ
set_option maxRecDepth 100000 in
set_option maxHeartbeats 4000000 in
theorem bX6_boxAll {p : Program} {l : Launch} {e : Env} {s : State} {m : MethodId} {args : Array Value} {below : List Frame} {meth : Method} {c : Code} {H : Heap} {locs : List Loc} {ls : Array Slot} {D : va_G} {F : (Nat → Prop) → State → Prop} {A : Nat → Prop} {σ : St} {ad : Nat → Nat → Nat} {cy : Nat → ClassId} {Rr : va_W} {Q : Int32 → St → Prop} (hF : Stab F) (E : CallFix p m c cX6_boxAll 1 s args TB RX6) (hr : meth.sig.returnType = some .int) (hlk : meth.locks = false) (hf : wX6_boxAll σ Q) (hI : In (D, tysM cy, F) (LM ad cy Rr σ) A s H locs) (hl : lv_has ls 1 [(0, .ref (ad 16 99))]) : W p l e (rmD 0) s m args below meth c H locs 0 0 (PI below args s (D, tysM cy, F) A (LM ad cy Rr) Q) (F0 m 0 ls []) := by
  have hx := E.1
  have hb := E.2.1
  unfold wX6_boxAll at hf
  refine lv_aload_n (pc := 0) hx hb dX6_boxAll_0 rfl (lv_at hl 0 rfl) ?_
  refine g6_10 (pc := 1) E hI lkX6_26 dX6_boxAll_1 ?_
  refine lv_iconst (v := 0) (pc := 4) hx hb dX6_boxAll_4 rfl ?_
  refine a6_10 (pc := 5) E hI (by unfold vp_in; decide) dX6_boxAll_5 ?_
  refine lv_aload_n (pc := 6) hx hb dX6_boxAll_6 rfl (lv_at hl 0 rfl) ?_
  refine g6_10 (pc := 7) E hI lkX6_26 dX6_boxAll_7 ?_
  refine lv_iconst (v := 1) (pc := 10) hx hb dX6_boxAll_10 rfl ?_
  refine a6_10 (pc := 11) E hI (by unfold vp_in; decide) dX6_boxAll_11 ?_
  refine lv_iadd (pc := 12) hx hb dX6_boxAll_12 ?_
  refine lv_aload_n (pc := 13) hx hb dX6_boxAll_13 rfl (lv_at hl 0 rfl) ?_
  refine g6_10 (pc := 14) E hI lkX6_26 dX6_boxAll_14 ?_
  refine lv_iconst (v := 2) (pc := 17) hx hb dX6_boxAll_17 rfl ?_
  refine a6_10 (pc := 18) E hI (by unfold vp_in; decide) dX6_boxAll_18 ?_
  refine lv_iadd (pc := 19) hx hb dX6_boxAll_19 ?_
  refine lv_aload_n (pc := 20) hx hb dX6_boxAll_20 rfl (lv_at hl 0 rfl) ?_
  refine g6_10 (pc := 21) E hI lkX6_26 dX6_boxAll_21 ?_
  refine lv_iconst (v := 3) (pc := 24) hx hb dX6_boxAll_24 rfl ?_
  refine a6_10 (pc := 25) E hI (by unfold vp_in; decide) dX6_boxAll_25 ?_
  refine lv_iadd (pc := 26) hx hb dX6_boxAll_26 ?_
  exact rI (pc := 27) E hr hlk hI hf dX6_boxAll_27
theorem tX6_boxAll {l : Launch} {D : va_G} {F : (Nat → Prop) → State → Prop} {σ : St} {ad : Nat → Nat → Nat} {cy : Nat → ClassId} {Rr : va_W} {Q : Int32 → St → Prop} (hF : Stab F) (hf : wX6_boxAll σ Q) : CtI l yX6_boxAll cX6_boxAll 1 .int 0 (D, tysM cy, F) (LM ad cy Rr) [.ref (ad 16 99)] σ Q := mkI (by decide) (Nat.le_of_ble_eq_true rfl) (fun p e s m below meth c A E hr hlk hI ls hl => bX6_boxAll hF E hr hlk hf hI hl)

def wX6_round (p1 : Int32) (σ : St) (Q : Int32 → St → Prop) : Prop := ((0 ≤ (irm p1 4) → Q (irm p1 4) σ) ∧ (¬ 0 ≤ (irm p1 4) → Q ((irm p1 4) + 4) σ))
set_option maxRecDepth 100000 in
set_option maxHeartbeats 4000000 in
theorem bX6_round {p : Program} {l : Launch} {e : Env} {s : State} {m : MethodId} {args : Array Value} {below : List Frame} {meth : Method} {c : Code} {H : Heap} {locs : List Loc} {ls : Array Slot} {D : va_G} {F : (Nat → Prop) → State → Prop} {A : Nat → Prop} {σ : St} {ad : Nat → Nat → Nat} {cy : Nat → ClassId} {Rr : va_W} {Q : Int32 → St → Prop} {p1 : Int32} (hF : Stab F) (E : CallFix p m c cX6_round 1 s args TB RX6) (hr : meth.sig.returnType = some .int) (hlk : meth.locks = false) (hf : wX6_round p1 σ Q) (hI : In (D, tysM cy, F) (LM ad cy Rr σ) A s H locs) (hl : lv_has ls 1 [(0, .int p1)]) : W p l e (rmD 0) s m args below meth c H locs 0 0 (PI below args s (D, tysM cy, F) A (LM ad cy Rr) Q) (F0 m 0 ls []) := by
  have hx := E.1
  have hb := E.2.1
  unfold wX6_round at hf
  refine lv_iload_n (pc := 0) hx hb dX6_round_0 rfl (lv_at hl 0 rfl) ?_
  refine lv_iconst (v := 4) (pc := 1) hx hb dX6_round_1 rfl ?_
  refine lv_irem1 (pc := 2) hx hb dX6_round_2 (by decide) ?_
  refine lv_if_ge (tgt := 14) (pc := 3) hx hb dX6_round_3 (by decide) (fun c1 => ?_) (fun c1 => ?_)
  · have hf := hf.1 c1
    refine lv_iload_n (pc := 14) hx hb dX6_round_14 rfl (lv_at hl 0 rfl) ?_
    refine lv_iconst (v := 4) (pc := 15) hx hb dX6_round_15 rfl ?_
    refine lv_irem1 (pc := 16) hx hb dX6_round_16 (by decide) ?_
    exact rI (pc := 17) E hr hlk hI hf dX6_round_17
  · have hf := hf.2 c1
    refine lv_iload_n (pc := 6) hx hb dX6_round_6 rfl (lv_at hl 0 rfl) ?_
    refine lv_iconst (v := 4) (pc := 7) hx hb dX6_round_7 rfl ?_
    refine lv_irem1 (pc := 8) hx hb dX6_round_8 (by decide) ?_
    refine lv_iconst (v := 4) (pc := 9) hx hb dX6_round_9 rfl ?_
    refine lv_iadd (pc := 10) hx hb dX6_round_10 ?_
    refine lv_goto (tgt := 17) (pc := 11) hx hb dX6_round_11 (by decide) ?_
    exact rI (pc := 17) E hr hlk hI hf dX6_round_17
theorem tX6_round {l : Launch} {D : va_G} {F : (Nat → Prop) → State → Prop} {σ : St} {ad : Nat → Nat → Nat} {cy : Nat → ClassId} {Rr : va_W} {Q : Int32 → St → Prop} {p1 : Int32} (hF : Stab F) (hf : wX6_round p1 σ Q) : CtI l yX6_round cX6_round 1 .int 0 (D, tysM cy, F) (LM ad cy Rr) [.int p1] σ Q := mkI (by decide) (Nat.le_of_ble_eq_true rfl) (fun p e s m below meth c A E hr hlk hI ls hl => bX6_round hF E hr hlk hf hI hl)

def wX6_laysAside_l28s (ih : Int32 → St → Prop) (a1 : Int32) (σ : St) (Q : St → Prop) : Prop := ((4 ≤ a1 → ∀ σ3 : St, σ3 = sA σ 16 29 (29 : Int32).toNatClampNeg (gI σ 16 7) → ∀ σ4 : St, σ4 = sJ σ3 16 30 (gJ σ3 16 8) → Q σ4) ∧ (¬ 4 ≤ a1 → vp_in a1 4 ∧ vp_in (25 + a1) 30 ∧ ∀ σ7 : St, σ7 = sA σ 16 29 (25 + a1).toNatClampNeg (gA σ 16 10 a1.toNatClampNeg) → ∀ x8 : Int32, x8 = a1 + 1 → (ih x8 σ7)))
def wX6_laysAside_l28 (n : Nat) : Int32 → St → (St → Prop) → Prop := @Nat.rec (fun _ => Int32 → St → (St → Prop) → Prop) (fun _ _ _ => False) (fun _ ih a1 σ Q => wX6_laysAside_l28s (fun a1 σ => ih a1 σ Q) a1 σ Q) n
set_option maxRecDepth 100000 in
set_option maxHeartbeats 4000000 in
theorem bX6_laysAside_28 {p : Program} {l : Launch} {e : Env} {s : State} {m : MethodId} {args : Array Value} {below : List Frame} {meth : Method} {c : Code} {D : va_G} {F : (Nat → Prop) → State → Prop} {A : Nat → Prop} {ad : Nat → Nat → Nat} {cy : Nat → ClassId} {Rr : va_W} {Q : St → Prop} (hF : Stab F) (E : CallFix p m c cX6_laysAside 2 s args TB RX6) (hr : meth.sig.returnType = none) (hlk : meth.locks = false) : ∀ (n : Nat) {a1 : Int32} {σ : St} {H : Heap} {locs : List Loc} {ls : Array Slot}, wX6_laysAside_l28 n a1 σ Q → In (D, tysM cy, F) (LM ad cy Rr σ) A s H locs → lv_has ls 2 [(0, .ref (ad 16 99)), (1, .int a1)] → W p l e (rmD 0) s m args below meth c H locs 0 0 (PV below args s (D, tysM cy, F) A (LM ad cy Rr) Q) (F0 m 28 ls []) := by
  have hx := E.1
  have hb := E.2.1
  intro n
  induction n with
  | zero => intro a1 σ H locs ls hf hI hl; exact False.elim hf
  | succ n ih =>
    intro a1 σ H locs ls hf hI hl
    have hf : wX6_laysAside_l28s (fun a1 σ => wX6_laysAside_l28 n a1 σ Q) a1 σ Q := hf
    unfold wX6_laysAside_l28s at hf
    refine lv_iload_n (pc := 28) hx hb dX6_laysAside_28 rfl (lv_at hl 1 rfl) ?_
    refine lv_iconst (v := 4) (pc := 29) hx hb dX6_laysAside_29 rfl ?_
    refine lv_icmp_ge (tgt := 54) (pc := 30) hx hb dX6_laysAside_30 (by decide) (fun c2 => ?_) (fun c2 => ?_)
    · have hf := hf.1 c2
      refine lv_aload_n (pc := 54) hx hb dX6_laysAside_54 rfl (lv_at hl 0 rfl) ?_
      refine g6_29 (pc := 55) E hI lkX6_35 dX6_laysAside_55 ?_
      refine lv_bipush (v := 29) (pc := 58) hx hb dX6_laysAside_58 rfl ?_
      refine lv_aload_n (pc := 60) hx hb dX6_laysAside_60 rfl (lv_at hl 0 rfl) ?_
      refine g6_7 (pc := 61) E hI lkX6_106 dX6_laysAside_61 ?_
      refine s6_29 (pc := 64) E hI (by unfold vp_in; decide) dX6_laysAside_64 (fun H locs σ3 eσ3 hI => ?_)
      have hf := hf σ3 eσ3
      refine lv_aload_n (pc := 65) hx hb dX6_laysAside_65 rfl (lv_at hl 0 rfl) ?_
      refine lv_aload_n (pc := 66) hx hb dX6_laysAside_66 rfl (lv_at hl 0 rfl) ?_
      refine g6_8 (pc := 67) E hI lkX6_109 dX6_laysAside_67 ?_
      refine p6_30 (pc := 70) E hI lkX6_382 dX6_laysAside_70 (fun H locs σ4 eσ4 hI => ?_)
      have hf := hf σ4 eσ4
      exact rV (pc := 73) E hr hlk hI hf dX6_laysAside_73
    · have hf := hf.2 c2
      refine lv_aload_n (pc := 33) hx hb dX6_laysAside_33 rfl (lv_at hl 0 rfl) ?_
      refine g6_29 (pc := 34) E hI lkX6_35 dX6_laysAside_34 ?_
      refine lv_bipush (v := 25) (pc := 37) hx hb dX6_laysAside_37 rfl ?_
      refine lv_iload_n (pc := 39) hx hb dX6_laysAside_39 rfl (lv_at hl 1 rfl) ?_
      refine lv_iadd (pc := 40) hx hb dX6_laysAside_40 ?_
      refine lv_aload_n (pc := 41) hx hb dX6_laysAside_41 rfl (lv_at hl 0 rfl) ?_
      refine g6_10 (pc := 42) E hI lkX6_26 dX6_laysAside_42 ?_
      refine lv_iload_n (pc := 45) hx hb dX6_laysAside_45 rfl (lv_at hl 1 rfl) ?_
      have g5 := hf.1
      have hf := hf.2
      refine a6_10 (pc := 46) E hI g5 dX6_laysAside_46 ?_
      have g6 := hf.1
      have hf := hf.2
      refine s6_29 (pc := 47) E hI g6 dX6_laysAside_47 (fun H locs σ7 eσ7 hI => ?_)
      have hf := hf σ7 eσ7
      obtain ⟨x8, ex8⟩ : ∃ y : Int32, y = a1 + 1 := ⟨_, rfl⟩
      have hf := hf x8 ex8
      refine lv_iinc (v := x8) (lv' := [(1, .int x8), (0, .ref (ad 16 99))]) (pc := 48) hx hb dX6_laysAside_48 hl (k := 1) rfl (by rw [ex8]; rfl) (by decide) rfl (fun ls hl => ?_)
      refine lv_goto (tgt := 28) (pc := 51) hx hb dX6_laysAside_51 (by decide) ?_
      exact ih hf hI (lv_sub hl [1, 0] rfl)
def wX6_laysAside_l2s (ih : Int32 → St → Prop) (a1 : Int32) (σ : St) (Q : St → Prop) : Prop := ((25 ≤ a1 → ∃ n9 : Nat, wX6_laysAside_l28 n9 0 σ Q) ∧ (¬ 25 ≤ a1 → vp_in a1 25 ∧ vp_in a1 30 ∧ ∀ σ12 : St, σ12 = sA σ 16 29 a1.toNatClampNeg (gA σ 16 11 a1.toNatClampNeg) → ∀ x13 : Int32, x13 = a1 + 1 → (ih x13 σ12)))
def wX6_laysAside_l2 (n : Nat) : Int32 → St → (St → Prop) → Prop := @Nat.rec (fun _ => Int32 → St → (St → Prop) → Prop) (fun _ _ _ => False) (fun _ ih a1 σ Q => wX6_laysAside_l2s (fun a1 σ => ih a1 σ Q) a1 σ Q) n
set_option maxRecDepth 100000 in
set_option maxHeartbeats 4000000 in
theorem bX6_laysAside_2 {p : Program} {l : Launch} {e : Env} {s : State} {m : MethodId} {args : Array Value} {below : List Frame} {meth : Method} {c : Code} {D : va_G} {F : (Nat → Prop) → State → Prop} {A : Nat → Prop} {ad : Nat → Nat → Nat} {cy : Nat → ClassId} {Rr : va_W} {Q : St → Prop} (hF : Stab F) (E : CallFix p m c cX6_laysAside 2 s args TB RX6) (hr : meth.sig.returnType = none) (hlk : meth.locks = false) : ∀ (n : Nat) {a1 : Int32} {σ : St} {H : Heap} {locs : List Loc} {ls : Array Slot}, wX6_laysAside_l2 n a1 σ Q → In (D, tysM cy, F) (LM ad cy Rr σ) A s H locs → lv_has ls 2 [(0, .ref (ad 16 99)), (1, .int a1)] → W p l e (rmD 0) s m args below meth c H locs 0 0 (PV below args s (D, tysM cy, F) A (LM ad cy Rr) Q) (F0 m 2 ls []) := by
  have hx := E.1
  have hb := E.2.1
  intro n
  induction n with
  | zero => intro a1 σ H locs ls hf hI hl; exact False.elim hf
  | succ n ih =>
    intro a1 σ H locs ls hf hI hl
    have hf : wX6_laysAside_l2s (fun a1 σ => wX6_laysAside_l2 n a1 σ Q) a1 σ Q := hf
    unfold wX6_laysAside_l2s at hf
    refine lv_iload_n (pc := 2) hx hb dX6_laysAside_2 rfl (lv_at hl 1 rfl) ?_
    refine lv_bipush (v := 25) (pc := 3) hx hb dX6_laysAside_3 rfl ?_
    refine lv_icmp_ge (tgt := 26) (pc := 5) hx hb dX6_laysAside_5 (by decide) (fun c1 => ?_) (fun c1 => ?_)
    · have hf := hf.1 c1
      refine lv_iconst (v := 0) (pc := 26) hx hb dX6_laysAside_26 rfl ?_
      refine lv_istore_n (lv' := [(1, .int 0), (0, .ref (ad 16 99))]) (pc := 27) hx hb dX6_laysAside_27 rfl hl (by decide) rfl (fun ls hl => ?_)
      obtain ⟨n9, hf⟩ := hf
      exact bX6_laysAside_28 hF E hr hlk n9 hf hI (lv_sub hl [1, 0] rfl)
    · have hf := hf.2 c1
      refine lv_aload_n (pc := 8) hx hb dX6_laysAside_8 rfl (lv_at hl 0 rfl) ?_
      refine g6_29 (pc := 9) E hI lkX6_35 dX6_laysAside_9 ?_
      refine lv_iload_n (pc := 12) hx hb dX6_laysAside_12 rfl (lv_at hl 1 rfl) ?_
      refine lv_aload_n (pc := 13) hx hb dX6_laysAside_13 rfl (lv_at hl 0 rfl) ?_
      refine g6_11 (pc := 14) E hI lkX6_29 dX6_laysAside_14 ?_
      refine lv_iload_n (pc := 17) hx hb dX6_laysAside_17 rfl (lv_at hl 1 rfl) ?_
      have g10 := hf.1
      have hf := hf.2
      refine a6_11 (pc := 18) E hI g10 dX6_laysAside_18 ?_
      have g11 := hf.1
      have hf := hf.2
      refine s6_29 (pc := 19) E hI g11 dX6_laysAside_19 (fun H locs σ12 eσ12 hI => ?_)
      have hf := hf σ12 eσ12
      obtain ⟨x13, ex13⟩ : ∃ y : Int32, y = a1 + 1 := ⟨_, rfl⟩
      have hf := hf x13 ex13
      refine lv_iinc (v := x13) (lv' := [(1, .int x13), (0, .ref (ad 16 99))]) (pc := 20) hx hb dX6_laysAside_20 hl (k := 1) rfl (by rw [ex13]; rfl) (by decide) rfl (fun ls hl => ?_)
      refine lv_goto (tgt := 2) (pc := 23) hx hb dX6_laysAside_23 (by decide) ?_
      exact ih hf hI (lv_sub hl [1, 0] rfl)
def wX6_laysAside (σ : St) (Q : St → Prop) : Prop := ∃ n14 : Nat, wX6_laysAside_l2 n14 0 σ Q
set_option maxRecDepth 100000 in
set_option maxHeartbeats 4000000 in
theorem bX6_laysAside {p : Program} {l : Launch} {e : Env} {s : State} {m : MethodId} {args : Array Value} {below : List Frame} {meth : Method} {c : Code} {H : Heap} {locs : List Loc} {ls : Array Slot} {D : va_G} {F : (Nat → Prop) → State → Prop} {A : Nat → Prop} {σ : St} {ad : Nat → Nat → Nat} {cy : Nat → ClassId} {Rr : va_W} {Q : St → Prop} (hF : Stab F) (E : CallFix p m c cX6_laysAside 2 s args TB RX6) (hr : meth.sig.returnType = none) (hlk : meth.locks = false) (hf : wX6_laysAside σ Q) (hI : In (D, tysM cy, F) (LM ad cy Rr σ) A s H locs) (hl : lv_has ls 2 [(0, .ref (ad 16 99))]) : W p l e (rmD 0) s m args below meth c H locs 0 0 (PV below args s (D, tysM cy, F) A (LM ad cy Rr) Q) (F0 m 0 ls []) := by
  have hx := E.1
  have hb := E.2.1
  unfold wX6_laysAside at hf
  refine lv_iconst (v := 0) (pc := 0) hx hb dX6_laysAside_0 rfl ?_
  refine lv_istore_n (lv' := [(1, .int 0), (0, .ref (ad 16 99))]) (pc := 1) hx hb dX6_laysAside_1 rfl hl (by decide) rfl (fun ls hl => ?_)
  obtain ⟨n14, hf⟩ := hf
  exact bX6_laysAside_2 hF E hr hlk n14 hf hI (lv_sub hl [1, 0] rfl)
theorem tX6_laysAside {l : Launch} {D : va_G} {F : (Nat → Prop) → State → Prop} {σ : St} {ad : Nat → Nat → Nat} {cy : Nat → ClassId} {Rr : va_W} {Q : St → Prop} (hF : Stab F) (hf : wX6_laysAside σ Q) : CtV l yX6_laysAside cX6_laysAside 2 0 (D, tysM cy, F) (LM ad cy Rr) [.ref (ad 16 99)] σ Q := mkV (by decide) (Nat.le_of_ble_eq_true rfl) (fun p e s m below meth c A E hr hlk hI ls hl => bX6_laysAside hF E hr hlk hf hI hl)

def wX6_laysBack_l28s (ih : Int32 → St → Prop) (a1 : Int32) (σ : St) (Q : St → Prop) : Prop := ((4 ≤ a1 → ∀ σ3 : St, σ3 = sI σ 16 7 (gA σ 16 29 (29 : Int32).toNatClampNeg) → ∀ σ4 : St, σ4 = sJ σ3 16 8 (gJ σ3 16 30) → Q σ4) ∧ (¬ 4 ≤ a1 → vp_in (25 + a1) 30 ∧ vp_in a1 4 ∧ ∀ σ7 : St, σ7 = sA σ 16 10 a1.toNatClampNeg (gA σ 16 29 (25 + a1).toNatClampNeg) → ∀ x8 : Int32, x8 = a1 + 1 → (ih x8 σ7)))
def wX6_laysBack_l28 (n : Nat) : Int32 → St → (St → Prop) → Prop := @Nat.rec (fun _ => Int32 → St → (St → Prop) → Prop) (fun _ _ _ => False) (fun _ ih a1 σ Q => wX6_laysBack_l28s (fun a1 σ => ih a1 σ Q) a1 σ Q) n
set_option maxRecDepth 100000 in
set_option maxHeartbeats 4000000 in
theorem bX6_laysBack_28 {p : Program} {l : Launch} {e : Env} {s : State} {m : MethodId} {args : Array Value} {below : List Frame} {meth : Method} {c : Code} {D : va_G} {F : (Nat → Prop) → State → Prop} {A : Nat → Prop} {ad : Nat → Nat → Nat} {cy : Nat → ClassId} {Rr : va_W} {Q : St → Prop} (hF : Stab F) (E : CallFix p m c cX6_laysBack 2 s args TB RX6) (hr : meth.sig.returnType = none) (hlk : meth.locks = false) : ∀ (n : Nat) {a1 : Int32} {σ : St} {H : Heap} {locs : List Loc} {ls : Array Slot}, wX6_laysBack_l28 n a1 σ Q → In (D, tysM cy, F) (LM ad cy Rr σ) A s H locs → lv_has ls 2 [(0, .ref (ad 16 99)), (1, .int a1)] → W p l e (rmD 0) s m args below meth c H locs 0 0 (PV below args s (D, tysM cy, F) A (LM ad cy Rr) Q) (F0 m 28 ls []) := by
  have hx := E.1
  have hb := E.2.1
  intro n
  induction n with
  | zero => intro a1 σ H locs ls hf hI hl; exact False.elim hf
  | succ n ih =>
    intro a1 σ H locs ls hf hI hl
    have hf : wX6_laysBack_l28s (fun a1 σ => wX6_laysBack_l28 n a1 σ Q) a1 σ Q := hf
    unfold wX6_laysBack_l28s at hf
    refine lv_iload_n (pc := 28) hx hb dX6_laysBack_28 rfl (lv_at hl 1 rfl) ?_
    refine lv_iconst (v := 4) (pc := 29) hx hb dX6_laysBack_29 rfl ?_
    refine lv_icmp_ge (tgt := 54) (pc := 30) hx hb dX6_laysBack_30 (by decide) (fun c2 => ?_) (fun c2 => ?_)
    · have hf := hf.1 c2
      refine lv_aload_n (pc := 54) hx hb dX6_laysBack_54 rfl (lv_at hl 0 rfl) ?_
      refine lv_aload_n (pc := 55) hx hb dX6_laysBack_55 rfl (lv_at hl 0 rfl) ?_
      refine g6_29 (pc := 56) E hI lkX6_35 dX6_laysBack_56 ?_
      refine lv_bipush (v := 29) (pc := 59) hx hb dX6_laysBack_59 rfl ?_
      refine a6_29 (pc := 61) E hI (by unfold vp_in; decide) dX6_laysBack_61 ?_
      refine p6_7 (pc := 62) E hI lkX6_106 dX6_laysBack_62 (fun H locs σ3 eσ3 hI => ?_)
      have hf := hf σ3 eσ3
      refine lv_aload_n (pc := 65) hx hb dX6_laysBack_65 rfl (lv_at hl 0 rfl) ?_
      refine lv_aload_n (pc := 66) hx hb dX6_laysBack_66 rfl (lv_at hl 0 rfl) ?_
      refine g6_30 (pc := 67) E hI lkX6_382 dX6_laysBack_67 ?_
      refine p6_8 (pc := 70) E hI lkX6_109 dX6_laysBack_70 (fun H locs σ4 eσ4 hI => ?_)
      have hf := hf σ4 eσ4
      exact rV (pc := 73) E hr hlk hI hf dX6_laysBack_73
    · have hf := hf.2 c2
      refine lv_aload_n (pc := 33) hx hb dX6_laysBack_33 rfl (lv_at hl 0 rfl) ?_
      refine g6_10 (pc := 34) E hI lkX6_26 dX6_laysBack_34 ?_
      refine lv_iload_n (pc := 37) hx hb dX6_laysBack_37 rfl (lv_at hl 1 rfl) ?_
      refine lv_aload_n (pc := 38) hx hb dX6_laysBack_38 rfl (lv_at hl 0 rfl) ?_
      refine g6_29 (pc := 39) E hI lkX6_35 dX6_laysBack_39 ?_
      refine lv_bipush (v := 25) (pc := 42) hx hb dX6_laysBack_42 rfl ?_
      refine lv_iload_n (pc := 44) hx hb dX6_laysBack_44 rfl (lv_at hl 1 rfl) ?_
      refine lv_iadd (pc := 45) hx hb dX6_laysBack_45 ?_
      have g5 := hf.1
      have hf := hf.2
      refine a6_29 (pc := 46) E hI g5 dX6_laysBack_46 ?_
      have g6 := hf.1
      have hf := hf.2
      refine s6_10 (pc := 47) E hI g6 dX6_laysBack_47 (fun H locs σ7 eσ7 hI => ?_)
      have hf := hf σ7 eσ7
      obtain ⟨x8, ex8⟩ : ∃ y : Int32, y = a1 + 1 := ⟨_, rfl⟩
      have hf := hf x8 ex8
      refine lv_iinc (v := x8) (lv' := [(1, .int x8), (0, .ref (ad 16 99))]) (pc := 48) hx hb dX6_laysBack_48 hl (k := 1) rfl (by rw [ex8]; rfl) (by decide) rfl (fun ls hl => ?_)
      refine lv_goto (tgt := 28) (pc := 51) hx hb dX6_laysBack_51 (by decide) ?_
      exact ih hf hI (lv_sub hl [1, 0] rfl)
def wX6_laysBack_l2s (ih : Int32 → St → Prop) (a1 : Int32) (σ : St) (Q : St → Prop) : Prop := ((25 ≤ a1 → ∃ n9 : Nat, wX6_laysBack_l28 n9 0 σ Q) ∧ (¬ 25 ≤ a1 → vp_in a1 30 ∧ vp_in a1 25 ∧ ∀ σ12 : St, σ12 = sA σ 16 11 a1.toNatClampNeg (gA σ 16 29 a1.toNatClampNeg) → ∀ x13 : Int32, x13 = a1 + 1 → (ih x13 σ12)))
def wX6_laysBack_l2 (n : Nat) : Int32 → St → (St → Prop) → Prop := @Nat.rec (fun _ => Int32 → St → (St → Prop) → Prop) (fun _ _ _ => False) (fun _ ih a1 σ Q => wX6_laysBack_l2s (fun a1 σ => ih a1 σ Q) a1 σ Q) n
set_option maxRecDepth 100000 in
set_option maxHeartbeats 4000000 in
theorem bX6_laysBack_2 {p : Program} {l : Launch} {e : Env} {s : State} {m : MethodId} {args : Array Value} {below : List Frame} {meth : Method} {c : Code} {D : va_G} {F : (Nat → Prop) → State → Prop} {A : Nat → Prop} {ad : Nat → Nat → Nat} {cy : Nat → ClassId} {Rr : va_W} {Q : St → Prop} (hF : Stab F) (E : CallFix p m c cX6_laysBack 2 s args TB RX6) (hr : meth.sig.returnType = none) (hlk : meth.locks = false) : ∀ (n : Nat) {a1 : Int32} {σ : St} {H : Heap} {locs : List Loc} {ls : Array Slot}, wX6_laysBack_l2 n a1 σ Q → In (D, tysM cy, F) (LM ad cy Rr σ) A s H locs → lv_has ls 2 [(0, .ref (ad 16 99)), (1, .int a1)] → W p l e (rmD 0) s m args below meth c H locs 0 0 (PV below args s (D, tysM cy, F) A (LM ad cy Rr) Q) (F0 m 2 ls []) := by
  have hx := E.1
  have hb := E.2.1
  intro n
  induction n with
  | zero => intro a1 σ H locs ls hf hI hl; exact False.elim hf
  | succ n ih =>
    intro a1 σ H locs ls hf hI hl
    have hf : wX6_laysBack_l2s (fun a1 σ => wX6_laysBack_l2 n a1 σ Q) a1 σ Q := hf
    unfold wX6_laysBack_l2s at hf
    refine lv_iload_n (pc := 2) hx hb dX6_laysBack_2 rfl (lv_at hl 1 rfl) ?_
    refine lv_bipush (v := 25) (pc := 3) hx hb dX6_laysBack_3 rfl ?_
    refine lv_icmp_ge (tgt := 26) (pc := 5) hx hb dX6_laysBack_5 (by decide) (fun c1 => ?_) (fun c1 => ?_)
    · have hf := hf.1 c1
      refine lv_iconst (v := 0) (pc := 26) hx hb dX6_laysBack_26 rfl ?_
      refine lv_istore_n (lv' := [(1, .int 0), (0, .ref (ad 16 99))]) (pc := 27) hx hb dX6_laysBack_27 rfl hl (by decide) rfl (fun ls hl => ?_)
      obtain ⟨n9, hf⟩ := hf
      exact bX6_laysBack_28 hF E hr hlk n9 hf hI (lv_sub hl [1, 0] rfl)
    · have hf := hf.2 c1
      refine lv_aload_n (pc := 8) hx hb dX6_laysBack_8 rfl (lv_at hl 0 rfl) ?_
      refine g6_11 (pc := 9) E hI lkX6_29 dX6_laysBack_9 ?_
      refine lv_iload_n (pc := 12) hx hb dX6_laysBack_12 rfl (lv_at hl 1 rfl) ?_
      refine lv_aload_n (pc := 13) hx hb dX6_laysBack_13 rfl (lv_at hl 0 rfl) ?_
      refine g6_29 (pc := 14) E hI lkX6_35 dX6_laysBack_14 ?_
      refine lv_iload_n (pc := 17) hx hb dX6_laysBack_17 rfl (lv_at hl 1 rfl) ?_
      have g10 := hf.1
      have hf := hf.2
      refine a6_29 (pc := 18) E hI g10 dX6_laysBack_18 ?_
      have g11 := hf.1
      have hf := hf.2
      refine s6_11 (pc := 19) E hI g11 dX6_laysBack_19 (fun H locs σ12 eσ12 hI => ?_)
      have hf := hf σ12 eσ12
      obtain ⟨x13, ex13⟩ : ∃ y : Int32, y = a1 + 1 := ⟨_, rfl⟩
      have hf := hf x13 ex13
      refine lv_iinc (v := x13) (lv' := [(1, .int x13), (0, .ref (ad 16 99))]) (pc := 20) hx hb dX6_laysBack_20 hl (k := 1) rfl (by rw [ex13]; rfl) (by decide) rfl (fun ls hl => ?_)
      refine lv_goto (tgt := 2) (pc := 23) hx hb dX6_laysBack_23 (by decide) ?_
      exact ih hf hI (lv_sub hl [1, 0] rfl)
def wX6_laysBack (σ : St) (Q : St → Prop) : Prop := ∃ n14 : Nat, wX6_laysBack_l2 n14 0 σ Q
set_option maxRecDepth 100000 in
set_option maxHeartbeats 4000000 in
theorem bX6_laysBack {p : Program} {l : Launch} {e : Env} {s : State} {m : MethodId} {args : Array Value} {below : List Frame} {meth : Method} {c : Code} {H : Heap} {locs : List Loc} {ls : Array Slot} {D : va_G} {F : (Nat → Prop) → State → Prop} {A : Nat → Prop} {σ : St} {ad : Nat → Nat → Nat} {cy : Nat → ClassId} {Rr : va_W} {Q : St → Prop} (hF : Stab F) (E : CallFix p m c cX6_laysBack 2 s args TB RX6) (hr : meth.sig.returnType = none) (hlk : meth.locks = false) (hf : wX6_laysBack σ Q) (hI : In (D, tysM cy, F) (LM ad cy Rr σ) A s H locs) (hl : lv_has ls 2 [(0, .ref (ad 16 99))]) : W p l e (rmD 0) s m args below meth c H locs 0 0 (PV below args s (D, tysM cy, F) A (LM ad cy Rr) Q) (F0 m 0 ls []) := by
  have hx := E.1
  have hb := E.2.1
  unfold wX6_laysBack at hf
  refine lv_iconst (v := 0) (pc := 0) hx hb dX6_laysBack_0 rfl ?_
  refine lv_istore_n (lv' := [(1, .int 0), (0, .ref (ad 16 99))]) (pc := 1) hx hb dX6_laysBack_1 rfl hl (by decide) rfl (fun ls hl => ?_)
  obtain ⟨n14, hf⟩ := hf
  exact bX6_laysBack_2 hF E hr hlk n14 hf hI (lv_sub hl [1, 0] rfl)
theorem tX6_laysBack {l : Launch} {D : va_G} {F : (Nat → Prop) → State → Prop} {σ : St} {ad : Nat → Nat → Nat} {cy : Nat → ClassId} {Rr : va_W} {Q : St → Prop} (hF : Stab F) (hf : wX6_laysBack σ Q) : CtV l yX6_laysBack cX6_laysBack 2 0 (D, tysM cy, F) (LM ad cy Rr) [.ref (ad 16 99)] σ Q := mkV (by decide) (Nat.le_of_ble_eq_true rfl) (fun p e s m below meth c A E hr hlk hI ls hl => bX6_laysBack hF E hr hlk hf hI hl)

def wX6_lowest_l6s (ih : Int64 → Int64 → Int32 → Int64 → Int64 → St → Prop) (a0 : Int64) (a2 : Int64) (a4 : Int32) (a5 : Int64) (a7 : Int64) (σ : St) (Q : Int64 → St → Prop) : Prop := (((lg_cmp a7 0) = 0 → ((¬ a4 = 0 → (¬ a5 = 0) ∧ Q (a2 / a5) σ) ∧ (a4 = 0 → (¬ a5 = 0) ∧ Q (a0 / a5) σ))) ∧ (¬ (lg_cmp a7 0) = 0 → (¬ a7 = 0) ∧ ∀ x6 : Int64, x6 = (lrm a5 a7) → (ih a0 a2 a4 a7 x6 σ)))
def wX6_lowest_l6 (n : Nat) : Int64 → Int64 → Int32 → Int64 → Int64 → St → (Int64 → St → Prop) → Prop := @Nat.rec (fun _ => Int64 → Int64 → Int32 → Int64 → Int64 → St → (Int64 → St → Prop) → Prop) (fun _ _ _ _ _ _ _ => False) (fun _ ih a0 a2 a4 a5 a7 σ Q => wX6_lowest_l6s (fun a0 a2 a4 a5 a7 σ => ih a0 a2 a4 a5 a7 σ Q) a0 a2 a4 a5 a7 σ Q) n
set_option maxRecDepth 100000 in
set_option maxHeartbeats 4000000 in
theorem bX6_lowest_6 {p : Program} {l : Launch} {e : Env} {s : State} {m : MethodId} {args : Array Value} {below : List Frame} {meth : Method} {c : Code} {D : va_G} {F : (Nat → Prop) → State → Prop} {A : Nat → Prop} {ad : Nat → Nat → Nat} {cy : Nat → ClassId} {Rr : va_W} {Q : Int64 → St → Prop} (hF : Stab F) (E : CallFix p m c cX6_lowest 11 s args TB RX6) (hr : meth.sig.returnType = some .long) (hlk : meth.locks = false) : ∀ (n : Nat) {a0 : Int64} {a2 : Int64} {a4 : Int32} {a5 : Int64} {a7 : Int64} {σ : St} {H : Heap} {locs : List Loc} {ls : Array Slot}, wX6_lowest_l6 n a0 a2 a4 a5 a7 σ Q → In (D, tysM cy, F) (LM ad cy Rr σ) A s H locs → lv_has ls 11 [(0, .long a0), (2, .long a2), (4, .int a4), (5, .long a5), (7, .long a7)] → W p l e (rmD 0) s m args below meth c H locs 0 0 (PJ below args s (D, tysM cy, F) A (LM ad cy Rr) Q) (F0 m 6 ls []) := by
  have hx := E.1
  have hb := E.2.1
  intro n
  induction n with
  | zero => intro a0 a2 a4 a5 a7 σ H locs ls hf hI hl; exact False.elim hf
  | succ n ih =>
    intro a0 a2 a4 a5 a7 σ H locs ls hf hI hl
    have hf : wX6_lowest_l6s (fun a0 a2 a4 a5 a7 σ => wX6_lowest_l6 n a0 a2 a4 a5 a7 σ Q) a0 a2 a4 a5 a7 σ Q := hf
    unfold wX6_lowest_l6s at hf
    refine lv_lload (pc := 6) hx hb dX6_lowest_6 (lv_at hl 4 rfl) ?_
    refine lv_lconst (v := 0) (pc := 8) hx hb dX6_lowest_8 rfl ?_
    refine W.lcmp (pc := 9) hx hb dX6_lowest_9 ?_
    refine lv_if_eq (tgt := 31) (pc := 10) hx hb dX6_lowest_10 (by decide) (fun c1 => ?_) (fun c1 => ?_)
    · have hf := hf.1 c1
      refine lv_iload (pc := 31) hx hb dX6_lowest_31 (lv_at hl 2 rfl) ?_
      refine lv_if_ne (tgt := 43) (pc := 33) hx hb dX6_lowest_33 (by decide) (fun c2 => ?_) (fun c2 => ?_)
      · have hf := hf.1 c2
        refine lv_lload_n (pc := 43) hx hb dX6_lowest_43 rfl (lv_at hl 1 rfl) ?_
        refine lv_lload (pc := 44) hx hb dX6_lowest_44 (lv_at hl 3 rfl) ?_
        have g3 := hf.1
        have hf := hf.2
        refine lv_ldiv (pc := 46) hx hb dX6_lowest_46 g3 ?_
        exact rJ (pc := 47) E hr hlk hI hf dX6_lowest_47
      · have hf := hf.2 c2
        refine lv_lload_n (pc := 36) hx hb dX6_lowest_36 rfl (lv_at hl 0 rfl) ?_
        refine lv_lload (pc := 37) hx hb dX6_lowest_37 (lv_at hl 3 rfl) ?_
        have g4 := hf.1
        have hf := hf.2
        refine lv_ldiv (pc := 39) hx hb dX6_lowest_39 g4 ?_
        refine lv_goto (tgt := 47) (pc := 40) hx hb dX6_lowest_40 (by decide) ?_
        exact rJ (pc := 47) E hr hlk hI hf dX6_lowest_47
    · have hf := hf.2 c1
      refine lv_lload (pc := 13) hx hb dX6_lowest_13 (lv_at hl 3 rfl) ?_
      refine lv_lload (pc := 15) hx hb dX6_lowest_15 (lv_at hl 4 rfl) ?_
      have g5 := hf.1
      have hf := hf.2
      refine lv_lrem1 (pc := 17) hx hb dX6_lowest_17 g5 ?_
      refine lv_topl (fun x6 ex6 => ?_)
      have hf := hf x6 ex6
      refine lv_lstore (lv' := [(9, .long x6), (0, .long a0), (2, .long a2), (4, .int a4), (5, .long a5), (7, .long a7)]) (pc := 18) hx hb dX6_lowest_18 hl (by decide) rfl (fun ls hl => ?_)
      refine lv_lload (pc := 20) hx hb dX6_lowest_20 (lv_at hl 5 rfl) ?_
      refine lv_lstore (lv' := [(5, .long a7), (9, .long x6), (0, .long a0), (2, .long a2), (4, .int a4), (7, .long a7)]) (pc := 22) hx hb dX6_lowest_22 hl (by decide) rfl (fun ls hl => ?_)
      refine lv_lload (pc := 24) hx hb dX6_lowest_24 (lv_at hl 1 rfl) ?_
      refine lv_lstore (lv' := [(7, .long x6), (5, .long a7), (9, .long x6), (0, .long a0), (2, .long a2), (4, .int a4)]) (pc := 26) hx hb dX6_lowest_26 hl (by decide) rfl (fun ls hl => ?_)
      refine lv_goto (tgt := 6) (pc := 28) hx hb dX6_lowest_28 (by decide) ?_
      exact ih hf hI (lv_sub hl [3, 4, 5, 1, 0] rfl)
def wX6_lowest (p1 : Int64) (p2 : Int64) (p3 : Int32) (σ : St) (Q : Int64 → St → Prop) : Prop := ∃ n7 : Nat, wX6_lowest_l6 n7 p1 p2 p3 p1 p2 σ Q
set_option maxRecDepth 100000 in
set_option maxHeartbeats 4000000 in
theorem bX6_lowest {p : Program} {l : Launch} {e : Env} {s : State} {m : MethodId} {args : Array Value} {below : List Frame} {meth : Method} {c : Code} {H : Heap} {locs : List Loc} {ls : Array Slot} {D : va_G} {F : (Nat → Prop) → State → Prop} {A : Nat → Prop} {σ : St} {ad : Nat → Nat → Nat} {cy : Nat → ClassId} {Rr : va_W} {Q : Int64 → St → Prop} {p1 : Int64} {p2 : Int64} {p3 : Int32} (hF : Stab F) (E : CallFix p m c cX6_lowest 11 s args TB RX6) (hr : meth.sig.returnType = some .long) (hlk : meth.locks = false) (hf : wX6_lowest p1 p2 p3 σ Q) (hI : In (D, tysM cy, F) (LM ad cy Rr σ) A s H locs) (hl : lv_has ls 11 [(0, .long p1), (2, .long p2), (4, .int p3)]) : W p l e (rmD 0) s m args below meth c H locs 0 0 (PJ below args s (D, tysM cy, F) A (LM ad cy Rr) Q) (F0 m 0 ls []) := by
  have hx := E.1
  have hb := E.2.1
  unfold wX6_lowest at hf
  refine lv_lload_n (pc := 0) hx hb dX6_lowest_0 rfl (lv_at hl 0 rfl) ?_
  refine lv_lstore (lv' := [(5, .long p1), (0, .long p1), (2, .long p2), (4, .int p3)]) (pc := 1) hx hb dX6_lowest_1 hl (by decide) rfl (fun ls hl => ?_)
  refine lv_lload_n (pc := 3) hx hb dX6_lowest_3 rfl (lv_at hl 2 rfl) ?_
  refine lv_lstore (lv' := [(7, .long p2), (5, .long p1), (0, .long p1), (2, .long p2), (4, .int p3)]) (pc := 4) hx hb dX6_lowest_4 hl (by decide) rfl (fun ls hl => ?_)
  obtain ⟨n7, hf⟩ := hf
  exact bX6_lowest_6 hF E hr hlk n7 hf hI (lv_sub hl [2, 3, 4, 1, 0] rfl)
theorem tX6_lowest {l : Launch} {D : va_G} {F : (Nat → Prop) → State → Prop} {σ : St} {ad : Nat → Nat → Nat} {cy : Nat → ClassId} {Rr : va_W} {Q : Int64 → St → Prop} {p1 : Int64} {p2 : Int64} {p3 : Int32} (hF : Stab F) (hf : wX6_lowest p1 p2 p3 σ Q) : CtJ l yX6_lowest cX6_lowest 11 0 (D, tysM cy, F) (LM ad cy Rr) [.long p1, .long p2, .int p3] σ Q := mkJ (by decide) (Nat.le_of_ble_eq_true rfl) (fun p e s m below meth c A E hr hlk hI ls hl => bX6_lowest hF E hr hlk hf hI hl)

def wX6_image_l54s (ih : Int32 → St → Prop) (a1 : Int32) (σ : St) (Q : Int32 → St → Prop) : Prop := ((4 ≤ a1 → ∀ σ4 : St, σ4 = sI σ 16 35 (gI σ 16 12) → ∀ σ5 : St, σ5 = sI σ4 16 36 (gI σ4 16 7) → ∀ σ6 : St, σ6 = sI σ5 16 37 (gI σ5 16 4) → ∀ σ7 : St, σ7 = sJ σ6 16 38 (gJ σ6 16 8) → Q (gI σ7 16 12) σ7) ∧ (¬ 4 ≤ a1 → vp_in a1 4 ∧ vp_in a1 4 ∧ ∀ σ10 : St, σ10 = sA σ 16 34 a1.toNatClampNeg (gA σ 16 10 a1.toNatClampNeg) → ∀ x11 : Int32, x11 = a1 + 1 → (ih x11 σ10)))
def wX6_image_l54 (n : Nat) : Int32 → St → (Int32 → St → Prop) → Prop := @Nat.rec (fun _ => Int32 → St → (Int32 → St → Prop) → Prop) (fun _ _ _ => False) (fun _ ih a1 σ Q => wX6_image_l54s (fun a1 σ => ih a1 σ Q) a1 σ Q) n
set_option maxRecDepth 100000 in
set_option maxHeartbeats 4000000 in
theorem bX6_image_54 {p : Program} {l : Launch} {e : Env} {s : State} {m : MethodId} {args : Array Value} {below : List Frame} {meth : Method} {c : Code} {D : va_G} {F : (Nat → Prop) → State → Prop} {A : Nat → Prop} {ad : Nat → Nat → Nat} {cy : Nat → ClassId} {Rr : va_W} {Q : Int32 → St → Prop} (hF : Stab F) (E : CallFix p m c cX6_image 2 s args TB RX6) (hr : meth.sig.returnType = some .int) (hlk : meth.locks = false) : ∀ (n : Nat) {a1 : Int32} {σ : St} {H : Heap} {locs : List Loc} {ls : Array Slot}, wX6_image_l54 n a1 σ Q → In (D, tysM cy, F) (LM ad cy Rr σ) A s H locs → lv_has ls 2 [(0, .ref (ad 16 99)), (1, .int a1)] → W p l e (rmD 0) s m args below meth c H locs 0 0 (PI below args s (D, tysM cy, F) A (LM ad cy Rr) Q) (F0 m 54 ls []) := by
  have hx := E.1
  have hb := E.2.1
  intro n
  induction n with
  | zero => intro a1 σ H locs ls hf hI hl; exact False.elim hf
  | succ n ih =>
    intro a1 σ H locs ls hf hI hl
    have hf : wX6_image_l54s (fun a1 σ => wX6_image_l54 n a1 σ Q) a1 σ Q := hf
    unfold wX6_image_l54s at hf
    refine lv_iload_n (pc := 54) hx hb dX6_image_54 rfl (lv_at hl 1 rfl) ?_
    refine lv_iconst (v := 4) (pc := 55) hx hb dX6_image_55 rfl ?_
    refine lv_icmp_ge (tgt := 77) (pc := 56) hx hb dX6_image_56 (by decide) (fun c3 => ?_) (fun c3 => ?_)
    · have hf := hf.1 c3
      refine lv_aload_n (pc := 77) hx hb dX6_image_77 rfl (lv_at hl 0 rfl) ?_
      refine lv_aload_n (pc := 78) hx hb dX6_image_78 rfl (lv_at hl 0 rfl) ?_
      refine g6_12 (pc := 79) E hI lkX6_73 dX6_image_79 ?_
      refine p6_35 (pc := 82) E hI lkX6_50 dX6_image_82 (fun H locs σ4 eσ4 hI => ?_)
      have hf := hf σ4 eσ4
      refine lv_aload_n (pc := 85) hx hb dX6_image_85 rfl (lv_at hl 0 rfl) ?_
      refine lv_aload_n (pc := 86) hx hb dX6_image_86 rfl (lv_at hl 0 rfl) ?_
      refine g6_7 (pc := 87) E hI lkX6_106 dX6_image_87 ?_
      refine p6_36 (pc := 90) E hI lkX6_425 dX6_image_90 (fun H locs σ5 eσ5 hI => ?_)
      have hf := hf σ5 eσ5
      refine lv_aload_n (pc := 93) hx hb dX6_image_93 rfl (lv_at hl 0 rfl) ?_
      refine lv_aload_n (pc := 94) hx hb dX6_image_94 rfl (lv_at hl 0 rfl) ?_
      refine g6_4 (pc := 95) E hI lkX6_115 dX6_image_95 ?_
      refine p6_37 (pc := 98) E hI lkX6_428 dX6_image_98 (fun H locs σ6 eσ6 hI => ?_)
      have hf := hf σ6 eσ6
      refine lv_aload_n (pc := 101) hx hb dX6_image_101 rfl (lv_at hl 0 rfl) ?_
      refine lv_aload_n (pc := 102) hx hb dX6_image_102 rfl (lv_at hl 0 rfl) ?_
      refine g6_8 (pc := 103) E hI lkX6_109 dX6_image_103 ?_
      refine p6_38 (pc := 106) E hI lkX6_431 dX6_image_106 (fun H locs σ7 eσ7 hI => ?_)
      have hf := hf σ7 eσ7
      refine lv_aload_n (pc := 109) hx hb dX6_image_109 rfl (lv_at hl 0 rfl) ?_
      refine g6_12 (pc := 110) E hI lkX6_73 dX6_image_110 ?_
      exact rI (pc := 113) E hr hlk hI hf dX6_image_113
    · have hf := hf.2 c3
      refine lv_aload_n (pc := 59) hx hb dX6_image_59 rfl (lv_at hl 0 rfl) ?_
      refine g6_34 (pc := 60) E hI lkX6_47 dX6_image_60 ?_
      refine lv_iload_n (pc := 63) hx hb dX6_image_63 rfl (lv_at hl 1 rfl) ?_
      refine lv_aload_n (pc := 64) hx hb dX6_image_64 rfl (lv_at hl 0 rfl) ?_
      refine g6_10 (pc := 65) E hI lkX6_26 dX6_image_65 ?_
      refine lv_iload_n (pc := 68) hx hb dX6_image_68 rfl (lv_at hl 1 rfl) ?_
      have g8 := hf.1
      have hf := hf.2
      refine a6_10 (pc := 69) E hI g8 dX6_image_69 ?_
      have g9 := hf.1
      have hf := hf.2
      refine s6_34 (pc := 70) E hI g9 dX6_image_70 (fun H locs σ10 eσ10 hI => ?_)
      have hf := hf σ10 eσ10
      obtain ⟨x11, ex11⟩ : ∃ y : Int32, y = a1 + 1 := ⟨_, rfl⟩
      have hf := hf x11 ex11
      refine lv_iinc (v := x11) (lv' := [(1, .int x11), (0, .ref (ad 16 99))]) (pc := 71) hx hb dX6_image_71 hl (k := 1) rfl (by rw [ex11]; rfl) (by decide) rfl (fun ls hl => ?_)
      refine lv_goto (tgt := 54) (pc := 74) hx hb dX6_image_74 (by decide) ?_
      exact ih hf hI (lv_sub hl [1, 0] rfl)
def wX6_image_l28s (ih : Int32 → St → Prop) (a1 : Int32) (σ : St) (Q : Int32 → St → Prop) : Prop := ((64 ≤ a1 → ∃ n12 : Nat, wX6_image_l54 n12 0 σ Q) ∧ (¬ 64 ≤ a1 → vp_in a1 64 ∧ vp_in a1 64 ∧ ∀ σ15 : St, σ15 = sA σ 16 33 a1.toNatClampNeg (gA σ 16 9 a1.toNatClampNeg) → ∀ x16 : Int32, x16 = a1 + 1 → (ih x16 σ15)))
def wX6_image_l28 (n : Nat) : Int32 → St → (Int32 → St → Prop) → Prop := @Nat.rec (fun _ => Int32 → St → (Int32 → St → Prop) → Prop) (fun _ _ _ => False) (fun _ ih a1 σ Q => wX6_image_l28s (fun a1 σ => ih a1 σ Q) a1 σ Q) n
set_option maxRecDepth 100000 in
set_option maxHeartbeats 4000000 in
theorem bX6_image_28 {p : Program} {l : Launch} {e : Env} {s : State} {m : MethodId} {args : Array Value} {below : List Frame} {meth : Method} {c : Code} {D : va_G} {F : (Nat → Prop) → State → Prop} {A : Nat → Prop} {ad : Nat → Nat → Nat} {cy : Nat → ClassId} {Rr : va_W} {Q : Int32 → St → Prop} (hF : Stab F) (E : CallFix p m c cX6_image 2 s args TB RX6) (hr : meth.sig.returnType = some .int) (hlk : meth.locks = false) : ∀ (n : Nat) {a1 : Int32} {σ : St} {H : Heap} {locs : List Loc} {ls : Array Slot}, wX6_image_l28 n a1 σ Q → In (D, tysM cy, F) (LM ad cy Rr σ) A s H locs → lv_has ls 2 [(0, .ref (ad 16 99)), (1, .int a1)] → W p l e (rmD 0) s m args below meth c H locs 0 0 (PI below args s (D, tysM cy, F) A (LM ad cy Rr) Q) (F0 m 28 ls []) := by
  have hx := E.1
  have hb := E.2.1
  intro n
  induction n with
  | zero => intro a1 σ H locs ls hf hI hl; exact False.elim hf
  | succ n ih =>
    intro a1 σ H locs ls hf hI hl
    have hf : wX6_image_l28s (fun a1 σ => wX6_image_l28 n a1 σ Q) a1 σ Q := hf
    unfold wX6_image_l28s at hf
    refine lv_iload_n (pc := 28) hx hb dX6_image_28 rfl (lv_at hl 1 rfl) ?_
    refine lv_bipush (v := 64) (pc := 29) hx hb dX6_image_29 rfl ?_
    refine lv_icmp_ge (tgt := 52) (pc := 31) hx hb dX6_image_31 (by decide) (fun c2 => ?_) (fun c2 => ?_)
    · have hf := hf.1 c2
      refine lv_iconst (v := 0) (pc := 52) hx hb dX6_image_52 rfl ?_
      refine lv_istore_n (lv' := [(1, .int 0), (0, .ref (ad 16 99))]) (pc := 53) hx hb dX6_image_53 rfl hl (by decide) rfl (fun ls hl => ?_)
      obtain ⟨n12, hf⟩ := hf
      exact bX6_image_54 hF E hr hlk n12 hf hI (lv_sub hl [1, 0] rfl)
    · have hf := hf.2 c2
      refine lv_aload_n (pc := 34) hx hb dX6_image_34 rfl (lv_at hl 0 rfl) ?_
      refine g6_33 (pc := 35) E hI lkX6_44 dX6_image_35 ?_
      refine lv_iload_n (pc := 38) hx hb dX6_image_38 rfl (lv_at hl 1 rfl) ?_
      refine lv_aload_n (pc := 39) hx hb dX6_image_39 rfl (lv_at hl 0 rfl) ?_
      refine g6_9 (pc := 40) E hI lkX6_23 dX6_image_40 ?_
      refine lv_iload_n (pc := 43) hx hb dX6_image_43 rfl (lv_at hl 1 rfl) ?_
      have g13 := hf.1
      have hf := hf.2
      refine a6_9 (pc := 44) E hI g13 dX6_image_44 ?_
      have g14 := hf.1
      have hf := hf.2
      refine s6_33 (pc := 45) E hI g14 dX6_image_45 (fun H locs σ15 eσ15 hI => ?_)
      have hf := hf σ15 eσ15
      obtain ⟨x16, ex16⟩ : ∃ y : Int32, y = a1 + 1 := ⟨_, rfl⟩
      have hf := hf x16 ex16
      refine lv_iinc (v := x16) (lv' := [(1, .int x16), (0, .ref (ad 16 99))]) (pc := 46) hx hb dX6_image_46 hl (k := 1) rfl (by rw [ex16]; rfl) (by decide) rfl (fun ls hl => ?_)
      refine lv_goto (tgt := 28) (pc := 49) hx hb dX6_image_49 (by decide) ?_
      exact ih hf hI (lv_sub hl [1, 0] rfl)
def wX6_image_l2s (ih : Int32 → St → Prop) (a1 : Int32) (σ : St) (Q : Int32 → St → Prop) : Prop := ((25 ≤ a1 → ∃ n17 : Nat, wX6_image_l28 n17 0 σ Q) ∧ (¬ 25 ≤ a1 → vp_in a1 25 ∧ vp_in a1 25 ∧ ∀ σ20 : St, σ20 = sA σ 16 32 a1.toNatClampNeg (gA σ 16 11 a1.toNatClampNeg) → ∀ x21 : Int32, x21 = a1 + 1 → (ih x21 σ20)))
def wX6_image_l2 (n : Nat) : Int32 → St → (Int32 → St → Prop) → Prop := @Nat.rec (fun _ => Int32 → St → (Int32 → St → Prop) → Prop) (fun _ _ _ => False) (fun _ ih a1 σ Q => wX6_image_l2s (fun a1 σ => ih a1 σ Q) a1 σ Q) n
set_option maxRecDepth 100000 in
set_option maxHeartbeats 4000000 in
theorem bX6_image_2 {p : Program} {l : Launch} {e : Env} {s : State} {m : MethodId} {args : Array Value} {below : List Frame} {meth : Method} {c : Code} {D : va_G} {F : (Nat → Prop) → State → Prop} {A : Nat → Prop} {ad : Nat → Nat → Nat} {cy : Nat → ClassId} {Rr : va_W} {Q : Int32 → St → Prop} (hF : Stab F) (E : CallFix p m c cX6_image 2 s args TB RX6) (hr : meth.sig.returnType = some .int) (hlk : meth.locks = false) : ∀ (n : Nat) {a1 : Int32} {σ : St} {H : Heap} {locs : List Loc} {ls : Array Slot}, wX6_image_l2 n a1 σ Q → In (D, tysM cy, F) (LM ad cy Rr σ) A s H locs → lv_has ls 2 [(0, .ref (ad 16 99)), (1, .int a1)] → W p l e (rmD 0) s m args below meth c H locs 0 0 (PI below args s (D, tysM cy, F) A (LM ad cy Rr) Q) (F0 m 2 ls []) := by
  have hx := E.1
  have hb := E.2.1
  intro n
  induction n with
  | zero => intro a1 σ H locs ls hf hI hl; exact False.elim hf
  | succ n ih =>
    intro a1 σ H locs ls hf hI hl
    have hf : wX6_image_l2s (fun a1 σ => wX6_image_l2 n a1 σ Q) a1 σ Q := hf
    unfold wX6_image_l2s at hf
    refine lv_iload_n (pc := 2) hx hb dX6_image_2 rfl (lv_at hl 1 rfl) ?_
    refine lv_bipush (v := 25) (pc := 3) hx hb dX6_image_3 rfl ?_
    refine lv_icmp_ge (tgt := 26) (pc := 5) hx hb dX6_image_5 (by decide) (fun c1 => ?_) (fun c1 => ?_)
    · have hf := hf.1 c1
      refine lv_iconst (v := 0) (pc := 26) hx hb dX6_image_26 rfl ?_
      refine lv_istore_n (lv' := [(1, .int 0), (0, .ref (ad 16 99))]) (pc := 27) hx hb dX6_image_27 rfl hl (by decide) rfl (fun ls hl => ?_)
      obtain ⟨n17, hf⟩ := hf
      exact bX6_image_28 hF E hr hlk n17 hf hI (lv_sub hl [1, 0] rfl)
    · have hf := hf.2 c1
      refine lv_aload_n (pc := 8) hx hb dX6_image_8 rfl (lv_at hl 0 rfl) ?_
      refine g6_32 (pc := 9) E hI lkX6_41 dX6_image_9 ?_
      refine lv_iload_n (pc := 12) hx hb dX6_image_12 rfl (lv_at hl 1 rfl) ?_
      refine lv_aload_n (pc := 13) hx hb dX6_image_13 rfl (lv_at hl 0 rfl) ?_
      refine g6_11 (pc := 14) E hI lkX6_29 dX6_image_14 ?_
      refine lv_iload_n (pc := 17) hx hb dX6_image_17 rfl (lv_at hl 1 rfl) ?_
      have g18 := hf.1
      have hf := hf.2
      refine a6_11 (pc := 18) E hI g18 dX6_image_18 ?_
      have g19 := hf.1
      have hf := hf.2
      refine s6_32 (pc := 19) E hI g19 dX6_image_19 (fun H locs σ20 eσ20 hI => ?_)
      have hf := hf σ20 eσ20
      obtain ⟨x21, ex21⟩ : ∃ y : Int32, y = a1 + 1 := ⟨_, rfl⟩
      have hf := hf x21 ex21
      refine lv_iinc (v := x21) (lv' := [(1, .int x21), (0, .ref (ad 16 99))]) (pc := 20) hx hb dX6_image_20 hl (k := 1) rfl (by rw [ex21]; rfl) (by decide) rfl (fun ls hl => ?_)
      refine lv_goto (tgt := 2) (pc := 23) hx hb dX6_image_23 (by decide) ?_
      exact ih hf hI (lv_sub hl [1, 0] rfl)
def wX6_image (σ : St) (Q : Int32 → St → Prop) : Prop := ∃ n22 : Nat, wX6_image_l2 n22 0 σ Q
set_option maxRecDepth 100000 in
set_option maxHeartbeats 4000000 in
theorem bX6_image {p : Program} {l : Launch} {e : Env} {s : State} {m : MethodId} {args : Array Value} {below : List Frame} {meth : Method} {c : Code} {H : Heap} {locs : List Loc} {ls : Array Slot} {D : va_G} {F : (Nat → Prop) → State → Prop} {A : Nat → Prop} {σ : St} {ad : Nat → Nat → Nat} {cy : Nat → ClassId} {Rr : va_W} {Q : Int32 → St → Prop} (hF : Stab F) (E : CallFix p m c cX6_image 2 s args TB RX6) (hr : meth.sig.returnType = some .int) (hlk : meth.locks = false) (hf : wX6_image σ Q) (hI : In (D, tysM cy, F) (LM ad cy Rr σ) A s H locs) (hl : lv_has ls 2 [(0, .ref (ad 16 99))]) : W p l e (rmD 0) s m args below meth c H locs 0 0 (PI below args s (D, tysM cy, F) A (LM ad cy Rr) Q) (F0 m 0 ls []) := by
  have hx := E.1
  have hb := E.2.1
  unfold wX6_image at hf
  refine lv_iconst (v := 0) (pc := 0) hx hb dX6_image_0 rfl ?_
  refine lv_istore_n (lv' := [(1, .int 0), (0, .ref (ad 16 99))]) (pc := 1) hx hb dX6_image_1 rfl hl (by decide) rfl (fun ls hl => ?_)
  obtain ⟨n22, hf⟩ := hf
  exact bX6_image_2 hF E hr hlk n22 hf hI (lv_sub hl [1, 0] rfl)
theorem tX6_image {l : Launch} {D : va_G} {F : (Nat → Prop) → State → Prop} {σ : St} {ad : Nat → Nat → Nat} {cy : Nat → ClassId} {Rr : va_W} {Q : Int32 → St → Prop} (hF : Stab F) (hf : wX6_image σ Q) : CtI l yX6_image cX6_image 2 .int 0 (D, tysM cy, F) (LM ad cy Rr) [.ref (ad 16 99)] σ Q := mkI (by decide) (Nat.le_of_ble_eq_true rfl) (fun p e s m below meth c A E hr hlk hI ls hl => bX6_image hF E hr hlk hf hI hl)

def wX6_back_l65s (ih : Int32 → St → Prop) (a1 : Int32) (σ : St) (Q : Int32 → St → Prop) : Prop := ((4 ≤ a1 → ∀ σ5 : St, σ5 = sI σ 16 12 (gI σ 16 35) → ∀ σ6 : St, σ6 = sI σ5 16 7 (gI σ5 16 36) → ∀ σ7 : St, σ7 = sI σ6 16 4 (gI σ6 16 37) → ∀ σ8 : St, σ8 = sJ σ7 16 8 (gJ σ7 16 38) → Q (gI σ8 16 12) σ8) ∧ (¬ 4 ≤ a1 → vp_in a1 4 ∧ vp_in a1 4 ∧ ∀ σ11 : St, σ11 = sA σ 16 10 a1.toNatClampNeg (gA σ 16 34 a1.toNatClampNeg) → ∀ x12 : Int32, x12 = a1 + 1 → (ih x12 σ11)))
def wX6_back_l65 (n : Nat) : Int32 → St → (Int32 → St → Prop) → Prop := @Nat.rec (fun _ => Int32 → St → (Int32 → St → Prop) → Prop) (fun _ _ _ => False) (fun _ ih a1 σ Q => wX6_back_l65s (fun a1 σ => ih a1 σ Q) a1 σ Q) n
set_option maxRecDepth 100000 in
set_option maxHeartbeats 4000000 in
theorem bX6_back_65 {p : Program} {l : Launch} {e : Env} {s : State} {m : MethodId} {args : Array Value} {below : List Frame} {meth : Method} {c : Code} {D : va_G} {F : (Nat → Prop) → State → Prop} {A : Nat → Prop} {ad : Nat → Nat → Nat} {cy : Nat → ClassId} {Rr : va_W} {Q : Int32 → St → Prop} (hF : Stab F) (E : CallFix p m c cX6_back 2 s args TB RX6) (hr : meth.sig.returnType = some .int) (hlk : meth.locks = false) : ∀ (n : Nat) {a1 : Int32} {σ : St} {H : Heap} {locs : List Loc} {ls : Array Slot}, wX6_back_l65 n a1 σ Q → In (D, tysM cy, F) (LM ad cy Rr σ) A s H locs → lv_has ls 2 [(0, .ref (ad 16 99)), (1, .int a1)] → W p l e (rmD 0) s m args below meth c H locs 0 0 (PI below args s (D, tysM cy, F) A (LM ad cy Rr) Q) (F0 m 65 ls []) := by
  have hx := E.1
  have hb := E.2.1
  intro n
  induction n with
  | zero => intro a1 σ H locs ls hf hI hl; exact False.elim hf
  | succ n ih =>
    intro a1 σ H locs ls hf hI hl
    have hf : wX6_back_l65s (fun a1 σ => wX6_back_l65 n a1 σ Q) a1 σ Q := hf
    unfold wX6_back_l65s at hf
    refine lv_iload_n (pc := 65) hx hb dX6_back_65 rfl (lv_at hl 1 rfl) ?_
    refine lv_iconst (v := 4) (pc := 66) hx hb dX6_back_66 rfl ?_
    refine lv_icmp_ge (tgt := 88) (pc := 67) hx hb dX6_back_67 (by decide) (fun c4 => ?_) (fun c4 => ?_)
    · have hf := hf.1 c4
      refine lv_aload_n (pc := 88) hx hb dX6_back_88 rfl (lv_at hl 0 rfl) ?_
      refine lv_aload_n (pc := 89) hx hb dX6_back_89 rfl (lv_at hl 0 rfl) ?_
      refine g6_35 (pc := 90) E hI lkX6_50 dX6_back_90 ?_
      refine p6_12 (pc := 93) E hI lkX6_73 dX6_back_93 (fun H locs σ5 eσ5 hI => ?_)
      have hf := hf σ5 eσ5
      refine lv_aload_n (pc := 96) hx hb dX6_back_96 rfl (lv_at hl 0 rfl) ?_
      refine lv_aload_n (pc := 97) hx hb dX6_back_97 rfl (lv_at hl 0 rfl) ?_
      refine g6_36 (pc := 98) E hI lkX6_425 dX6_back_98 ?_
      refine p6_7 (pc := 101) E hI lkX6_106 dX6_back_101 (fun H locs σ6 eσ6 hI => ?_)
      have hf := hf σ6 eσ6
      refine lv_aload_n (pc := 104) hx hb dX6_back_104 rfl (lv_at hl 0 rfl) ?_
      refine lv_aload_n (pc := 105) hx hb dX6_back_105 rfl (lv_at hl 0 rfl) ?_
      refine g6_37 (pc := 106) E hI lkX6_428 dX6_back_106 ?_
      refine p6_4 (pc := 109) E hI lkX6_115 dX6_back_109 (fun H locs σ7 eσ7 hI => ?_)
      have hf := hf σ7 eσ7
      refine lv_aload_n (pc := 112) hx hb dX6_back_112 rfl (lv_at hl 0 rfl) ?_
      refine lv_aload_n (pc := 113) hx hb dX6_back_113 rfl (lv_at hl 0 rfl) ?_
      refine g6_38 (pc := 114) E hI lkX6_431 dX6_back_114 ?_
      refine p6_8 (pc := 117) E hI lkX6_109 dX6_back_117 (fun H locs σ8 eσ8 hI => ?_)
      have hf := hf σ8 eσ8
      refine lv_aload_n (pc := 120) hx hb dX6_back_120 rfl (lv_at hl 0 rfl) ?_
      refine g6_12 (pc := 121) E hI lkX6_73 dX6_back_121 ?_
      exact rI (pc := 124) E hr hlk hI hf dX6_back_124
    · have hf := hf.2 c4
      refine lv_aload_n (pc := 70) hx hb dX6_back_70 rfl (lv_at hl 0 rfl) ?_
      refine g6_10 (pc := 71) E hI lkX6_26 dX6_back_71 ?_
      refine lv_iload_n (pc := 74) hx hb dX6_back_74 rfl (lv_at hl 1 rfl) ?_
      refine lv_aload_n (pc := 75) hx hb dX6_back_75 rfl (lv_at hl 0 rfl) ?_
      refine g6_34 (pc := 76) E hI lkX6_47 dX6_back_76 ?_
      refine lv_iload_n (pc := 79) hx hb dX6_back_79 rfl (lv_at hl 1 rfl) ?_
      have g9 := hf.1
      have hf := hf.2
      refine a6_34 (pc := 80) E hI g9 dX6_back_80 ?_
      have g10 := hf.1
      have hf := hf.2
      refine s6_10 (pc := 81) E hI g10 dX6_back_81 (fun H locs σ11 eσ11 hI => ?_)
      have hf := hf σ11 eσ11
      obtain ⟨x12, ex12⟩ : ∃ y : Int32, y = a1 + 1 := ⟨_, rfl⟩
      have hf := hf x12 ex12
      refine lv_iinc (v := x12) (lv' := [(1, .int x12), (0, .ref (ad 16 99))]) (pc := 82) hx hb dX6_back_82 hl (k := 1) rfl (by rw [ex12]; rfl) (by decide) rfl (fun ls hl => ?_)
      refine lv_goto (tgt := 65) (pc := 85) hx hb dX6_back_85 (by decide) ?_
      exact ih hf hI (lv_sub hl [1, 0] rfl)
def wX6_back_l39s (ih : Int32 → St → Prop) (a1 : Int32) (σ : St) (Q : Int32 → St → Prop) : Prop := ((64 ≤ a1 → ∃ n13 : Nat, wX6_back_l65 n13 0 σ Q) ∧ (¬ 64 ≤ a1 → vp_in a1 64 ∧ vp_in a1 64 ∧ ∀ σ16 : St, σ16 = sA σ 16 9 a1.toNatClampNeg (gA σ 16 33 a1.toNatClampNeg) → ∀ x17 : Int32, x17 = a1 + 1 → (ih x17 σ16)))
def wX6_back_l39 (n : Nat) : Int32 → St → (Int32 → St → Prop) → Prop := @Nat.rec (fun _ => Int32 → St → (Int32 → St → Prop) → Prop) (fun _ _ _ => False) (fun _ ih a1 σ Q => wX6_back_l39s (fun a1 σ => ih a1 σ Q) a1 σ Q) n
set_option maxRecDepth 100000 in
set_option maxHeartbeats 4000000 in
theorem bX6_back_39 {p : Program} {l : Launch} {e : Env} {s : State} {m : MethodId} {args : Array Value} {below : List Frame} {meth : Method} {c : Code} {D : va_G} {F : (Nat → Prop) → State → Prop} {A : Nat → Prop} {ad : Nat → Nat → Nat} {cy : Nat → ClassId} {Rr : va_W} {Q : Int32 → St → Prop} (hF : Stab F) (E : CallFix p m c cX6_back 2 s args TB RX6) (hr : meth.sig.returnType = some .int) (hlk : meth.locks = false) : ∀ (n : Nat) {a1 : Int32} {σ : St} {H : Heap} {locs : List Loc} {ls : Array Slot}, wX6_back_l39 n a1 σ Q → In (D, tysM cy, F) (LM ad cy Rr σ) A s H locs → lv_has ls 2 [(0, .ref (ad 16 99)), (1, .int a1)] → W p l e (rmD 0) s m args below meth c H locs 0 0 (PI below args s (D, tysM cy, F) A (LM ad cy Rr) Q) (F0 m 39 ls []) := by
  have hx := E.1
  have hb := E.2.1
  intro n
  induction n with
  | zero => intro a1 σ H locs ls hf hI hl; exact False.elim hf
  | succ n ih =>
    intro a1 σ H locs ls hf hI hl
    have hf : wX6_back_l39s (fun a1 σ => wX6_back_l39 n a1 σ Q) a1 σ Q := hf
    unfold wX6_back_l39s at hf
    refine lv_iload_n (pc := 39) hx hb dX6_back_39 rfl (lv_at hl 1 rfl) ?_
    refine lv_bipush (v := 64) (pc := 40) hx hb dX6_back_40 rfl ?_
    refine lv_icmp_ge (tgt := 63) (pc := 42) hx hb dX6_back_42 (by decide) (fun c3 => ?_) (fun c3 => ?_)
    · have hf := hf.1 c3
      refine lv_iconst (v := 0) (pc := 63) hx hb dX6_back_63 rfl ?_
      refine lv_istore_n (lv' := [(1, .int 0), (0, .ref (ad 16 99))]) (pc := 64) hx hb dX6_back_64 rfl hl (by decide) rfl (fun ls hl => ?_)
      obtain ⟨n13, hf⟩ := hf
      exact bX6_back_65 hF E hr hlk n13 hf hI (lv_sub hl [1, 0] rfl)
    · have hf := hf.2 c3
      refine lv_aload_n (pc := 45) hx hb dX6_back_45 rfl (lv_at hl 0 rfl) ?_
      refine g6_9 (pc := 46) E hI lkX6_23 dX6_back_46 ?_
      refine lv_iload_n (pc := 49) hx hb dX6_back_49 rfl (lv_at hl 1 rfl) ?_
      refine lv_aload_n (pc := 50) hx hb dX6_back_50 rfl (lv_at hl 0 rfl) ?_
      refine g6_33 (pc := 51) E hI lkX6_44 dX6_back_51 ?_
      refine lv_iload_n (pc := 54) hx hb dX6_back_54 rfl (lv_at hl 1 rfl) ?_
      have g14 := hf.1
      have hf := hf.2
      refine a6_33 (pc := 55) E hI g14 dX6_back_55 ?_
      have g15 := hf.1
      have hf := hf.2
      refine s6_9 (pc := 56) E hI g15 dX6_back_56 (fun H locs σ16 eσ16 hI => ?_)
      have hf := hf σ16 eσ16
      obtain ⟨x17, ex17⟩ : ∃ y : Int32, y = a1 + 1 := ⟨_, rfl⟩
      have hf := hf x17 ex17
      refine lv_iinc (v := x17) (lv' := [(1, .int x17), (0, .ref (ad 16 99))]) (pc := 57) hx hb dX6_back_57 hl (k := 1) rfl (by rw [ex17]; rfl) (by decide) rfl (fun ls hl => ?_)
      refine lv_goto (tgt := 39) (pc := 60) hx hb dX6_back_60 (by decide) ?_
      exact ih hf hI (lv_sub hl [1, 0] rfl)
def wX6_back_l13s (ih : Int32 → St → Prop) (a1 : Int32) (σ : St) (Q : Int32 → St → Prop) : Prop := ((25 ≤ a1 → ∃ n18 : Nat, wX6_back_l39 n18 0 σ Q) ∧ (¬ 25 ≤ a1 → vp_in a1 25 ∧ vp_in a1 25 ∧ ∀ σ21 : St, σ21 = sA σ 16 11 a1.toNatClampNeg (gA σ 16 32 a1.toNatClampNeg) → ∀ x22 : Int32, x22 = a1 + 1 → (ih x22 σ21)))
def wX6_back_l13 (n : Nat) : Int32 → St → (Int32 → St → Prop) → Prop := @Nat.rec (fun _ => Int32 → St → (Int32 → St → Prop) → Prop) (fun _ _ _ => False) (fun _ ih a1 σ Q => wX6_back_l13s (fun a1 σ => ih a1 σ Q) a1 σ Q) n
set_option maxRecDepth 100000 in
set_option maxHeartbeats 4000000 in
theorem bX6_back_13 {p : Program} {l : Launch} {e : Env} {s : State} {m : MethodId} {args : Array Value} {below : List Frame} {meth : Method} {c : Code} {D : va_G} {F : (Nat → Prop) → State → Prop} {A : Nat → Prop} {ad : Nat → Nat → Nat} {cy : Nat → ClassId} {Rr : va_W} {Q : Int32 → St → Prop} (hF : Stab F) (E : CallFix p m c cX6_back 2 s args TB RX6) (hr : meth.sig.returnType = some .int) (hlk : meth.locks = false) : ∀ (n : Nat) {a1 : Int32} {σ : St} {H : Heap} {locs : List Loc} {ls : Array Slot}, wX6_back_l13 n a1 σ Q → In (D, tysM cy, F) (LM ad cy Rr σ) A s H locs → lv_has ls 2 [(0, .ref (ad 16 99)), (1, .int a1)] → W p l e (rmD 0) s m args below meth c H locs 0 0 (PI below args s (D, tysM cy, F) A (LM ad cy Rr) Q) (F0 m 13 ls []) := by
  have hx := E.1
  have hb := E.2.1
  intro n
  induction n with
  | zero => intro a1 σ H locs ls hf hI hl; exact False.elim hf
  | succ n ih =>
    intro a1 σ H locs ls hf hI hl
    have hf : wX6_back_l13s (fun a1 σ => wX6_back_l13 n a1 σ Q) a1 σ Q := hf
    unfold wX6_back_l13s at hf
    refine lv_iload_n (pc := 13) hx hb dX6_back_13 rfl (lv_at hl 1 rfl) ?_
    refine lv_bipush (v := 25) (pc := 14) hx hb dX6_back_14 rfl ?_
    refine lv_icmp_ge (tgt := 37) (pc := 16) hx hb dX6_back_16 (by decide) (fun c2 => ?_) (fun c2 => ?_)
    · have hf := hf.1 c2
      refine lv_iconst (v := 0) (pc := 37) hx hb dX6_back_37 rfl ?_
      refine lv_istore_n (lv' := [(1, .int 0), (0, .ref (ad 16 99))]) (pc := 38) hx hb dX6_back_38 rfl hl (by decide) rfl (fun ls hl => ?_)
      obtain ⟨n18, hf⟩ := hf
      exact bX6_back_39 hF E hr hlk n18 hf hI (lv_sub hl [1, 0] rfl)
    · have hf := hf.2 c2
      refine lv_aload_n (pc := 19) hx hb dX6_back_19 rfl (lv_at hl 0 rfl) ?_
      refine g6_11 (pc := 20) E hI lkX6_29 dX6_back_20 ?_
      refine lv_iload_n (pc := 23) hx hb dX6_back_23 rfl (lv_at hl 1 rfl) ?_
      refine lv_aload_n (pc := 24) hx hb dX6_back_24 rfl (lv_at hl 0 rfl) ?_
      refine g6_32 (pc := 25) E hI lkX6_41 dX6_back_25 ?_
      refine lv_iload_n (pc := 28) hx hb dX6_back_28 rfl (lv_at hl 1 rfl) ?_
      have g19 := hf.1
      have hf := hf.2
      refine a6_32 (pc := 29) E hI g19 dX6_back_29 ?_
      have g20 := hf.1
      have hf := hf.2
      refine s6_11 (pc := 30) E hI g20 dX6_back_30 (fun H locs σ21 eσ21 hI => ?_)
      have hf := hf σ21 eσ21
      obtain ⟨x22, ex22⟩ : ∃ y : Int32, y = a1 + 1 := ⟨_, rfl⟩
      have hf := hf x22 ex22
      refine lv_iinc (v := x22) (lv' := [(1, .int x22), (0, .ref (ad 16 99))]) (pc := 31) hx hb dX6_back_31 hl (k := 1) rfl (by rw [ex22]; rfl) (by decide) rfl (fun ls hl => ?_)
      refine lv_goto (tgt := 13) (pc := 34) hx hb dX6_back_34 (by decide) ?_
      exact ih hf hI (lv_sub hl [1, 0] rfl)
def wX6_back (σ : St) (Q : Int32 → St → Prop) : Prop := ((¬ (gI σ 16 35) = (-1) → ∃ n23 : Nat, wX6_back_l13 n23 0 σ Q) ∧ ((gI σ 16 35) = (-1) → Q (-3) σ))
set_option maxRecDepth 100000 in
set_option maxHeartbeats 4000000 in
theorem bX6_back {p : Program} {l : Launch} {e : Env} {s : State} {m : MethodId} {args : Array Value} {below : List Frame} {meth : Method} {c : Code} {H : Heap} {locs : List Loc} {ls : Array Slot} {D : va_G} {F : (Nat → Prop) → State → Prop} {A : Nat → Prop} {σ : St} {ad : Nat → Nat → Nat} {cy : Nat → ClassId} {Rr : va_W} {Q : Int32 → St → Prop} (hF : Stab F) (E : CallFix p m c cX6_back 2 s args TB RX6) (hr : meth.sig.returnType = some .int) (hlk : meth.locks = false) (hf : wX6_back σ Q) (hI : In (D, tysM cy, F) (LM ad cy Rr σ) A s H locs) (hl : lv_has ls 2 [(0, .ref (ad 16 99))]) : W p l e (rmD 0) s m args below meth c H locs 0 0 (PI below args s (D, tysM cy, F) A (LM ad cy Rr) Q) (F0 m 0 ls []) := by
  have hx := E.1
  have hb := E.2.1
  unfold wX6_back at hf
  refine lv_aload_n (pc := 0) hx hb dX6_back_0 rfl (lv_at hl 0 rfl) ?_
  refine g6_35 (pc := 1) E hI lkX6_50 dX6_back_1 ?_
  refine lv_iconst (v := (-1)) (pc := 4) hx hb dX6_back_4 rfl ?_
  refine lv_icmp_ne (tgt := 11) (pc := 5) hx hb dX6_back_5 (by decide) (fun c1 => ?_) (fun c1 => ?_)
  · have hf := hf.1 c1
    refine lv_iconst (v := 0) (pc := 11) hx hb dX6_back_11 rfl ?_
    refine lv_istore_n (lv' := [(1, .int 0), (0, .ref (ad 16 99))]) (pc := 12) hx hb dX6_back_12 rfl hl (by decide) rfl (fun ls hl => ?_)
    obtain ⟨n23, hf⟩ := hf
    exact bX6_back_13 hF E hr hlk n23 hf hI (lv_sub hl [1, 0] rfl)
  · have hf := hf.2 c1
    refine lv_bipush (v := (-3)) (pc := 8) hx hb dX6_back_8 rfl ?_
    exact rI (pc := 10) E hr hlk hI hf dX6_back_10
theorem tX6_back {l : Launch} {D : va_G} {F : (Nat → Prop) → State → Prop} {σ : St} {ad : Nat → Nat → Nat} {cy : Nat → ClassId} {Rr : va_W} {Q : Int32 → St → Prop} (hF : Stab F) (hf : wX6_back σ Q) : CtI l yX6_back cX6_back 2 .int 0 (D, tysM cy, F) (LM ad cy Rr) [.ref (ad 16 99)] σ Q := mkI (by decide) (Nat.le_of_ble_eq_true rfl) (fun p e s m below meth c A E hr hlk hI ls hl => bX6_back hF E hr hlk hf hI hl)

def wX6_over (p1 : Int32) (σ : St) (Q : Int32 → St → Prop) : Prop := ((¬ p1 = 0 → ((¬ p1 = 3 → ((¬ p1 = 4 → Q 0 σ) ∧ (p1 = 4 → Q 2 σ))) ∧ (p1 = 3 → Q 1 σ))) ∧ (p1 = 0 → Q (-1) σ))
set_option maxRecDepth 100000 in
set_option maxHeartbeats 4000000 in
theorem bX6_over {p : Program} {l : Launch} {e : Env} {s : State} {m : MethodId} {args : Array Value} {below : List Frame} {meth : Method} {c : Code} {H : Heap} {locs : List Loc} {ls : Array Slot} {D : va_G} {F : (Nat → Prop) → State → Prop} {A : Nat → Prop} {σ : St} {ad : Nat → Nat → Nat} {cy : Nat → ClassId} {Rr : va_W} {Q : Int32 → St → Prop} {p1 : Int32} (hF : Stab F) (E : CallFix p m c cX6_over 1 s args TB RX6) (hr : meth.sig.returnType = some .int) (hlk : meth.locks = false) (hf : wX6_over p1 σ Q) (hI : In (D, tysM cy, F) (LM ad cy Rr σ) A s H locs) (hl : lv_has ls 1 [(0, .int p1)]) : W p l e (rmD 0) s m args below meth c H locs 0 0 (PI below args s (D, tysM cy, F) A (LM ad cy Rr) Q) (F0 m 0 ls []) := by
  have hx := E.1
  have hb := E.2.1
  unfold wX6_over at hf
  refine lv_iload_n (pc := 0) hx hb dX6_over_0 rfl (lv_at hl 0 rfl) ?_
  refine lv_if_ne (tgt := 8) (pc := 1) hx hb dX6_over_1 (by decide) (fun c1 => ?_) (fun c1 => ?_)
  · have hf := hf.1 c1
    refine lv_iload_n (pc := 8) hx hb dX6_over_8 rfl (lv_at hl 0 rfl) ?_
    refine lv_iconst (v := 3) (pc := 9) hx hb dX6_over_9 rfl ?_
    refine lv_icmp_ne (tgt := 17) (pc := 10) hx hb dX6_over_10 (by decide) (fun c2 => ?_) (fun c2 => ?_)
    · have hf := hf.1 c2
      refine lv_iload_n (pc := 17) hx hb dX6_over_17 rfl (lv_at hl 0 rfl) ?_
      refine lv_iconst (v := 4) (pc := 18) hx hb dX6_over_18 rfl ?_
      refine lv_icmp_ne (tgt := 26) (pc := 19) hx hb dX6_over_19 (by decide) (fun c3 => ?_) (fun c3 => ?_)
      · have hf := hf.1 c3
        refine lv_iconst (v := 0) (pc := 26) hx hb dX6_over_26 rfl ?_
        exact rI (pc := 27) E hr hlk hI hf dX6_over_27
      · have hf := hf.2 c3
        refine lv_iconst (v := 2) (pc := 22) hx hb dX6_over_22 rfl ?_
        refine lv_goto (tgt := 27) (pc := 23) hx hb dX6_over_23 (by decide) ?_
        exact rI (pc := 27) E hr hlk hI hf dX6_over_27
    · have hf := hf.2 c2
      refine lv_iconst (v := 1) (pc := 13) hx hb dX6_over_13 rfl ?_
      refine lv_goto (tgt := 27) (pc := 14) hx hb dX6_over_14 (by decide) ?_
      exact rI (pc := 27) E hr hlk hI hf dX6_over_27
  · have hf := hf.2 c1
    refine lv_iconst (v := (-1)) (pc := 4) hx hb dX6_over_4 rfl ?_
    refine lv_goto (tgt := 27) (pc := 5) hx hb dX6_over_5 (by decide) ?_
    exact rI (pc := 27) E hr hlk hI hf dX6_over_27
theorem tX6_over {l : Launch} {D : va_G} {F : (Nat → Prop) → State → Prop} {σ : St} {ad : Nat → Nat → Nat} {cy : Nat → ClassId} {Rr : va_W} {Q : Int32 → St → Prop} {p1 : Int32} (hF : Stab F) (hf : wX6_over p1 σ Q) : CtI l yX6_over cX6_over 1 .int 0 (D, tysM cy, F) (LM ad cy Rr) [.int p1] σ Q := mkI (by decide) (Nat.le_of_ble_eq_true rfl) (fun p e s m below meth c A E hr hlk hI ls hl => bX6_over hF E hr hlk hf hI hl)

def wX6_isOne (p1 : Int32) (σ : St) (Q : Int32 → St → Prop) : Prop := wX6_in (p1.toInt64) 0 ((((gI σ 16 12) - 1)).toInt64) σ (fun r2 σ1 => (r2 = 0 ∨ r2 = 1) ∧ Q r2 σ1)
set_option maxRecDepth 100000 in
set_option maxHeartbeats 4000000 in
theorem bX6_isOne {p : Program} {l : Launch} {e : Env} {s : State} {m : MethodId} {args : Array Value} {below : List Frame} {meth : Method} {c : Code} {H : Heap} {locs : List Loc} {ls : Array Slot} {D : va_G} {F : (Nat → Prop) → State → Prop} {A : Nat → Prop} {σ : St} {ad : Nat → Nat → Nat} {cy : Nat → ClassId} {Rr : va_W} {Q : Int32 → St → Prop} {p1 : Int32} (hF : Stab F) (E : CallFix p m c cX6_isOne 2 s args TB RX6) (hr : meth.sig.returnType = some .boolean) (hlk : meth.locks = false) (hf : wX6_isOne p1 σ Q) (hI : In (D, tysM cy, F) (LM ad cy Rr σ) A s H locs) (hl : lv_has ls 2 [(0, .ref (ad 16 99)), (1, .int p1)]) : W p l e (rmD 1) s m args below meth c H locs 0 0 (PI below args s (D, tysM cy, F) A (LM ad cy Rr) Q) (F0 m 0 ls []) := by
  have hx := E.1
  have hb := E.2.1
  unfold wX6_isOne at hf
  refine lv_iload_n (pc := 0) hx hb dX6_isOne_0 rfl (lv_at hl 1 rfl) ?_
  refine lv_i2l (v := (p1.toInt64)) (pc := 1) hx hb dX6_isOne_1 rfl ?_
  refine lv_lconst (v := 0) (pc := 2) hx hb dX6_isOne_2 rfl ?_
  refine lv_aload_n (pc := 3) hx hb dX6_isOne_3 rfl (lv_at hl 0 rfl) ?_
  refine g6_12 (pc := 4) E hI lkX6_73 dX6_isOne_4 ?_
  refine lv_iconst (v := 1) (pc := 7) hx hb dX6_isOne_7 rfl ?_
  refine lv_isub (pc := 8) hx hb dX6_isOne_8 ?_
  refine lv_i2l (v := ((((gI σ 16 12) - 1)).toInt64)) (pc := 9) hx hb dX6_isOne_9 rfl ?_
  refine callSI (G := (D, tysM cy, F)) (L := LM ad cy Rr) (pc := 10) (As := [.long (p1.toInt64), .long 0, .long ((((gI σ 16 12) - 1)).toInt64)]) (rest := []) hF E cs0 hl hI (tX6_in hF hf) mwX6_76 (fitD (by decide)) rfl rfl (Nat.le_of_ble_eq_true rfl) dX6_isOne_10 (fun r2 σ1 H locs hf hI => ?_)
  have z3 := hf.1
  have hf := hf.2
  exact rZ (pc := 13) E hr hlk hI z3 hf dX6_isOne_13
theorem tX6_isOne {l : Launch} {D : va_G} {F : (Nat → Prop) → State → Prop} {σ : St} {ad : Nat → Nat → Nat} {cy : Nat → ClassId} {Rr : va_W} {Q : Int32 → St → Prop} {p1 : Int32} (hF : Stab F) (hf : wX6_isOne p1 σ Q) : CtI l yX6_isOne cX6_isOne 2 .boolean 1 (D, tysM cy, F) (LM ad cy Rr) [.ref (ad 16 99), .int p1] σ Q := mkI (by decide) (Nat.le_of_ble_eq_true rfl) (fun p e s m below meth c A E hr hlk hI ls hl => bX6_isOne hF E hr hlk hf hI hl)

def wX6_person (p1 : Int32) (p2 : Int32) (p3 : Int32) (σ : St) (Q : Int32 → St → Prop) : Prop := wX6_in (p1.toInt64) 0 5 σ (fun r2 σ1 => ((r2 = 0 → Q (-2) σ1) ∧ (¬ r2 = 0 → wX6_in (p2.toInt64) 0 9 σ1 (fun r5 σ4 => ((r5 = 0 → Q (-2) σ4) ∧ (¬ r5 = 0 → wX6_in (p3.toInt64) 0 3 σ4 (fun r8 σ7 => ((¬ r8 = 0 → ((¬ (gI σ7 16 12) = 5 → ∀ x11 : Int32, x11 = (5 * (gI σ7 16 12)) → vp_in x11 25 ∧ ∀ σ13 : St, σ13 = sA σ7 16 11 x11.toNatClampNeg p2 → vp_in (x11 + 1) 25 ∧ ∀ σ15 : St, σ15 = sA σ13 16 11 (x11 + 1).toNatClampNeg p3 → vp_in (x11 + 2) 25 ∧ ∀ σ17 : St, σ17 = sA σ15 16 11 (x11 + 2).toNatClampNeg 0 → vp_in (x11 + 3) 25 ∧ ∀ σ19 : St, σ19 = sA σ17 16 11 (x11 + 3).toNatClampNeg 0 → vp_in (x11 + 4) 25 ∧ ∀ σ21 : St, σ21 = sA σ19 16 11 (x11 + 4).toNatClampNeg p1 → ∀ σ22 : St, σ22 = sI σ21 16 12 ((gI σ21 16 12) + 1) → Q ((gI σ22 16 12) - 1) σ22) ∧ ((gI σ7 16 12) = 5 → Q (-4) σ7))) ∧ (r8 = 0 → Q (-2) σ7)))))))))
set_option maxRecDepth 100000 in
set_option maxHeartbeats 4000000 in
theorem bX6_person {p : Program} {l : Launch} {e : Env} {s : State} {m : MethodId} {args : Array Value} {below : List Frame} {meth : Method} {c : Code} {H : Heap} {locs : List Loc} {ls : Array Slot} {D : va_G} {F : (Nat → Prop) → State → Prop} {A : Nat → Prop} {σ : St} {ad : Nat → Nat → Nat} {cy : Nat → ClassId} {Rr : va_W} {Q : Int32 → St → Prop} {p1 : Int32} {p2 : Int32} {p3 : Int32} (hF : Stab F) (E : CallFix p m c cX6_person 5 s args TB RX6) (hr : meth.sig.returnType = some .int) (hlk : meth.locks = false) (hf : wX6_person p1 p2 p3 σ Q) (hI : In (D, tysM cy, F) (LM ad cy Rr σ) A s H locs) (hl : lv_has ls 5 [(0, .ref (ad 16 99)), (1, .int p1), (2, .int p2), (3, .int p3)]) : W p l e (rmD 1) s m args below meth c H locs 0 0 (PI below args s (D, tysM cy, F) A (LM ad cy Rr) Q) (F0 m 0 ls []) := by
  have hx := E.1
  have hb := E.2.1
  unfold wX6_person at hf
  refine lv_iload_n (pc := 0) hx hb dX6_person_0 rfl (lv_at hl 1 rfl) ?_
  refine lv_i2l (v := (p1.toInt64)) (pc := 1) hx hb dX6_person_1 rfl ?_
  refine lv_lconst (v := 0) (pc := 2) hx hb dX6_person_2 rfl ?_
  refine lv_ldc2 (pc := 3) E.1 E.2.1 E.2.2.2.1 (E.2.2.2.2 _ kcX6_118) dX6_person_3 ?_
  refine callSI (G := (D, tysM cy, F)) (L := LM ad cy Rr) (pc := 6) (As := [.long (p1.toInt64), .long 0, .long 5]) (rest := []) hF E cs0 hl hI (tX6_in hF hf) mwX6_76 (fitD (by decide)) rfl rfl (Nat.le_of_ble_eq_true rfl) dX6_person_6 (fun r2 σ1 H locs hf hI => ?_)
  refine lv_if_eq (tgt := 36) (pc := 9) hx hb dX6_person_9 (by decide) (fun c3 => ?_) (fun c3 => ?_)
  · have hf := hf.1 c3
    refine lv_bipush (v := (-2)) (pc := 36) hx hb dX6_person_36 rfl ?_
    exact rI (pc := 38) E hr hlk hI hf dX6_person_38
  · have hf := hf.2 c3
    refine lv_iload_n (pc := 12) hx hb dX6_person_12 rfl (lv_at hl 2 rfl) ?_
    refine lv_i2l (v := (p2.toInt64)) (pc := 13) hx hb dX6_person_13 rfl ?_
    refine lv_lconst (v := 0) (pc := 14) hx hb dX6_person_14 rfl ?_
    refine lv_ldc2 (pc := 15) E.1 E.2.1 E.2.2.2.1 (E.2.2.2.2 _ kcX6_120) dX6_person_15 ?_
    refine callSI (G := (D, tysM cy, F)) (L := LM ad cy Rr) (pc := 18) (As := [.long (p2.toInt64), .long 0, .long 9]) (rest := []) hF E cs0 hl hI (tX6_in hF hf) mwX6_76 (fitD (by decide)) rfl rfl (Nat.le_of_ble_eq_true rfl) dX6_person_18 (fun r5 σ4 H locs hf hI => ?_)
    refine lv_if_eq (tgt := 36) (pc := 21) hx hb dX6_person_21 (by decide) (fun c6 => ?_) (fun c6 => ?_)
    · have hf := hf.1 c6
      refine lv_bipush (v := (-2)) (pc := 36) hx hb dX6_person_36 rfl ?_
      exact rI (pc := 38) E hr hlk hI hf dX6_person_38
    · have hf := hf.2 c6
      refine lv_iload_n (pc := 24) hx hb dX6_person_24 rfl (lv_at hl 3 rfl) ?_
      refine lv_i2l (v := (p3.toInt64)) (pc := 25) hx hb dX6_person_25 rfl ?_
      refine lv_lconst (v := 0) (pc := 26) hx hb dX6_person_26 rfl ?_
      refine lv_ldc2 (pc := 27) E.1 E.2.1 E.2.2.2.1 (E.2.2.2.2 _ kcX6_82) dX6_person_27 ?_
      refine callSI (G := (D, tysM cy, F)) (L := LM ad cy Rr) (pc := 30) (As := [.long (p3.toInt64), .long 0, .long 3]) (rest := []) hF E cs0 hl hI (tX6_in hF hf) mwX6_76 (fitD (by decide)) rfl rfl (Nat.le_of_ble_eq_true rfl) dX6_person_30 (fun r8 σ7 H locs hf hI => ?_)
      refine lv_if_ne (tgt := 39) (pc := 33) hx hb dX6_person_33 (by decide) (fun c9 => ?_) (fun c9 => ?_)
      · have hf := hf.1 c9
        refine lv_aload_n (pc := 39) hx hb dX6_person_39 rfl (lv_at hl 0 rfl) ?_
        refine g6_12 (pc := 40) E hI lkX6_73 dX6_person_40 ?_
        refine lv_iconst (v := 5) (pc := 43) hx hb dX6_person_43 rfl ?_
        refine lv_icmp_ne (tgt := 50) (pc := 44) hx hb dX6_person_44 (by decide) (fun c10 => ?_) (fun c10 => ?_)
        · have hf := hf.1 c10
          refine lv_iconst (v := 5) (pc := 50) hx hb dX6_person_50 rfl ?_
          refine lv_aload_n (pc := 51) hx hb dX6_person_51 rfl (lv_at hl 0 rfl) ?_
          refine g6_12 (pc := 52) E hI lkX6_73 dX6_person_52 ?_
          refine lv_imul (pc := 55) hx hb dX6_person_55 ?_
          refine lv_topi (fun x11 ex11 => ?_)
          have hf := hf x11 ex11
          refine lv_istore (lv' := [(4, .int x11), (0, .ref (ad 16 99)), (1, .int p1), (2, .int p2), (3, .int p3)]) (pc := 56) hx hb dX6_person_56 hl (by decide) rfl (fun ls hl => ?_)
          refine lv_aload_n (pc := 58) hx hb dX6_person_58 rfl (lv_at hl 1 rfl) ?_
          refine g6_11 (pc := 59) E hI lkX6_29 dX6_person_59 ?_
          refine lv_iload (pc := 62) hx hb dX6_person_62 (lv_at hl 0 rfl) ?_
          refine lv_iload_n (pc := 64) hx hb dX6_person_64 rfl (lv_at hl 3 rfl) ?_
          have g12 := hf.1
          have hf := hf.2
          refine s6_11 (pc := 65) E hI g12 dX6_person_65 (fun H locs σ13 eσ13 hI => ?_)
          have hf := hf σ13 eσ13
          refine lv_aload_n (pc := 66) hx hb dX6_person_66 rfl (lv_at hl 1 rfl) ?_
          refine g6_11 (pc := 67) E hI lkX6_29 dX6_person_67 ?_
          refine lv_iload (pc := 70) hx hb dX6_person_70 (lv_at hl 0 rfl) ?_
          refine lv_iconst (v := 1) (pc := 72) hx hb dX6_person_72 rfl ?_
          refine lv_iadd (pc := 73) hx hb dX6_person_73 ?_
          refine lv_iload_n (pc := 74) hx hb dX6_person_74 rfl (lv_at hl 4 rfl) ?_
          have g14 := hf.1
          have hf := hf.2
          refine s6_11 (pc := 75) E hI g14 dX6_person_75 (fun H locs σ15 eσ15 hI => ?_)
          have hf := hf σ15 eσ15
          refine lv_aload_n (pc := 76) hx hb dX6_person_76 rfl (lv_at hl 1 rfl) ?_
          refine g6_11 (pc := 77) E hI lkX6_29 dX6_person_77 ?_
          refine lv_iload (pc := 80) hx hb dX6_person_80 (lv_at hl 0 rfl) ?_
          refine lv_iconst (v := 2) (pc := 82) hx hb dX6_person_82 rfl ?_
          refine lv_iadd (pc := 83) hx hb dX6_person_83 ?_
          refine lv_iconst (v := 0) (pc := 84) hx hb dX6_person_84 rfl ?_
          have g16 := hf.1
          have hf := hf.2
          refine s6_11 (pc := 85) E hI g16 dX6_person_85 (fun H locs σ17 eσ17 hI => ?_)
          have hf := hf σ17 eσ17
          refine lv_aload_n (pc := 86) hx hb dX6_person_86 rfl (lv_at hl 1 rfl) ?_
          refine g6_11 (pc := 87) E hI lkX6_29 dX6_person_87 ?_
          refine lv_iload (pc := 90) hx hb dX6_person_90 (lv_at hl 0 rfl) ?_
          refine lv_iconst (v := 3) (pc := 92) hx hb dX6_person_92 rfl ?_
          refine lv_iadd (pc := 93) hx hb dX6_person_93 ?_
          refine lv_iconst (v := 0) (pc := 94) hx hb dX6_person_94 rfl ?_
          have g18 := hf.1
          have hf := hf.2
          refine s6_11 (pc := 95) E hI g18 dX6_person_95 (fun H locs σ19 eσ19 hI => ?_)
          have hf := hf σ19 eσ19
          refine lv_aload_n (pc := 96) hx hb dX6_person_96 rfl (lv_at hl 1 rfl) ?_
          refine g6_11 (pc := 97) E hI lkX6_29 dX6_person_97 ?_
          refine lv_iload (pc := 100) hx hb dX6_person_100 (lv_at hl 0 rfl) ?_
          refine lv_iconst (v := 4) (pc := 102) hx hb dX6_person_102 rfl ?_
          refine lv_iadd (pc := 103) hx hb dX6_person_103 ?_
          refine lv_iload_n (pc := 104) hx hb dX6_person_104 rfl (lv_at hl 2 rfl) ?_
          have g20 := hf.1
          have hf := hf.2
          refine s6_11 (pc := 105) E hI g20 dX6_person_105 (fun H locs σ21 eσ21 hI => ?_)
          have hf := hf σ21 eσ21
          refine lv_aload_n (pc := 106) hx hb dX6_person_106 rfl (lv_at hl 1 rfl) ?_
          refine lv_dup (pc := 107) hx hb dX6_person_107 rfl ?_
          refine g6_12 (pc := 108) E hI lkX6_73 dX6_person_108 ?_
          refine lv_iconst (v := 1) (pc := 111) hx hb dX6_person_111 rfl ?_
          refine lv_iadd (pc := 112) hx hb dX6_person_112 ?_
          refine p6_12 (pc := 113) E hI lkX6_73 dX6_person_113 (fun H locs σ22 eσ22 hI => ?_)
          have hf := hf σ22 eσ22
          refine lv_aload_n (pc := 116) hx hb dX6_person_116 rfl (lv_at hl 1 rfl) ?_
          refine g6_12 (pc := 117) E hI lkX6_73 dX6_person_117 ?_
          refine lv_iconst (v := 1) (pc := 120) hx hb dX6_person_120 rfl ?_
          refine lv_isub (pc := 121) hx hb dX6_person_121 ?_
          exact rI (pc := 122) E hr hlk hI hf dX6_person_122
        · have hf := hf.2 c10
          refine lv_bipush (v := (-4)) (pc := 47) hx hb dX6_person_47 rfl ?_
          exact rI (pc := 49) E hr hlk hI hf dX6_person_49
      · have hf := hf.2 c9
        refine lv_bipush (v := (-2)) (pc := 36) hx hb dX6_person_36 rfl ?_
        exact rI (pc := 38) E hr hlk hI hf dX6_person_38
theorem tX6_person {l : Launch} {D : va_G} {F : (Nat → Prop) → State → Prop} {σ : St} {ad : Nat → Nat → Nat} {cy : Nat → ClassId} {Rr : va_W} {Q : Int32 → St → Prop} {p1 : Int32} {p2 : Int32} {p3 : Int32} (hF : Stab F) (hf : wX6_person p1 p2 p3 σ Q) : CtI l yX6_person cX6_person 5 .int 1 (D, tysM cy, F) (LM ad cy Rr) [.ref (ad 16 99), .int p1, .int p2, .int p3] σ Q := mkI (by decide) (Nat.le_of_ble_eq_true rfl) (fun p e s m below meth c A E hr hlk hI ls hl => bX6_person hF E hr hlk hf hI hl)

def wX6_picture (p1 : Int32) (σ : St) (Q : Int64 → St → Prop) : Prop := wX6_in (p1.toInt64) 0 4 σ (fun r2 σ1 => ((¬ r2 = 0 → ((¬ p1 = 4 → wX6_wanting p1 σ1 (fun r6 σ5 => Q r6 σ5)) ∧ (p1 = 4 → Q (gJ σ1 16 8) σ1))) ∧ (r2 = 0 → Q (-4611686018427387904) σ1)))
set_option maxRecDepth 100000 in
set_option maxHeartbeats 4000000 in
theorem bX6_picture {p : Program} {l : Launch} {e : Env} {s : State} {m : MethodId} {args : Array Value} {below : List Frame} {meth : Method} {c : Code} {H : Heap} {locs : List Loc} {ls : Array Slot} {D : va_G} {F : (Nat → Prop) → State → Prop} {A : Nat → Prop} {σ : St} {ad : Nat → Nat → Nat} {cy : Nat → ClassId} {Rr : va_W} {Q : Int64 → St → Prop} {p1 : Int32} (hF : Stab F) (E : CallFix p m c cX6_picture 2 s args TB RX6) (hr : meth.sig.returnType = some .long) (hlk : meth.locks = false) (hf : wX6_picture p1 σ Q) (hI : In (D, tysM cy, F) (LM ad cy Rr σ) A s H locs) (hl : lv_has ls 2 [(0, .ref (ad 16 99)), (1, .int p1)]) : W p l e (rmD 1) s m args below meth c H locs 0 0 (PJ below args s (D, tysM cy, F) A (LM ad cy Rr) Q) (F0 m 0 ls []) := by
  have hx := E.1
  have hb := E.2.1
  unfold wX6_picture at hf
  refine lv_iload_n (pc := 0) hx hb dX6_picture_0 rfl (lv_at hl 1 rfl) ?_
  refine lv_i2l (v := (p1.toInt64)) (pc := 1) hx hb dX6_picture_1 rfl ?_
  refine lv_lconst (v := 0) (pc := 2) hx hb dX6_picture_2 rfl ?_
  refine lv_ldc2 (pc := 3) E.1 E.2.1 E.2.2.2.1 (E.2.2.2.2 _ kcX6_137) dX6_picture_3 ?_
  refine callSI (G := (D, tysM cy, F)) (L := LM ad cy Rr) (pc := 6) (As := [.long (p1.toInt64), .long 0, .long 4]) (rest := []) hF E cs0 hl hI (tX6_in hF hf) mwX6_76 (fitD (by decide)) rfl rfl (Nat.le_of_ble_eq_true rfl) dX6_picture_6 (fun r2 σ1 H locs hf hI => ?_)
  refine lv_if_ne (tgt := 16) (pc := 9) hx hb dX6_picture_9 (by decide) (fun c3 => ?_) (fun c3 => ?_)
  · have hf := hf.1 c3
    refine lv_iload_n (pc := 16) hx hb dX6_picture_16 rfl (lv_at hl 1 rfl) ?_
    refine lv_iconst (v := 4) (pc := 17) hx hb dX6_picture_17 rfl ?_
    refine lv_icmp_ne (tgt := 28) (pc := 18) hx hb dX6_picture_18 (by decide) (fun c4 => ?_) (fun c4 => ?_)
    · have hf := hf.1 c4
      refine lv_aload_n (pc := 28) hx hb dX6_picture_28 rfl (lv_at hl 0 rfl) ?_
      refine lv_iload_n (pc := 29) hx hb dX6_picture_29 rfl (lv_at hl 1 rfl) ?_
      refine callVJ (G := (D, tysM cy, F)) (L := LM ad cy Rr) (pc := 30) (As := [.int p1]) (rest := []) hF E cs0 hl hI (tX6_wanting hF hf) mwX6_141 (fitD (by decide)) (at6) rfl rfl rfl rfl (Nat.le_of_ble_eq_true rfl) dX6_picture_30 (fun r6 σ5 H locs hf hI => ?_)
      exact rJ (pc := 33) E hr hlk hI hf dX6_picture_33
    · have hf := hf.2 c4
      refine lv_aload_n (pc := 21) hx hb dX6_picture_21 rfl (lv_at hl 0 rfl) ?_
      refine g6_8 (pc := 22) E hI lkX6_109 dX6_picture_22 ?_
      refine lv_goto (tgt := 33) (pc := 25) hx hb dX6_picture_25 (by decide) ?_
      exact rJ (pc := 33) E hr hlk hI hf dX6_picture_33
  · have hf := hf.2 c3
    refine lv_ldc2 (pc := 12) E.1 E.2.1 E.2.2.2.1 (E.2.2.2.2 _ kcX6_139) dX6_picture_12 ?_
    exact rJ (pc := 15) E hr hlk hI hf dX6_picture_15
theorem tX6_picture {l : Launch} {D : va_G} {F : (Nat → Prop) → State → Prop} {σ : St} {ad : Nat → Nat → Nat} {cy : Nat → ClassId} {Rr : va_W} {Q : Int64 → St → Prop} {p1 : Int32} (hF : Stab F) (hf : wX6_picture p1 σ Q) : CtJ l yX6_picture cX6_picture 2 1 (D, tysM cy, F) (LM ad cy Rr) [.ref (ad 16 99), .int p1] σ Q := mkJ (by decide) (Nat.le_of_ble_eq_true rfl) (fun p e s m below meth c A E hr hlk hI ls hl => bX6_picture hF E hr hlk hf hI hl)

def wX6_feed (p1 : Int32) (σ : St) (Q : Int32 → St → Prop) : Prop := wX6_in (p1.toInt64) 0 255 σ (fun r2 σ1 => ((¬ r2 = 0 → ((¬ (gI σ1 16 6) = 160 → vp_in (gI σ1 16 6) 160 ∧ ∀ σ6 : St, σ6 = sA σ1 16 5 (gI σ1 16 6).toNatClampNeg p1 → ∀ σ7 : St, σ7 = sI σ6 16 6 ((gI σ6 16 6) + 1) → Q (gI σ7 16 6) σ7) ∧ ((gI σ1 16 6) = 160 → Q (-4) σ1))) ∧ (r2 = 0 → Q (-2) σ1)))
set_option maxRecDepth 100000 in
set_option maxHeartbeats 4000000 in
theorem bX6_feed {p : Program} {l : Launch} {e : Env} {s : State} {m : MethodId} {args : Array Value} {below : List Frame} {meth : Method} {c : Code} {H : Heap} {locs : List Loc} {ls : Array Slot} {D : va_G} {F : (Nat → Prop) → State → Prop} {A : Nat → Prop} {σ : St} {ad : Nat → Nat → Nat} {cy : Nat → ClassId} {Rr : va_W} {Q : Int32 → St → Prop} {p1 : Int32} (hF : Stab F) (E : CallFix p m c cX6_feed 2 s args TB RX6) (hr : meth.sig.returnType = some .int) (hlk : meth.locks = false) (hf : wX6_feed p1 σ Q) (hI : In (D, tysM cy, F) (LM ad cy Rr σ) A s H locs) (hl : lv_has ls 2 [(0, .ref (ad 16 99)), (1, .int p1)]) : W p l e (rmD 1) s m args below meth c H locs 0 0 (PI below args s (D, tysM cy, F) A (LM ad cy Rr) Q) (F0 m 0 ls []) := by
  have hx := E.1
  have hb := E.2.1
  unfold wX6_feed at hf
  refine lv_iload_n (pc := 0) hx hb dX6_feed_0 rfl (lv_at hl 1 rfl) ?_
  refine lv_i2l (v := (p1.toInt64)) (pc := 1) hx hb dX6_feed_1 rfl ?_
  refine lv_lconst (v := 0) (pc := 2) hx hb dX6_feed_2 rfl ?_
  refine lv_ldc2 (pc := 3) E.1 E.2.1 E.2.2.2.1 (E.2.2.2.2 _ kcX6_145) dX6_feed_3 ?_
  refine callSI (G := (D, tysM cy, F)) (L := LM ad cy Rr) (pc := 6) (As := [.long (p1.toInt64), .long 0, .long 255]) (rest := []) hF E cs0 hl hI (tX6_in hF hf) mwX6_76 (fitD (by decide)) rfl rfl (Nat.le_of_ble_eq_true rfl) dX6_feed_6 (fun r2 σ1 H locs hf hI => ?_)
  refine lv_if_ne (tgt := 15) (pc := 9) hx hb dX6_feed_9 (by decide) (fun c3 => ?_) (fun c3 => ?_)
  · have hf := hf.1 c3
    refine lv_aload_n (pc := 15) hx hb dX6_feed_15 rfl (lv_at hl 0 rfl) ?_
    refine g6_6 (pc := 16) E hI lkX6_147 dX6_feed_16 ?_
    refine lv_sipush (v := 160) (pc := 19) hx hb dX6_feed_19 rfl ?_
    refine lv_icmp_ne (tgt := 28) (pc := 22) hx hb dX6_feed_22 (by decide) (fun c4 => ?_) (fun c4 => ?_)
    · have hf := hf.1 c4
      refine lv_aload_n (pc := 28) hx hb dX6_feed_28 rfl (lv_at hl 0 rfl) ?_
      refine g6_5 (pc := 29) E hI lkX6_20 dX6_feed_29 ?_
      refine lv_aload_n (pc := 32) hx hb dX6_feed_32 rfl (lv_at hl 0 rfl) ?_
      refine g6_6 (pc := 33) E hI lkX6_147 dX6_feed_33 ?_
      refine lv_iload_n (pc := 36) hx hb dX6_feed_36 rfl (lv_at hl 1 rfl) ?_
      have g5 := hf.1
      have hf := hf.2
      refine s6_5 (pc := 37) E hI g5 dX6_feed_37 (fun H locs σ6 eσ6 hI => ?_)
      have hf := hf σ6 eσ6
      refine lv_aload_n (pc := 38) hx hb dX6_feed_38 rfl (lv_at hl 0 rfl) ?_
      refine lv_dup (pc := 39) hx hb dX6_feed_39 rfl ?_
      refine g6_6 (pc := 40) E hI lkX6_147 dX6_feed_40 ?_
      refine lv_iconst (v := 1) (pc := 43) hx hb dX6_feed_43 rfl ?_
      refine lv_iadd (pc := 44) hx hb dX6_feed_44 ?_
      refine p6_6 (pc := 45) E hI lkX6_147 dX6_feed_45 (fun H locs σ7 eσ7 hI => ?_)
      have hf := hf σ7 eσ7
      refine lv_aload_n (pc := 48) hx hb dX6_feed_48 rfl (lv_at hl 0 rfl) ?_
      refine g6_6 (pc := 49) E hI lkX6_147 dX6_feed_49 ?_
      exact rI (pc := 52) E hr hlk hI hf dX6_feed_52
    · have hf := hf.2 c4
      refine lv_bipush (v := (-4)) (pc := 25) hx hb dX6_feed_25 rfl ?_
      exact rI (pc := 27) E hr hlk hI hf dX6_feed_27
  · have hf := hf.2 c3
    refine lv_bipush (v := (-2)) (pc := 12) hx hb dX6_feed_12 rfl ?_
    exact rI (pc := 14) E hr hlk hI hf dX6_feed_14
theorem tX6_feed {l : Launch} {D : va_G} {F : (Nat → Prop) → State → Prop} {σ : St} {ad : Nat → Nat → Nat} {cy : Nat → ClassId} {Rr : va_W} {Q : Int32 → St → Prop} {p1 : Int32} (hF : Stab F) (hf : wX6_feed p1 σ Q) : CtI l yX6_feed cX6_feed 2 .int 1 (D, tysM cy, F) (LM ad cy Rr) [.ref (ad 16 99), .int p1] σ Q := mkI (by decide) (Nat.le_of_ble_eq_true rfl) (fun p e s m below meth c A E hr hlk hI ls hl => bX6_feed hF E hr hlk hf hI hl)

def wX6_next_j26 (σ : St) (K : St → Prop) (Q : St → Prop) : Prop := ∀ σ4 : St, σ4 = sI σ 16 22 ((gI σ 16 22) + 1) → (K σ4)
set_option maxRecDepth 100000 in
set_option maxHeartbeats 4000000 in
theorem bX6_next_26 {p : Program} {l : Launch} {e : Env} {s : State} {m : MethodId} {args : Array Value} {below : List Frame} {meth : Method} {c : Code} {H : Heap} {locs : List Loc} {ls : Array Slot} {D : va_G} {F : (Nat → Prop) → State → Prop} {A : Nat → Prop} {σ : St} {ad : Nat → Nat → Nat} {cy : Nat → ClassId} {Rr : va_W} {Q : St → Prop} {K : St → Prop} (hF : Stab F) (E : CallFix p m c cX6_next 3 s args TB RX6) (hr : meth.sig.returnType = none) (hlk : meth.locks = false) (hK : ∀ (σ : St) (H : Heap) (locs : List Loc) (ls : Array Slot), K σ → In (D, tysM cy, F) (LM ad cy Rr σ) A s H locs → lv_has ls 3 [(0, .ref (ad 16 99))] → W p l e (rmD 1) s m args below meth c H locs 0 0 (PV below args s (D, tysM cy, F) A (LM ad cy Rr) Q) (F0 m 0 ls [])) (hf : wX6_next_j26 σ K Q) (hI : In (D, tysM cy, F) (LM ad cy Rr σ) A s H locs) (hl : lv_has ls 3 [(0, .ref (ad 16 99))]) : W p l e (rmD 1) s m args below meth c H locs 0 0 (PV below args s (D, tysM cy, F) A (LM ad cy Rr) Q) (F0 m 26 ls []) := by
  have hx := E.1
  have hb := E.2.1
  unfold wX6_next_j26 at hf
  refine lv_aload_n (pc := 26) hx hb dX6_next_26 rfl (lv_at hl 0 rfl) ?_
  refine lv_dup (pc := 27) hx hb dX6_next_27 rfl ?_
  refine g6_22 (pc := 28) E hI lkX6_156 dX6_next_28 ?_
  refine lv_iconst (v := 1) (pc := 31) hx hb dX6_next_31 rfl ?_
  refine lv_iadd (pc := 32) hx hb dX6_next_32 ?_
  refine p6_22 (pc := 33) E hI lkX6_156 dX6_next_33 (fun H locs σ4 eσ4 hI => ?_)
  have hf := hf σ4 eσ4
  refine lv_goto (tgt := 0) (pc := 36) hx hb dX6_next_36 (by decide) ?_
  exact hK _ _ _ _ hf hI (lv_sub hl [0] rfl)
def wX6_next_j300 (a1 : Int32) (σ : St) (Q : St → Prop) : Prop := ∀ σ20 : St, σ20 = sI σ 16 23 3 → ∀ σ21 : St, σ21 = sJ σ20 16 25 (a1.toInt64) → ∀ σ22 : St, σ22 = sI σ21 16 22 ((gI σ21 16 22) + 1) → Q σ22
set_option maxRecDepth 100000 in
set_option maxHeartbeats 4000000 in
theorem bX6_next_300 {p : Program} {l : Launch} {e : Env} {s : State} {m : MethodId} {args : Array Value} {below : List Frame} {meth : Method} {c : Code} {H : Heap} {locs : List Loc} {ls : Array Slot} {D : va_G} {F : (Nat → Prop) → State → Prop} {A : Nat → Prop} {σ : St} {ad : Nat → Nat → Nat} {cy : Nat → ClassId} {Rr : va_W} {Q : St → Prop} {a1 : Int32} (hF : Stab F) (E : CallFix p m c cX6_next 3 s args TB RX6) (hr : meth.sig.returnType = none) (hlk : meth.locks = false) (hf : wX6_next_j300 a1 σ Q) (hI : In (D, tysM cy, F) (LM ad cy Rr σ) A s H locs) (hl : lv_has ls 3 [(0, .ref (ad 16 99)), (1, .int a1)]) : W p l e (rmD 1) s m args below meth c H locs 0 0 (PV below args s (D, tysM cy, F) A (LM ad cy Rr) Q) (F0 m 300 ls []) := by
  have hx := E.1
  have hb := E.2.1
  unfold wX6_next_j300 at hf
  refine lv_aload_n (pc := 300) hx hb dX6_next_300 rfl (lv_at hl 0 rfl) ?_
  refine lv_iconst (v := 3) (pc := 301) hx hb dX6_next_301 rfl ?_
  refine p6_23 (pc := 302) E hI lkX6_165 dX6_next_302 (fun H locs σ20 eσ20 hI => ?_)
  have hf := hf σ20 eσ20
  refine lv_aload_n (pc := 305) hx hb dX6_next_305 rfl (lv_at hl 0 rfl) ?_
  refine lv_iload_n (pc := 306) hx hb dX6_next_306 rfl (lv_at hl 1 rfl) ?_
  refine lv_i2l (v := (a1.toInt64)) (pc := 307) hx hb dX6_next_307 rfl ?_
  refine p6_25 (pc := 308) E hI lkX6_176 dX6_next_308 (fun H locs σ21 eσ21 hI => ?_)
  have hf := hf σ21 eσ21
  refine lv_aload_n (pc := 311) hx hb dX6_next_311 rfl (lv_at hl 0 rfl) ?_
  refine lv_dup (pc := 312) hx hb dX6_next_312 rfl ?_
  refine g6_22 (pc := 313) E hI lkX6_156 dX6_next_313 ?_
  refine lv_iconst (v := 1) (pc := 316) hx hb dX6_next_316 rfl ?_
  refine lv_iadd (pc := 317) hx hb dX6_next_317 ?_
  refine p6_22 (pc := 318) E hI lkX6_156 dX6_next_318 (fun H locs σ22 eσ22 hI => ?_)
  have hf := hf σ22 eσ22
  exact rV (pc := 321) E hr hlk hI hf dX6_next_321
def wX6_next_j246 (s1 : Int32) (σ : St) (Q : St → Prop) : Prop := ∀ σ38 : St, σ38 = sI σ 16 23 s1 → Q σ38
set_option maxRecDepth 100000 in
set_option maxHeartbeats 4000000 in
theorem bX6_next_246 {p : Program} {l : Launch} {e : Env} {s : State} {m : MethodId} {args : Array Value} {below : List Frame} {meth : Method} {c : Code} {H : Heap} {locs : List Loc} {ls : Array Slot} {D : va_G} {F : (Nat → Prop) → State → Prop} {A : Nat → Prop} {σ : St} {ad : Nat → Nat → Nat} {cy : Nat → ClassId} {Rr : va_W} {Q : St → Prop} {s1 : Int32} (hF : Stab F) (E : CallFix p m c cX6_next 3 s args TB RX6) (hr : meth.sig.returnType = none) (hlk : meth.locks = false) (hf : wX6_next_j246 s1 σ Q) (hI : In (D, tysM cy, F) (LM ad cy Rr σ) A s H locs) (hl : lv_has ls 3 []) : W p l e (rmD 1) s m args below meth c H locs 0 0 (PV below args s (D, tysM cy, F) A (LM ad cy Rr) Q) (F0 m 246 ls [.int s1, .ref (ad 16 99)]) := by
  have hx := E.1
  have hb := E.2.1
  unfold wX6_next_j246 at hf
  refine p6_23 (pc := 246) E hI lkX6_165 dX6_next_246 (fun H locs σ38 eσ38 hI => ?_)
  have hf := hf σ38 eσ38
  refine lv_goto (tgt := 321) (pc := 249) hx hb dX6_next_249 (by decide) ?_
  exact rV (pc := 321) E hr hlk hI hf dX6_next_321
def wX6_next_j216 (a2 : Int32) (s1 : Int64) (σ : St) (K : Int32 → St → Prop) (Q : St → Prop) : Prop := ∀ σ40 : St, σ40 = sJ σ 16 25 s1 → ∀ x41 : Int32, x41 = a2 + 1 → ∀ σ42 : St, σ42 = sI σ40 16 22 ((gI σ40 16 22) + 1) → (K x41 σ42)
set_option maxRecDepth 100000 in
set_option maxHeartbeats 4000000 in
theorem bX6_next_216 {p : Program} {l : Launch} {e : Env} {s : State} {m : MethodId} {args : Array Value} {below : List Frame} {meth : Method} {c : Code} {H : Heap} {locs : List Loc} {ls : Array Slot} {D : va_G} {F : (Nat → Prop) → State → Prop} {A : Nat → Prop} {σ : St} {ad : Nat → Nat → Nat} {cy : Nat → ClassId} {Rr : va_W} {Q : St → Prop} {a2 : Int32} {s1 : Int64} {K : Int32 → St → Prop} (hF : Stab F) (E : CallFix p m c cX6_next 3 s args TB RX6) (hr : meth.sig.returnType = none) (hlk : meth.locks = false) (hK : ∀ (a2 : Int32) (σ : St) (H : Heap) (locs : List Loc) (ls : Array Slot), K a2 σ → In (D, tysM cy, F) (LM ad cy Rr σ) A s H locs → lv_has ls 3 [(0, .ref (ad 16 99)), (2, .int a2)] → W p l e (rmD 1) s m args below meth c H locs 0 0 (PV below args s (D, tysM cy, F) A (LM ad cy Rr) Q) (F0 m 160 ls [])) (hf : wX6_next_j216 a2 s1 σ K Q) (hI : In (D, tysM cy, F) (LM ad cy Rr σ) A s H locs) (hl : lv_has ls 3 [(0, .ref (ad 16 99)), (2, .int a2)]) : W p l e (rmD 1) s m args below meth c H locs 0 0 (PV below args s (D, tysM cy, F) A (LM ad cy Rr) Q) (F0 m 216 ls [.long s1, .ref (ad 16 99)]) := by
  have hx := E.1
  have hb := E.2.1
  unfold wX6_next_j216 at hf
  refine p6_25 (pc := 216) E hI lkX6_176 dX6_next_216 (fun H locs σ40 eσ40 hI => ?_)
  have hf := hf σ40 eσ40
  obtain ⟨x41, ex41⟩ : ∃ y : Int32, y = a2 + 1 := ⟨_, rfl⟩
  have hf := hf x41 ex41
  refine lv_iinc (v := x41) (lv' := [(2, .int x41), (0, .ref (ad 16 99))]) (pc := 219) hx hb dX6_next_219 hl (k := 1) rfl (by rw [ex41]; rfl) (by decide) rfl (fun ls hl => ?_)
  refine lv_aload_n (pc := 222) hx hb dX6_next_222 rfl (lv_at hl 1 rfl) ?_
  refine lv_dup (pc := 223) hx hb dX6_next_223 rfl ?_
  refine g6_22 (pc := 224) E hI lkX6_156 dX6_next_224 ?_
  refine lv_iconst (v := 1) (pc := 227) hx hb dX6_next_227 rfl ?_
  refine lv_iadd (pc := 228) hx hb dX6_next_228 ?_
  refine p6_22 (pc := 229) E hI lkX6_156 dX6_next_229 (fun H locs σ42 eσ42 hI => ?_)
  have hf := hf σ42 eσ42
  refine lv_goto (tgt := 160) (pc := 232) hx hb dX6_next_232 (by decide) ?_
  exact hK _ _ _ _ _ hf hI (lv_sub hl [1, 0] rfl)
def wX6_next_l160s (ih : Int32 → St → Prop) (a2 : Int32) (σ : St) (Q : St → Prop) : Prop := wX6_byteAt (gI σ 16 22) σ (fun r33 σ32 => wX6_in (r33.toInt64) 48 57 σ32 (fun r35 σ34 => ((r35 = 0 → ((a2 ≤ 4 → (wX6_next_j246 2 σ34 Q)) ∧ (¬ a2 ≤ 4 → (wX6_next_j246 4 σ34 Q)))) ∧ (¬ r35 = 0 → ((4 ≤ a2 → (wX6_next_j216 a2 (gJ σ34 16 25) σ34 ih Q)) ∧ (¬ 4 ≤ a2 → wX6_byteAt (gI σ34 16 22) σ34 (fun r44 σ43 => (wX6_next_j216 a2 (((10 * (gJ σ34 16 25)) + (r44.toInt64)) - 48) σ43 ih Q))))))))
def wX6_next_l160 (n : Nat) : Int32 → St → (St → Prop) → Prop := @Nat.rec (fun _ => Int32 → St → (St → Prop) → Prop) (fun _ _ _ => False) (fun _ ih a2 σ Q => wX6_next_l160s (fun a2 σ => ih a2 σ Q) a2 σ Q) n
set_option maxRecDepth 100000 in
set_option maxHeartbeats 4000000 in
theorem bX6_next_160 {p : Program} {l : Launch} {e : Env} {s : State} {m : MethodId} {args : Array Value} {below : List Frame} {meth : Method} {c : Code} {D : va_G} {F : (Nat → Prop) → State → Prop} {A : Nat → Prop} {ad : Nat → Nat → Nat} {cy : Nat → ClassId} {Rr : va_W} {Q : St → Prop} (hF : Stab F) (E : CallFix p m c cX6_next 3 s args TB RX6) (hr : meth.sig.returnType = none) (hlk : meth.locks = false) : ∀ (n : Nat) {a2 : Int32} {σ : St} {H : Heap} {locs : List Loc} {ls : Array Slot}, wX6_next_l160 n a2 σ Q → In (D, tysM cy, F) (LM ad cy Rr σ) A s H locs → lv_has ls 3 [(0, .ref (ad 16 99)), (2, .int a2)] → W p l e (rmD 1) s m args below meth c H locs 0 0 (PV below args s (D, tysM cy, F) A (LM ad cy Rr) Q) (F0 m 160 ls []) := by
  have hx := E.1
  have hb := E.2.1
  intro n
  induction n with
  | zero => intro a2 σ H locs ls hf hI hl; exact False.elim hf
  | succ n ih =>
    intro a2 σ H locs ls hf hI hl
    have hf : wX6_next_l160s (fun a2 σ => wX6_next_l160 n a2 σ Q) a2 σ Q := hf
    unfold wX6_next_l160s at hf
    refine lv_aload_n (pc := 160) hx hb dX6_next_160 rfl (lv_at hl 0 rfl) ?_
    refine lv_aload_n (pc := 161) hx hb dX6_next_161 rfl (lv_at hl 0 rfl) ?_
    refine g6_22 (pc := 162) E hI lkX6_156 dX6_next_162 ?_
    refine callVI (G := (D, tysM cy, F)) (L := LM ad cy Rr) (pc := 165) (As := [.int (gI σ 16 22)]) (rest := []) hF E cs0 hl hI (tX6_byteAt hF hf) mwX6_159 (fitD (by decide)) (at6) rfl rfl rfl rfl (Nat.le_of_ble_eq_true rfl) dX6_next_165 (fun r33 σ32 H locs hf hI => ?_)
    refine lv_i2l (v := (r33.toInt64)) (pc := 168) hx hb dX6_next_168 rfl ?_
    refine lv_ldc2 (pc := 169) E.1 E.2.1 E.2.2.2.1 (E.2.2.2.2 _ kcX6_172) dX6_next_169 ?_
    refine lv_ldc2 (pc := 172) E.1 E.2.1 E.2.2.2.1 (E.2.2.2.2 _ kcX6_174) dX6_next_172 ?_
    refine callSI (G := (D, tysM cy, F)) (L := LM ad cy Rr) (pc := 175) (As := [.long (r33.toInt64), .long 48, .long 57]) (rest := []) hF E cs0 hl hI (tX6_in hF hf) mwX6_76 (fitD (by decide)) rfl rfl (Nat.le_of_ble_eq_true rfl) dX6_next_175 (fun r35 σ34 H locs hf hI => ?_)
    refine lv_if_eq (tgt := 235) (pc := 178) hx hb dX6_next_178 (by decide) (fun c36 => ?_) (fun c36 => ?_)
    · have hf := hf.1 c36
      refine lv_aload_n (pc := 235) hx hb dX6_next_235 rfl (lv_at hl 0 rfl) ?_
      refine lv_iload_n (pc := 236) hx hb dX6_next_236 rfl (lv_at hl 1 rfl) ?_
      refine lv_iconst (v := 4) (pc := 237) hx hb dX6_next_237 rfl ?_
      refine lv_icmp_le (tgt := 245) (pc := 238) hx hb dX6_next_238 (by decide) (fun c37 => ?_) (fun c37 => ?_)
      · have hf := hf.1 c37
        refine lv_iconst (v := 2) (pc := 245) hx hb dX6_next_245 rfl ?_
        exact bX6_next_246 hF E hr hlk hf hI (lv_sub hl [] rfl)
      · have hf := hf.2 c37
        refine lv_iconst (v := 4) (pc := 241) hx hb dX6_next_241 rfl ?_
        refine lv_goto (tgt := 246) (pc := 242) hx hb dX6_next_242 (by decide) ?_
        exact bX6_next_246 hF E hr hlk hf hI (lv_sub hl [] rfl)
    · have hf := hf.2 c36
      refine lv_aload_n (pc := 181) hx hb dX6_next_181 rfl (lv_at hl 0 rfl) ?_
      refine lv_iload_n (pc := 182) hx hb dX6_next_182 rfl (lv_at hl 1 rfl) ?_
      refine lv_iconst (v := 4) (pc := 183) hx hb dX6_next_183 rfl ?_
      refine lv_icmp_ge (tgt := 212) (pc := 184) hx hb dX6_next_184 (by decide) (fun c39 => ?_) (fun c39 => ?_)
      · have hf := hf.1 c39
        refine lv_aload_n (pc := 212) hx hb dX6_next_212 rfl (lv_at hl 0 rfl) ?_
        refine g6_25 (pc := 213) E hI lkX6_176 dX6_next_213 ?_
        exact bX6_next_216 hF E hr hlk (fun _ _ _ _ _ hf hI hl => ih hf hI hl) hf hI (lv_sub hl [0, 1] rfl)
      · have hf := hf.2 c39
        refine lv_ldc2 (pc := 187) E.1 E.2.1 E.2.2.2.1 (E.2.2.2.2 _ kcX6_179) dX6_next_187 ?_
        refine lv_aload_n (pc := 190) hx hb dX6_next_190 rfl (lv_at hl 0 rfl) ?_
        refine g6_25 (pc := 191) E hI lkX6_176 dX6_next_191 ?_
        refine lv_lmul (pc := 194) hx hb dX6_next_194 ?_
        refine lv_aload_n (pc := 195) hx hb dX6_next_195 rfl (lv_at hl 0 rfl) ?_
        refine lv_aload_n (pc := 196) hx hb dX6_next_196 rfl (lv_at hl 0 rfl) ?_
        refine g6_22 (pc := 197) E hI lkX6_156 dX6_next_197 ?_
        refine callVI (G := (D, tysM cy, F)) (L := LM ad cy Rr) (pc := 200) (As := [.int (gI σ34 16 22)]) (rest := [.long (10 * (gJ σ34 16 25)), .ref (ad 16 99)]) hF E cs0 hl hI (tX6_byteAt hF hf) mwX6_159 (fitD (by decide)) (at6) rfl rfl rfl rfl (Nat.le_of_ble_eq_true rfl) dX6_next_200 (fun r44 σ43 H locs hf hI => ?_)
        refine lv_i2l (v := (r44.toInt64)) (pc := 203) hx hb dX6_next_203 rfl ?_
        refine lv_ladd (pc := 204) hx hb dX6_next_204 ?_
        refine lv_ldc2 (pc := 205) E.1 E.2.1 E.2.2.2.1 (E.2.2.2.2 _ kcX6_172) dX6_next_205 ?_
        refine lv_lsub (pc := 208) hx hb dX6_next_208 ?_
        refine lv_goto (tgt := 216) (pc := 209) hx hb dX6_next_209 (by decide) ?_
        exact bX6_next_216 hF E hr hlk (fun _ _ _ _ _ hf hI hl => ih hf hI hl) hf hI (lv_sub hl [0, 1] rfl)
def wX6_next_l100s (ih : St → Prop) (σ : St) (Q : St → Prop) : Prop := wX6_byteAt (gI σ 16 22) σ (fun r48 σ47 => wX6_in (r48.toInt64) 97 122 σ47 (fun r50 σ49 => ((r50 = 0 → Q σ49) ∧ (¬ r50 = 0 → ∀ σ52 : St, σ52 = sI σ49 16 22 ((gI σ49 16 22) + 1) → (ih σ52)))))
def wX6_next_l100 (n : Nat) : St → (St → Prop) → Prop := @Nat.rec (fun _ => St → (St → Prop) → Prop) (fun _ _ => False) (fun _ ih σ Q => wX6_next_l100s (fun σ => ih σ Q) σ Q) n
set_option maxRecDepth 100000 in
set_option maxHeartbeats 4000000 in
theorem bX6_next_100 {p : Program} {l : Launch} {e : Env} {s : State} {m : MethodId} {args : Array Value} {below : List Frame} {meth : Method} {c : Code} {D : va_G} {F : (Nat → Prop) → State → Prop} {A : Nat → Prop} {ad : Nat → Nat → Nat} {cy : Nat → ClassId} {Rr : va_W} {Q : St → Prop} (hF : Stab F) (E : CallFix p m c cX6_next 3 s args TB RX6) (hr : meth.sig.returnType = none) (hlk : meth.locks = false) : ∀ (n : Nat) {σ : St} {H : Heap} {locs : List Loc} {ls : Array Slot}, wX6_next_l100 n σ Q → In (D, tysM cy, F) (LM ad cy Rr σ) A s H locs → lv_has ls 3 [(0, .ref (ad 16 99))] → W p l e (rmD 1) s m args below meth c H locs 0 0 (PV below args s (D, tysM cy, F) A (LM ad cy Rr) Q) (F0 m 100 ls []) := by
  have hx := E.1
  have hb := E.2.1
  intro n
  induction n with
  | zero => intro σ H locs ls hf hI hl; exact False.elim hf
  | succ n ih =>
    intro σ H locs ls hf hI hl
    have hf : wX6_next_l100s (fun σ => wX6_next_l100 n σ Q) σ Q := hf
    unfold wX6_next_l100s at hf
    refine lv_aload_n (pc := 100) hx hb dX6_next_100 rfl (lv_at hl 0 rfl) ?_
    refine lv_aload_n (pc := 101) hx hb dX6_next_101 rfl (lv_at hl 0 rfl) ?_
    refine g6_22 (pc := 102) E hI lkX6_156 dX6_next_102 ?_
    refine callVI (G := (D, tysM cy, F)) (L := LM ad cy Rr) (pc := 105) (As := [.int (gI σ 16 22)]) (rest := []) hF E cs0 hl hI (tX6_byteAt hF hf) mwX6_159 (fitD (by decide)) (at6) rfl rfl rfl rfl (Nat.le_of_ble_eq_true rfl) dX6_next_105 (fun r48 σ47 H locs hf hI => ?_)
    refine lv_i2l (v := (r48.toInt64)) (pc := 108) hx hb dX6_next_108 rfl ?_
    refine lv_ldc2 (pc := 109) E.1 E.2.1 E.2.2.2.1 (E.2.2.2.2 _ kcX6_168) dX6_next_109 ?_
    refine lv_ldc2 (pc := 112) E.1 E.2.1 E.2.2.2.1 (E.2.2.2.2 _ kcX6_170) dX6_next_112 ?_
    refine callSI (G := (D, tysM cy, F)) (L := LM ad cy Rr) (pc := 115) (As := [.long (r48.toInt64), .long 97, .long 122]) (rest := []) hF E cs0 hl hI (tX6_in hF hf) mwX6_76 (fitD (by decide)) rfl rfl (Nat.le_of_ble_eq_true rfl) dX6_next_115 (fun r50 σ49 H locs hf hI => ?_)
    refine lv_if_eq (tgt := 321) (pc := 118) hx hb dX6_next_118 (by decide) (fun c51 => ?_) (fun c51 => ?_)
    · have hf := hf.1 c51
      exact rV (pc := 321) E hr hlk hI hf dX6_next_321
    · have hf := hf.2 c51
      refine lv_aload_n (pc := 121) hx hb dX6_next_121 rfl (lv_at hl 0 rfl) ?_
      refine lv_dup (pc := 122) hx hb dX6_next_122 rfl ?_
      refine g6_22 (pc := 123) E hI lkX6_156 dX6_next_123 ?_
      refine lv_iconst (v := 1) (pc := 126) hx hb dX6_next_126 rfl ?_
      refine lv_iadd (pc := 127) hx hb dX6_next_127 ?_
      refine p6_22 (pc := 128) E hI lkX6_156 dX6_next_128 (fun H locs σ52 eσ52 hI => ?_)
      have hf := hf σ52 eσ52
      refine lv_goto (tgt := 100) (pc := 131) hx hb dX6_next_131 (by decide) ?_
      exact ih hf hI (lv_sub hl [0] rfl)
def wX6_next_l0s (ih : St → Prop) (σ : St) (Q : St → Prop) : Prop := wX6_byteAt (gI σ 16 22) σ (fun r2 σ1 => ((r2 = 32 → (wX6_next_j26 σ1 ih Q)) ∧ (¬ r2 = 32 → wX6_byteAt (gI σ1 16 22) σ1 (fun r6 σ5 => ((¬ r6 = 10 → ∀ σ8 : St, σ8 = sI σ5 16 24 (gI σ5 16 22) → wX6_byteAt (gI σ8 16 22) σ8 (fun r10 σ9 => ∀ σ11 : St, σ11 = sI σ9 16 23 4 → ((0 ≤ r10 → wX6_in (r10.toInt64) 97 122 σ11 (fun r14 σ13 => ((r14 = 0 → wX6_in (r10.toInt64) 48 57 σ13 (fun r17 σ16 => ((r17 = 0 → ((r10 = 40 → (wX6_next_j300 r10 σ16 Q)) ∧ (¬ r10 = 40 → ((r10 = 41 → (wX6_next_j300 r10 σ16 Q)) ∧ (¬ r10 = 41 → ((r10 = 59 → (wX6_next_j300 r10 σ16 Q)) ∧ (¬ r10 = 59 → ((r10 = 43 → (wX6_next_j300 r10 σ16 Q)) ∧ (¬ r10 = 43 → ((r10 = 45 → (wX6_next_j300 r10 σ16 Q)) ∧ (¬ r10 = 45 → ((r10 = 42 → (wX6_next_j300 r10 σ16 Q)) ∧ (¬ r10 = 42 → ((r10 = 60 → (wX6_next_j300 r10 σ16 Q)) ∧ (¬ r10 = 60 → ((¬ r10 = 61 → Q σ16) ∧ (r10 = 61 → (wX6_next_j300 r10 σ16 Q)))))))))))))))))) ∧ (¬ r17 = 0 → ∀ σ30 : St, σ30 = sI σ16 16 23 2 → ∀ σ31 : St, σ31 = sJ σ30 16 25 0 → ∃ n45 : Nat, wX6_next_l160 n45 0 σ31 Q)))) ∧ (¬ r14 = 0 → ∀ σ46 : St, σ46 = sI σ13 16 23 1 → ∃ n53 : Nat, wX6_next_l100 n53 σ46 Q)))) ∧ (¬ 0 ≤ r10 → ∀ σ54 : St, σ54 = sI σ11 16 23 0 → ∀ σ55 : St, σ55 = sI σ54 16 24 (gI σ54 16 21) → Q σ55)))) ∧ (r6 = 10 → (wX6_next_j26 σ5 ih Q)))))))
def wX6_next_l0 (n : Nat) : St → (St → Prop) → Prop := @Nat.rec (fun _ => St → (St → Prop) → Prop) (fun _ _ => False) (fun _ ih σ Q => wX6_next_l0s (fun σ => ih σ Q) σ Q) n
set_option maxRecDepth 100000 in
set_option maxHeartbeats 4000000 in
theorem bX6_next_0 {p : Program} {l : Launch} {e : Env} {s : State} {m : MethodId} {args : Array Value} {below : List Frame} {meth : Method} {c : Code} {D : va_G} {F : (Nat → Prop) → State → Prop} {A : Nat → Prop} {ad : Nat → Nat → Nat} {cy : Nat → ClassId} {Rr : va_W} {Q : St → Prop} (hF : Stab F) (E : CallFix p m c cX6_next 3 s args TB RX6) (hr : meth.sig.returnType = none) (hlk : meth.locks = false) : ∀ (n : Nat) {σ : St} {H : Heap} {locs : List Loc} {ls : Array Slot}, wX6_next_l0 n σ Q → In (D, tysM cy, F) (LM ad cy Rr σ) A s H locs → lv_has ls 3 [(0, .ref (ad 16 99))] → W p l e (rmD 1) s m args below meth c H locs 0 0 (PV below args s (D, tysM cy, F) A (LM ad cy Rr) Q) (F0 m 0 ls []) := by
  have hx := E.1
  have hb := E.2.1
  intro n
  induction n with
  | zero => intro σ H locs ls hf hI hl; exact False.elim hf
  | succ n ih =>
    intro σ H locs ls hf hI hl
    have hf : wX6_next_l0s (fun σ => wX6_next_l0 n σ Q) σ Q := hf
    unfold wX6_next_l0s at hf
    refine lv_aload_n (pc := 0) hx hb dX6_next_0 rfl (lv_at hl 0 rfl) ?_
    refine lv_aload_n (pc := 1) hx hb dX6_next_1 rfl (lv_at hl 0 rfl) ?_
    refine g6_22 (pc := 2) E hI lkX6_156 dX6_next_2 ?_
    refine callVI (G := (D, tysM cy, F)) (L := LM ad cy Rr) (pc := 5) (As := [.int (gI σ 16 22)]) (rest := []) hF E cs0 hl hI (tX6_byteAt hF hf) mwX6_159 (fitD (by decide)) (at6) rfl rfl rfl rfl (Nat.le_of_ble_eq_true rfl) dX6_next_5 (fun r2 σ1 H locs hf hI => ?_)
    refine lv_bipush (v := 32) (pc := 8) hx hb dX6_next_8 rfl ?_
    refine lv_icmp_eq (tgt := 26) (pc := 10) hx hb dX6_next_10 (by decide) (fun c3 => ?_) (fun c3 => ?_)
    · have hf := hf.1 c3
      exact bX6_next_26 hF E hr hlk (fun _ _ _ _ hf hI hl => ih hf hI hl) hf hI (lv_sub hl [0] rfl)
    · have hf := hf.2 c3
      refine lv_aload_n (pc := 13) hx hb dX6_next_13 rfl (lv_at hl 0 rfl) ?_
      refine lv_aload_n (pc := 14) hx hb dX6_next_14 rfl (lv_at hl 0 rfl) ?_
      refine g6_22 (pc := 15) E hI lkX6_156 dX6_next_15 ?_
      refine callVI (G := (D, tysM cy, F)) (L := LM ad cy Rr) (pc := 18) (As := [.int (gI σ1 16 22)]) (rest := []) hF E cs0 hl hI (tX6_byteAt hF hf) mwX6_159 (fitD (by decide)) (at6) rfl rfl rfl rfl (Nat.le_of_ble_eq_true rfl) dX6_next_18 (fun r6 σ5 H locs hf hI => ?_)
      refine lv_bipush (v := 10) (pc := 21) hx hb dX6_next_21 rfl ?_
      refine lv_icmp_ne (tgt := 39) (pc := 23) hx hb dX6_next_23 (by decide) (fun c7 => ?_) (fun c7 => ?_)
      · have hf := hf.1 c7
        refine lv_aload_n (pc := 39) hx hb dX6_next_39 rfl (lv_at hl 0 rfl) ?_
        refine lv_aload_n (pc := 40) hx hb dX6_next_40 rfl (lv_at hl 0 rfl) ?_
        refine g6_22 (pc := 41) E hI lkX6_156 dX6_next_41 ?_
        refine p6_24 (pc := 44) E hI lkX6_162 dX6_next_44 (fun H locs σ8 eσ8 hI => ?_)
        have hf := hf σ8 eσ8
        refine lv_aload_n (pc := 47) hx hb dX6_next_47 rfl (lv_at hl 0 rfl) ?_
        refine lv_aload_n (pc := 48) hx hb dX6_next_48 rfl (lv_at hl 0 rfl) ?_
        refine g6_22 (pc := 49) E hI lkX6_156 dX6_next_49 ?_
        refine callVI (G := (D, tysM cy, F)) (L := LM ad cy Rr) (pc := 52) (As := [.int (gI σ8 16 22)]) (rest := []) hF E cs0 hl hI (tX6_byteAt hF hf) mwX6_159 (fitD (by decide)) (at6) rfl rfl rfl rfl (Nat.le_of_ble_eq_true rfl) dX6_next_52 (fun r10 σ9 H locs hf hI => ?_)
        refine lv_istore_n (lv' := [(1, .int r10), (0, .ref (ad 16 99))]) (pc := 55) hx hb dX6_next_55 rfl hl (by decide) rfl (fun ls hl => ?_)
        refine lv_aload_n (pc := 56) hx hb dX6_next_56 rfl (lv_at hl 1 rfl) ?_
        refine lv_iconst (v := 4) (pc := 57) hx hb dX6_next_57 rfl ?_
        refine p6_23 (pc := 58) E hI lkX6_165 dX6_next_58 (fun H locs σ11 eσ11 hI => ?_)
        have hf := hf σ11 eσ11
        refine lv_iload_n (pc := 61) hx hb dX6_next_61 rfl (lv_at hl 0 rfl) ?_
        refine lv_if_ge (tgt := 81) (pc := 62) hx hb dX6_next_62 (by decide) (fun c12 => ?_) (fun c12 => ?_)
        · have hf := hf.1 c12
          refine lv_iload_n (pc := 81) hx hb dX6_next_81 rfl (lv_at hl 0 rfl) ?_
          refine lv_i2l (v := (r10.toInt64)) (pc := 82) hx hb dX6_next_82 rfl ?_
          refine lv_ldc2 (pc := 83) E.1 E.2.1 E.2.2.2.1 (E.2.2.2.2 _ kcX6_168) dX6_next_83 ?_
          refine lv_ldc2 (pc := 86) E.1 E.2.1 E.2.2.2.1 (E.2.2.2.2 _ kcX6_170) dX6_next_86 ?_
          refine callSI (G := (D, tysM cy, F)) (L := LM ad cy Rr) (pc := 89) (As := [.long (r10.toInt64), .long 97, .long 122]) (rest := []) hF E cs0 hl hI (tX6_in hF hf) mwX6_76 (fitD (by decide)) rfl rfl (Nat.le_of_ble_eq_true rfl) dX6_next_89 (fun r14 σ13 H locs hf hI => ?_)
          refine lv_if_eq (tgt := 134) (pc := 92) hx hb dX6_next_92 (by decide) (fun c15 => ?_) (fun c15 => ?_)
          · have hf := hf.1 c15
            refine lv_iload_n (pc := 134) hx hb dX6_next_134 rfl (lv_at hl 0 rfl) ?_
            refine lv_i2l (v := (r10.toInt64)) (pc := 135) hx hb dX6_next_135 rfl ?_
            refine lv_ldc2 (pc := 136) E.1 E.2.1 E.2.2.2.1 (E.2.2.2.2 _ kcX6_172) dX6_next_136 ?_
            refine lv_ldc2 (pc := 139) E.1 E.2.1 E.2.2.2.1 (E.2.2.2.2 _ kcX6_174) dX6_next_139 ?_
            refine callSI (G := (D, tysM cy, F)) (L := LM ad cy Rr) (pc := 142) (As := [.long (r10.toInt64), .long 48, .long 57]) (rest := []) hF E cs0 hl hI (tX6_in hF hf) mwX6_76 (fitD (by decide)) rfl rfl (Nat.le_of_ble_eq_true rfl) dX6_next_142 (fun r17 σ16 H locs hf hI => ?_)
            refine lv_if_eq (tgt := 252) (pc := 145) hx hb dX6_next_145 (by decide) (fun c18 => ?_) (fun c18 => ?_)
            · have hf := hf.1 c18
              refine lv_iload_n (pc := 252) hx hb dX6_next_252 rfl (lv_at hl 0 rfl) ?_
              refine lv_bipush (v := 40) (pc := 253) hx hb dX6_next_253 rfl ?_
              refine lv_icmp_eq (tgt := 300) (pc := 255) hx hb dX6_next_255 (by decide) (fun c19 => ?_) (fun c19 => ?_)
              · have hf := hf.1 c19
                exact bX6_next_300 hF E hr hlk hf hI (lv_sub hl [1, 0] rfl)
              · have hf := hf.2 c19
                refine lv_iload_n (pc := 258) hx hb dX6_next_258 rfl (lv_at hl 0 rfl) ?_
                refine lv_bipush (v := 41) (pc := 259) hx hb dX6_next_259 rfl ?_
                refine lv_icmp_eq (tgt := 300) (pc := 261) hx hb dX6_next_261 (by decide) (fun c23 => ?_) (fun c23 => ?_)
                · have hf := hf.1 c23
                  exact bX6_next_300 hF E hr hlk hf hI (lv_sub hl [1, 0] rfl)
                · have hf := hf.2 c23
                  refine lv_iload_n (pc := 264) hx hb dX6_next_264 rfl (lv_at hl 0 rfl) ?_
                  refine lv_bipush (v := 59) (pc := 265) hx hb dX6_next_265 rfl ?_
                  refine lv_icmp_eq (tgt := 300) (pc := 267) hx hb dX6_next_267 (by decide) (fun c24 => ?_) (fun c24 => ?_)
                  · have hf := hf.1 c24
                    exact bX6_next_300 hF E hr hlk hf hI (lv_sub hl [1, 0] rfl)
                  · have hf := hf.2 c24
                    refine lv_iload_n (pc := 270) hx hb dX6_next_270 rfl (lv_at hl 0 rfl) ?_
                    refine lv_bipush (v := 43) (pc := 271) hx hb dX6_next_271 rfl ?_
                    refine lv_icmp_eq (tgt := 300) (pc := 273) hx hb dX6_next_273 (by decide) (fun c25 => ?_) (fun c25 => ?_)
                    · have hf := hf.1 c25
                      exact bX6_next_300 hF E hr hlk hf hI (lv_sub hl [1, 0] rfl)
                    · have hf := hf.2 c25
                      refine lv_iload_n (pc := 276) hx hb dX6_next_276 rfl (lv_at hl 0 rfl) ?_
                      refine lv_bipush (v := 45) (pc := 277) hx hb dX6_next_277 rfl ?_
                      refine lv_icmp_eq (tgt := 300) (pc := 279) hx hb dX6_next_279 (by decide) (fun c26 => ?_) (fun c26 => ?_)
                      · have hf := hf.1 c26
                        exact bX6_next_300 hF E hr hlk hf hI (lv_sub hl [1, 0] rfl)
                      · have hf := hf.2 c26
                        refine lv_iload_n (pc := 282) hx hb dX6_next_282 rfl (lv_at hl 0 rfl) ?_
                        refine lv_bipush (v := 42) (pc := 283) hx hb dX6_next_283 rfl ?_
                        refine lv_icmp_eq (tgt := 300) (pc := 285) hx hb dX6_next_285 (by decide) (fun c27 => ?_) (fun c27 => ?_)
                        · have hf := hf.1 c27
                          exact bX6_next_300 hF E hr hlk hf hI (lv_sub hl [1, 0] rfl)
                        · have hf := hf.2 c27
                          refine lv_iload_n (pc := 288) hx hb dX6_next_288 rfl (lv_at hl 0 rfl) ?_
                          refine lv_bipush (v := 60) (pc := 289) hx hb dX6_next_289 rfl ?_
                          refine lv_icmp_eq (tgt := 300) (pc := 291) hx hb dX6_next_291 (by decide) (fun c28 => ?_) (fun c28 => ?_)
                          · have hf := hf.1 c28
                            exact bX6_next_300 hF E hr hlk hf hI (lv_sub hl [1, 0] rfl)
                          · have hf := hf.2 c28
                            refine lv_iload_n (pc := 294) hx hb dX6_next_294 rfl (lv_at hl 0 rfl) ?_
                            refine lv_bipush (v := 61) (pc := 295) hx hb dX6_next_295 rfl ?_
                            refine lv_icmp_ne (tgt := 321) (pc := 297) hx hb dX6_next_297 (by decide) (fun c29 => ?_) (fun c29 => ?_)
                            · have hf := hf.1 c29
                              exact rV (pc := 321) E hr hlk hI hf dX6_next_321
                            · have hf := hf.2 c29
                              exact bX6_next_300 hF E hr hlk hf hI (lv_sub hl [1, 0] rfl)
            · have hf := hf.2 c18
              refine lv_aload_n (pc := 148) hx hb dX6_next_148 rfl (lv_at hl 1 rfl) ?_
              refine lv_iconst (v := 2) (pc := 149) hx hb dX6_next_149 rfl ?_
              refine p6_23 (pc := 150) E hI lkX6_165 dX6_next_150 (fun H locs σ30 eσ30 hI => ?_)
              have hf := hf σ30 eσ30
              refine lv_aload_n (pc := 153) hx hb dX6_next_153 rfl (lv_at hl 1 rfl) ?_
              refine lv_lconst (v := 0) (pc := 154) hx hb dX6_next_154 rfl ?_
              refine p6_25 (pc := 155) E hI lkX6_176 dX6_next_155 (fun H locs σ31 eσ31 hI => ?_)
              have hf := hf σ31 eσ31
              refine lv_iconst (v := 0) (pc := 158) hx hb dX6_next_158 rfl ?_
              refine lv_istore_n (lv' := [(2, .int 0), (1, .int r10), (0, .ref (ad 16 99))]) (pc := 159) hx hb dX6_next_159 rfl hl (by decide) rfl (fun ls hl => ?_)
              obtain ⟨n45, hf⟩ := hf
              exact bX6_next_160 hF E hr hlk n45 hf hI (lv_sub hl [2, 0] rfl)
          · have hf := hf.2 c15
            refine lv_aload_n (pc := 95) hx hb dX6_next_95 rfl (lv_at hl 1 rfl) ?_
            refine lv_iconst (v := 1) (pc := 96) hx hb dX6_next_96 rfl ?_
            refine p6_23 (pc := 97) E hI lkX6_165 dX6_next_97 (fun H locs σ46 eσ46 hI => ?_)
            have hf := hf σ46 eσ46
            obtain ⟨n53, hf⟩ := hf
            exact bX6_next_100 hF E hr hlk n53 hf hI (lv_sub hl [1] rfl)
        · have hf := hf.2 c12
          refine lv_aload_n (pc := 65) hx hb dX6_next_65 rfl (lv_at hl 1 rfl) ?_
          refine lv_iconst (v := 0) (pc := 66) hx hb dX6_next_66 rfl ?_
          refine p6_23 (pc := 67) E hI lkX6_165 dX6_next_67 (fun H locs σ54 eσ54 hI => ?_)
          have hf := hf σ54 eσ54
          refine lv_aload_n (pc := 70) hx hb dX6_next_70 rfl (lv_at hl 1 rfl) ?_
          refine lv_aload_n (pc := 71) hx hb dX6_next_71 rfl (lv_at hl 1 rfl) ?_
          refine g6_21 (pc := 72) E hI lkX6_150 dX6_next_72 ?_
          refine p6_24 (pc := 75) E hI lkX6_162 dX6_next_75 (fun H locs σ55 eσ55 hI => ?_)
          have hf := hf σ55 eσ55
          refine lv_goto (tgt := 321) (pc := 78) hx hb dX6_next_78 (by decide) ?_
          exact rV (pc := 321) E hr hlk hI hf dX6_next_321
      · have hf := hf.2 c7
        exact bX6_next_26 hF E hr hlk (fun _ _ _ _ hf hI hl => ih hf hI hl) hf hI (lv_sub hl [0] rfl)
def wX6_next (σ : St) (Q : St → Prop) : Prop := ∃ n56 : Nat, wX6_next_l0 n56 σ Q
set_option maxRecDepth 100000 in
set_option maxHeartbeats 4000000 in
theorem bX6_next {p : Program} {l : Launch} {e : Env} {s : State} {m : MethodId} {args : Array Value} {below : List Frame} {meth : Method} {c : Code} {H : Heap} {locs : List Loc} {ls : Array Slot} {D : va_G} {F : (Nat → Prop) → State → Prop} {A : Nat → Prop} {σ : St} {ad : Nat → Nat → Nat} {cy : Nat → ClassId} {Rr : va_W} {Q : St → Prop} (hF : Stab F) (E : CallFix p m c cX6_next 3 s args TB RX6) (hr : meth.sig.returnType = none) (hlk : meth.locks = false) (hf : wX6_next σ Q) (hI : In (D, tysM cy, F) (LM ad cy Rr σ) A s H locs) (hl : lv_has ls 3 [(0, .ref (ad 16 99))]) : W p l e (rmD 1) s m args below meth c H locs 0 0 (PV below args s (D, tysM cy, F) A (LM ad cy Rr) Q) (F0 m 0 ls []) := by
  have hx := E.1
  have hb := E.2.1
  unfold wX6_next at hf
  obtain ⟨n56, hf⟩ := hf
  exact bX6_next_0 hF E hr hlk n56 hf hI (lv_sub hl [0] rfl)
theorem tX6_next {l : Launch} {D : va_G} {F : (Nat → Prop) → State → Prop} {σ : St} {ad : Nat → Nat → Nat} {cy : Nat → ClassId} {Rr : va_W} {Q : St → Prop} (hF : Stab F) (hf : wX6_next σ Q) : CtV l yX6_next cX6_next 3 1 (D, tysM cy, F) (LM ad cy Rr) [.ref (ad 16 99)] σ Q := mkV (by decide) (Nat.le_of_ble_eq_true rfl) (fun p e s m below meth c A E hr hlk hI ls hl => bX6_next hF E hr hlk hf hI hl)

def wX6_isLetter (p1 : Int32) (p2 : Int32) (σ : St) (Q : Int32 → St → Prop) : Prop := (((gI σ 16 22) ≤ ((gI σ 16 24) + p1) → ((¬ p2 = 0 → Q 0 σ) ∧ (p2 = 0 → Q 1 σ))) ∧ (¬ (gI σ 16 22) ≤ ((gI σ 16 24) + p1) → wX6_byteAt ((gI σ 16 24) + p1) σ (fun r4 σ3 => ((¬ r4 = p2 → Q 0 σ3) ∧ (r4 = p2 → Q 1 σ3)))))
set_option maxRecDepth 100000 in
set_option maxHeartbeats 4000000 in
theorem bX6_isLetter {p : Program} {l : Launch} {e : Env} {s : State} {m : MethodId} {args : Array Value} {below : List Frame} {meth : Method} {c : Code} {H : Heap} {locs : List Loc} {ls : Array Slot} {D : va_G} {F : (Nat → Prop) → State → Prop} {A : Nat → Prop} {σ : St} {ad : Nat → Nat → Nat} {cy : Nat → ClassId} {Rr : va_W} {Q : Int32 → St → Prop} {p1 : Int32} {p2 : Int32} (hF : Stab F) (E : CallFix p m c cX6_isLetter 3 s args TB RX6) (hr : meth.sig.returnType = some .boolean) (hlk : meth.locks = false) (hf : wX6_isLetter p1 p2 σ Q) (hI : In (D, tysM cy, F) (LM ad cy Rr σ) A s H locs) (hl : lv_has ls 3 [(0, .ref (ad 16 99)), (1, .int p1), (2, .int p2)]) : W p l e (rmD 1) s m args below meth c H locs 0 0 (PI below args s (D, tysM cy, F) A (LM ad cy Rr) Q) (F0 m 0 ls []) := by
  have hx := E.1
  have hb := E.2.1
  unfold wX6_isLetter at hf
  refine lv_aload_n (pc := 0) hx hb dX6_isLetter_0 rfl (lv_at hl 0 rfl) ?_
  refine g6_24 (pc := 1) E hI lkX6_162 dX6_isLetter_1 ?_
  refine lv_iload_n (pc := 4) hx hb dX6_isLetter_4 rfl (lv_at hl 1 rfl) ?_
  refine lv_iadd (pc := 5) hx hb dX6_isLetter_5 ?_
  refine lv_aload_n (pc := 6) hx hb dX6_isLetter_6 rfl (lv_at hl 0 rfl) ?_
  refine g6_22 (pc := 7) E hI lkX6_156 dX6_isLetter_7 ?_
  refine lv_icmp_ge (tgt := 35) (pc := 10) hx hb dX6_isLetter_10 (by decide) (fun c1 => ?_) (fun c1 => ?_)
  · have hf := hf.1 c1
    refine lv_iload_n (pc := 35) hx hb dX6_isLetter_35 rfl (lv_at hl 2 rfl) ?_
    refine lv_if_ne (tgt := 43) (pc := 36) hx hb dX6_isLetter_36 (by decide) (fun c2 => ?_) (fun c2 => ?_)
    · have hf := hf.1 c2
      refine lv_iconst (v := 0) (pc := 43) hx hb dX6_isLetter_43 rfl ?_
      exact rZ (pc := 44) E hr hlk hI (Or.inl rfl) hf dX6_isLetter_44
    · have hf := hf.2 c2
      refine lv_iconst (v := 1) (pc := 39) hx hb dX6_isLetter_39 rfl ?_
      refine lv_goto (tgt := 44) (pc := 40) hx hb dX6_isLetter_40 (by decide) ?_
      exact rZ (pc := 44) E hr hlk hI (Or.inr rfl) hf dX6_isLetter_44
  · have hf := hf.2 c1
    refine lv_aload_n (pc := 13) hx hb dX6_isLetter_13 rfl (lv_at hl 0 rfl) ?_
    refine lv_aload_n (pc := 14) hx hb dX6_isLetter_14 rfl (lv_at hl 0 rfl) ?_
    refine g6_24 (pc := 15) E hI lkX6_162 dX6_isLetter_15 ?_
    refine lv_iload_n (pc := 18) hx hb dX6_isLetter_18 rfl (lv_at hl 1 rfl) ?_
    refine lv_iadd (pc := 19) hx hb dX6_isLetter_19 ?_
    refine callVI (G := (D, tysM cy, F)) (L := LM ad cy Rr) (pc := 20) (As := [.int ((gI σ 16 24) + p1)]) (rest := []) hF E cs0 hl hI (tX6_byteAt hF hf) mwX6_159 (fitD (by decide)) (at6) rfl rfl rfl rfl (Nat.le_of_ble_eq_true rfl) dX6_isLetter_20 (fun r4 σ3 H locs hf hI => ?_)
    refine lv_iload_n (pc := 23) hx hb dX6_isLetter_23 rfl (lv_at hl 2 rfl) ?_
    refine lv_icmp_ne (tgt := 31) (pc := 24) hx hb dX6_isLetter_24 (by decide) (fun c5 => ?_) (fun c5 => ?_)
    · have hf := hf.1 c5
      refine lv_iconst (v := 0) (pc := 31) hx hb dX6_isLetter_31 rfl ?_
      refine lv_goto (tgt := 44) (pc := 32) hx hb dX6_isLetter_32 (by decide) ?_
      exact rZ (pc := 44) E hr hlk hI (Or.inl rfl) hf dX6_isLetter_44
    · have hf := hf.2 c5
      refine lv_iconst (v := 1) (pc := 27) hx hb dX6_isLetter_27 rfl ?_
      refine lv_goto (tgt := 44) (pc := 28) hx hb dX6_isLetter_28 (by decide) ?_
      exact rZ (pc := 44) E hr hlk hI (Or.inr rfl) hf dX6_isLetter_44
theorem tX6_isLetter {l : Launch} {D : va_G} {F : (Nat → Prop) → State → Prop} {σ : St} {ad : Nat → Nat → Nat} {cy : Nat → ClassId} {Rr : va_W} {Q : Int32 → St → Prop} {p1 : Int32} {p2 : Int32} (hF : Stab F) (hf : wX6_isLetter p1 p2 σ Q) : CtI l yX6_isLetter cX6_isLetter 3 .boolean 1 (D, tysM cy, F) (LM ad cy Rr) [.ref (ad 16 99), .int p1, .int p2] σ Q := mkI (by decide) (Nat.le_of_ble_eq_true rfl) (fun p e s m below meth c A E hr hlk hI ls hl => bX6_isLetter hF E hr hlk hf hI hl)

def wX6_force (p1 : Int32) (σ : St) (Q : Int32 → St → Prop) : Prop := wX6_in (p1.toInt64) 0 ((((gI σ 16 3) - 1)).toInt64) σ (fun r2 σ1 => ((¬ r2 = 0 → ∀ x4 : Int32, x4 = (gI σ1 16 4) → ∀ σ5 : St, σ5 = sI σ1 16 4 p1 → Q x4 σ5) ∧ (r2 = 0 → Q (-2) σ1)))
set_option maxRecDepth 100000 in
set_option maxHeartbeats 4000000 in
theorem bX6_force {p : Program} {l : Launch} {e : Env} {s : State} {m : MethodId} {args : Array Value} {below : List Frame} {meth : Method} {c : Code} {H : Heap} {locs : List Loc} {ls : Array Slot} {D : va_G} {F : (Nat → Prop) → State → Prop} {A : Nat → Prop} {σ : St} {ad : Nat → Nat → Nat} {cy : Nat → ClassId} {Rr : va_W} {Q : Int32 → St → Prop} {p1 : Int32} (hF : Stab F) (E : CallFix p m c cX6_force 3 s args TB RX6) (hr : meth.sig.returnType = some .int) (hlk : meth.locks = false) (hf : wX6_force p1 σ Q) (hI : In (D, tysM cy, F) (LM ad cy Rr σ) A s H locs) (hl : lv_has ls 3 [(0, .ref (ad 16 99)), (1, .int p1)]) : W p l e (rmD 1) s m args below meth c H locs 0 0 (PI below args s (D, tysM cy, F) A (LM ad cy Rr) Q) (F0 m 0 ls []) := by
  have hx := E.1
  have hb := E.2.1
  unfold wX6_force at hf
  refine lv_iload_n (pc := 0) hx hb dX6_force_0 rfl (lv_at hl 1 rfl) ?_
  refine lv_i2l (v := (p1.toInt64)) (pc := 1) hx hb dX6_force_1 rfl ?_
  refine lv_lconst (v := 0) (pc := 2) hx hb dX6_force_2 rfl ?_
  refine lv_aload_n (pc := 3) hx hb dX6_force_3 rfl (lv_at hl 0 rfl) ?_
  refine g6_3 (pc := 4) E hI lkX6_70 dX6_force_4 ?_
  refine lv_iconst (v := 1) (pc := 7) hx hb dX6_force_7 rfl ?_
  refine lv_isub (pc := 8) hx hb dX6_force_8 ?_
  refine lv_i2l (v := ((((gI σ 16 3) - 1)).toInt64)) (pc := 9) hx hb dX6_force_9 rfl ?_
  refine callSI (G := (D, tysM cy, F)) (L := LM ad cy Rr) (pc := 10) (As := [.long (p1.toInt64), .long 0, .long ((((gI σ 16 3) - 1)).toInt64)]) (rest := []) hF E cs0 hl hI (tX6_in hF hf) mwX6_76 (fitD (by decide)) rfl rfl (Nat.le_of_ble_eq_true rfl) dX6_force_10 (fun r2 σ1 H locs hf hI => ?_)
  refine lv_if_ne (tgt := 19) (pc := 13) hx hb dX6_force_13 (by decide) (fun c3 => ?_) (fun c3 => ?_)
  · have hf := hf.1 c3
    refine lv_aload_n (pc := 19) hx hb dX6_force_19 rfl (lv_at hl 0 rfl) ?_
    refine g6_4 (pc := 20) E hI lkX6_115 dX6_force_20 ?_
    refine lv_topi (fun x4 ex4 => ?_)
    have hf := hf x4 ex4
    refine lv_istore_n (lv' := [(2, .int x4), (0, .ref (ad 16 99)), (1, .int p1)]) (pc := 23) hx hb dX6_force_23 rfl hl (by decide) rfl (fun ls hl => ?_)
    refine lv_aload_n (pc := 24) hx hb dX6_force_24 rfl (lv_at hl 1 rfl) ?_
    refine lv_iload_n (pc := 25) hx hb dX6_force_25 rfl (lv_at hl 2 rfl) ?_
    refine p6_4 (pc := 26) E hI lkX6_115 dX6_force_26 (fun H locs σ5 eσ5 hI => ?_)
    have hf := hf σ5 eσ5
    refine lv_iload_n (pc := 29) hx hb dX6_force_29 rfl (lv_at hl 0 rfl) ?_
    exact rI (pc := 30) E hr hlk hI hf dX6_force_30
  · have hf := hf.2 c3
    refine lv_bipush (v := (-2)) (pc := 16) hx hb dX6_force_16 rfl ?_
    exact rI (pc := 18) E hr hlk hI hf dX6_force_18
theorem tX6_force {l : Launch} {D : va_G} {F : (Nat → Prop) → State → Prop} {σ : St} {ad : Nat → Nat → Nat} {cy : Nat → ClassId} {Rr : va_W} {Q : Int32 → St → Prop} {p1 : Int32} (hF : Stab F) (hf : wX6_force p1 σ Q) : CtI l yX6_force cX6_force 3 .int 1 (D, tysM cy, F) (LM ad cy Rr) [.ref (ad 16 99), .int p1] σ Q := mkI (by decide) (Nat.le_of_ble_eq_true rfl) (fun p e s m below meth c A E hr hlk hI ls hl => bX6_force hF E hr hlk hf hI hl)

def wX6_firstEmpty_j36 (a1 : Int32) (a2 : Int32) (σ : St) (K : Int32 → Int32 → St → Prop) (Q : Int32 → St → Prop) : Prop := ∀ x5 : Int32, x5 = a2 + 1 → (K a1 x5 σ)
set_option maxRecDepth 100000 in
set_option maxHeartbeats 4000000 in
theorem bX6_firstEmpty_36 {p : Program} {l : Launch} {e : Env} {s : State} {m : MethodId} {args : Array Value} {below : List Frame} {meth : Method} {c : Code} {H : Heap} {locs : List Loc} {ls : Array Slot} {D : va_G} {F : (Nat → Prop) → State → Prop} {A : Nat → Prop} {σ : St} {ad : Nat → Nat → Nat} {cy : Nat → ClassId} {Rr : va_W} {Q : Int32 → St → Prop} {a1 : Int32} {a2 : Int32} {K : Int32 → Int32 → St → Prop} (hF : Stab F) (E : CallFix p m c cX6_firstEmpty 3 s args TB RX6) (hr : meth.sig.returnType = some .int) (hlk : meth.locks = false) (hK : ∀ (a1 : Int32) (a2 : Int32) (σ : St) (H : Heap) (locs : List Loc) (ls : Array Slot), K a1 a2 σ → In (D, tysM cy, F) (LM ad cy Rr σ) A s H locs → lv_has ls 3 [(0, .ref (ad 16 99)), (1, .int a1), (2, .int a2)] → W p l e (rmD 1) s m args below meth c H locs 0 0 (PI below args s (D, tysM cy, F) A (LM ad cy Rr) Q) (F0 m 2 ls [])) (hf : wX6_firstEmpty_j36 a1 a2 σ K Q) (hI : In (D, tysM cy, F) (LM ad cy Rr σ) A s H locs) (hl : lv_has ls 3 [(0, .ref (ad 16 99)), (1, .int a1), (2, .int a2)]) : W p l e (rmD 1) s m args below meth c H locs 0 0 (PI below args s (D, tysM cy, F) A (LM ad cy Rr) Q) (F0 m 36 ls []) := by
  have hx := E.1
  have hb := E.2.1
  unfold wX6_firstEmpty_j36 at hf
  obtain ⟨x5, ex5⟩ : ∃ y : Int32, y = a2 + 1 := ⟨_, rfl⟩
  have hf := hf x5 ex5
  refine lv_iinc (v := x5) (lv' := [(2, .int x5), (0, .ref (ad 16 99)), (1, .int a1)]) (pc := 36) hx hb dX6_firstEmpty_36 hl (k := 2) rfl (by rw [ex5]; rfl) (by decide) rfl (fun ls hl => ?_)
  refine lv_goto (tgt := 2) (pc := 39) hx hb dX6_firstEmpty_39 (by decide) ?_
  exact hK _ _ _ _ _ _ hf hI (lv_sub hl [1, 2, 0] rfl)
def wX6_firstEmpty_l2s (ih : Int32 → Int32 → St → Prop) (a1 : Int32) (a2 : Int32) (σ : St) (Q : Int32 → St → Prop) : Prop := ((64 ≤ a2 → Q (-1) σ) ∧ (¬ 64 ≤ a2 → wX6_has (gJ σ 16 8) a2 σ (fun r3 σ2 => ((¬ r3 = 0 → (wX6_firstEmpty_j36 a1 a2 σ2 ih Q)) ∧ (r3 = 0 → ((a1 = (-1) → Q a2 σ2) ∧ (¬ a1 = (-1) → vp_in a2 64 ∧ ((¬ (gA σ2 16 9 a2.toNatClampNeg) = a1 → (wX6_firstEmpty_j36 a1 a2 σ2 ih Q)) ∧ ((gA σ2 16 9 a2.toNatClampNeg) = a1 → Q a2 σ2)))))))))
def wX6_firstEmpty_l2 (n : Nat) : Int32 → Int32 → St → (Int32 → St → Prop) → Prop := @Nat.rec (fun _ => Int32 → Int32 → St → (Int32 → St → Prop) → Prop) (fun _ _ _ _ => False) (fun _ ih a1 a2 σ Q => wX6_firstEmpty_l2s (fun a1 a2 σ => ih a1 a2 σ Q) a1 a2 σ Q) n
set_option maxRecDepth 100000 in
set_option maxHeartbeats 4000000 in
theorem bX6_firstEmpty_2 {p : Program} {l : Launch} {e : Env} {s : State} {m : MethodId} {args : Array Value} {below : List Frame} {meth : Method} {c : Code} {D : va_G} {F : (Nat → Prop) → State → Prop} {A : Nat → Prop} {ad : Nat → Nat → Nat} {cy : Nat → ClassId} {Rr : va_W} {Q : Int32 → St → Prop} (hF : Stab F) (E : CallFix p m c cX6_firstEmpty 3 s args TB RX6) (hr : meth.sig.returnType = some .int) (hlk : meth.locks = false) : ∀ (n : Nat) {a1 : Int32} {a2 : Int32} {σ : St} {H : Heap} {locs : List Loc} {ls : Array Slot}, wX6_firstEmpty_l2 n a1 a2 σ Q → In (D, tysM cy, F) (LM ad cy Rr σ) A s H locs → lv_has ls 3 [(0, .ref (ad 16 99)), (1, .int a1), (2, .int a2)] → W p l e (rmD 1) s m args below meth c H locs 0 0 (PI below args s (D, tysM cy, F) A (LM ad cy Rr) Q) (F0 m 2 ls []) := by
  have hx := E.1
  have hb := E.2.1
  intro n
  induction n with
  | zero => intro a1 a2 σ H locs ls hf hI hl; exact False.elim hf
  | succ n ih =>
    intro a1 a2 σ H locs ls hf hI hl
    have hf : wX6_firstEmpty_l2s (fun a1 a2 σ => wX6_firstEmpty_l2 n a1 a2 σ Q) a1 a2 σ Q := hf
    unfold wX6_firstEmpty_l2s at hf
    refine lv_iload_n (pc := 2) hx hb dX6_firstEmpty_2 rfl (lv_at hl 2 rfl) ?_
    refine lv_bipush (v := 64) (pc := 3) hx hb dX6_firstEmpty_3 rfl ?_
    refine lv_icmp_ge (tgt := 42) (pc := 5) hx hb dX6_firstEmpty_5 (by decide) (fun c1 => ?_) (fun c1 => ?_)
    · have hf := hf.1 c1
      refine lv_iconst (v := (-1)) (pc := 42) hx hb dX6_firstEmpty_42 rfl ?_
      exact rI (pc := 43) E hr hlk hI hf dX6_firstEmpty_43
    · have hf := hf.2 c1
      refine lv_aload_n (pc := 8) hx hb dX6_firstEmpty_8 rfl (lv_at hl 0 rfl) ?_
      refine g6_8 (pc := 9) E hI lkX6_109 dX6_firstEmpty_9 ?_
      refine lv_iload_n (pc := 12) hx hb dX6_firstEmpty_12 rfl (lv_at hl 2 rfl) ?_
      refine callSI (G := (D, tysM cy, F)) (L := LM ad cy Rr) (pc := 13) (As := [.long (gJ σ 16 8), .int a2]) (rest := []) hF E cs0 hl hI (tX6_has hF hf) mwX6_124 (fitD (by decide)) rfl rfl (Nat.le_of_ble_eq_true rfl) dX6_firstEmpty_13 (fun r3 σ2 H locs hf hI => ?_)
      refine lv_if_ne (tgt := 36) (pc := 16) hx hb dX6_firstEmpty_16 (by decide) (fun c4 => ?_) (fun c4 => ?_)
      · have hf := hf.1 c4
        exact bX6_firstEmpty_36 hF E hr hlk (fun _ _ _ _ _ _ hf hI hl => ih hf hI hl) hf hI (lv_sub hl [0, 1, 2] rfl)
      · have hf := hf.2 c4
        refine lv_iload_n (pc := 19) hx hb dX6_firstEmpty_19 rfl (lv_at hl 1 rfl) ?_
        refine lv_iconst (v := (-1)) (pc := 20) hx hb dX6_firstEmpty_20 rfl ?_
        refine lv_icmp_eq (tgt := 34) (pc := 21) hx hb dX6_firstEmpty_21 (by decide) (fun c6 => ?_) (fun c6 => ?_)
        · have hf := hf.1 c6
          refine lv_iload_n (pc := 34) hx hb dX6_firstEmpty_34 rfl (lv_at hl 2 rfl) ?_
          exact rI (pc := 35) E hr hlk hI hf dX6_firstEmpty_35
        · have hf := hf.2 c6
          refine lv_aload_n (pc := 24) hx hb dX6_firstEmpty_24 rfl (lv_at hl 0 rfl) ?_
          refine g6_9 (pc := 25) E hI lkX6_23 dX6_firstEmpty_25 ?_
          refine lv_iload_n (pc := 28) hx hb dX6_firstEmpty_28 rfl (lv_at hl 2 rfl) ?_
          have g7 := hf.1
          have hf := hf.2
          refine a6_9 (pc := 29) E hI g7 dX6_firstEmpty_29 ?_
          refine lv_iload_n (pc := 30) hx hb dX6_firstEmpty_30 rfl (lv_at hl 1 rfl) ?_
          refine lv_icmp_ne (tgt := 36) (pc := 31) hx hb dX6_firstEmpty_31 (by decide) (fun c8 => ?_) (fun c8 => ?_)
          · have hf := hf.1 c8
            exact bX6_firstEmpty_36 hF E hr hlk (fun _ _ _ _ _ _ hf hI hl => ih hf hI hl) hf hI (lv_sub hl [0, 1, 2] rfl)
          · have hf := hf.2 c8
            refine lv_iload_n (pc := 34) hx hb dX6_firstEmpty_34 rfl (lv_at hl 2 rfl) ?_
            exact rI (pc := 35) E hr hlk hI hf dX6_firstEmpty_35
def wX6_firstEmpty (p1 : Int32) (σ : St) (Q : Int32 → St → Prop) : Prop := ∃ n9 : Nat, wX6_firstEmpty_l2 n9 p1 0 σ Q
set_option maxRecDepth 100000 in
set_option maxHeartbeats 4000000 in
theorem bX6_firstEmpty {p : Program} {l : Launch} {e : Env} {s : State} {m : MethodId} {args : Array Value} {below : List Frame} {meth : Method} {c : Code} {H : Heap} {locs : List Loc} {ls : Array Slot} {D : va_G} {F : (Nat → Prop) → State → Prop} {A : Nat → Prop} {σ : St} {ad : Nat → Nat → Nat} {cy : Nat → ClassId} {Rr : va_W} {Q : Int32 → St → Prop} {p1 : Int32} (hF : Stab F) (E : CallFix p m c cX6_firstEmpty 3 s args TB RX6) (hr : meth.sig.returnType = some .int) (hlk : meth.locks = false) (hf : wX6_firstEmpty p1 σ Q) (hI : In (D, tysM cy, F) (LM ad cy Rr σ) A s H locs) (hl : lv_has ls 3 [(0, .ref (ad 16 99)), (1, .int p1)]) : W p l e (rmD 1) s m args below meth c H locs 0 0 (PI below args s (D, tysM cy, F) A (LM ad cy Rr) Q) (F0 m 0 ls []) := by
  have hx := E.1
  have hb := E.2.1
  unfold wX6_firstEmpty at hf
  refine lv_iconst (v := 0) (pc := 0) hx hb dX6_firstEmpty_0 rfl ?_
  refine lv_istore_n (lv' := [(2, .int 0), (0, .ref (ad 16 99)), (1, .int p1)]) (pc := 1) hx hb dX6_firstEmpty_1 rfl hl (by decide) rfl (fun ls hl => ?_)
  obtain ⟨n9, hf⟩ := hf
  exact bX6_firstEmpty_2 hF E hr hlk n9 hf hI (lv_sub hl [1, 2, 0] rfl)
theorem tX6_firstEmpty {l : Launch} {D : va_G} {F : (Nat → Prop) → State → Prop} {σ : St} {ad : Nat → Nat → Nat} {cy : Nat → ClassId} {Rr : va_W} {Q : Int32 → St → Prop} {p1 : Int32} (hF : Stab F) (hf : wX6_firstEmpty p1 σ Q) : CtI l yX6_firstEmpty cX6_firstEmpty 3 .int 1 (D, tysM cy, F) (LM ad cy Rr) [.ref (ad 16 99), .int p1] σ Q := mkI (by decide) (Nat.le_of_ble_eq_true rfl) (fun p e s m below meth c A E hr hlk hI ls hl => bX6_firstEmpty hF E hr hlk hf hI hl)

def wX6_longest_j56 (a1 : Int32) (a2 : Int32) (a3 : Int32) (a4 : Int32) (a5 : Int32) (σ : St) (K : Int32 → Int32 → Int32 → Int32 → Int32 → St → Prop) (Q : Int32 → St → Prop) : Prop := ∀ x7 : Int32, x7 = a5 + 1 → (K a1 a2 a3 a4 x7 σ)
set_option maxRecDepth 100000 in
set_option maxHeartbeats 4000000 in
theorem bX6_longest_56 {p : Program} {l : Launch} {e : Env} {s : State} {m : MethodId} {args : Array Value} {below : List Frame} {meth : Method} {c : Code} {H : Heap} {locs : List Loc} {ls : Array Slot} {D : va_G} {F : (Nat → Prop) → State → Prop} {A : Nat → Prop} {σ : St} {ad : Nat → Nat → Nat} {cy : Nat → ClassId} {Rr : va_W} {Q : Int32 → St → Prop} {a1 : Int32} {a2 : Int32} {a3 : Int32} {a4 : Int32} {a5 : Int32} {K : Int32 → Int32 → Int32 → Int32 → Int32 → St → Prop} (hF : Stab F) (E : CallFix p m c cX6_longest 6 s args TB RX6) (hr : meth.sig.returnType = some .int) (hlk : meth.locks = false) (hK : ∀ (a1 : Int32) (a2 : Int32) (a3 : Int32) (a4 : Int32) (a5 : Int32) (σ : St) (H : Heap) (locs : List Loc) (ls : Array Slot), K a1 a2 a3 a4 a5 σ → In (D, tysM cy, F) (LM ad cy Rr σ) A s H locs → lv_has ls 6 [(0, .ref (ad 16 99)), (1, .int a1), (2, .int a2), (3, .int a3), (4, .int a4), (5, .int a5)] → W p l e (rmD 1) s m args below meth c H locs 0 0 (PI below args s (D, tysM cy, F) A (LM ad cy Rr) Q) (F0 m 10 ls [])) (hf : wX6_longest_j56 a1 a2 a3 a4 a5 σ K Q) (hI : In (D, tysM cy, F) (LM ad cy Rr σ) A s H locs) (hl : lv_has ls 6 [(0, .ref (ad 16 99)), (1, .int a1), (2, .int a2), (3, .int a3), (4, .int a4), (5, .int a5)]) : W p l e (rmD 1) s m args below meth c H locs 0 0 (PI below args s (D, tysM cy, F) A (LM ad cy Rr) Q) (F0 m 56 ls []) := by
  have hx := E.1
  have hb := E.2.1
  unfold wX6_longest_j56 at hf
  obtain ⟨x7, ex7⟩ : ∃ y : Int32, y = a5 + 1 := ⟨_, rfl⟩
  have hf := hf x7 ex7
  refine lv_iinc (v := x7) (lv' := [(5, .int x7), (0, .ref (ad 16 99)), (1, .int a1), (2, .int a2), (3, .int a3), (4, .int a4)]) (pc := 56) hx hb dX6_longest_56 hl (k := 5) rfl (by rw [ex7]; rfl) (by decide) rfl (fun ls hl => ?_)
  refine lv_goto (tgt := 10) (pc := 59) hx hb dX6_longest_59 (by decide) ?_
  exact hK _ _ _ _ _ _ _ _ _ hf hI (lv_sub hl [1, 2, 3, 4, 5, 0] rfl)
def wX6_longest_j37 (a1 : Int32) (a2 : Int32) (a3 : Int32) (a5 : Int32) (s0 : Int32) (σ : St) (K : Int32 → Int32 → Int32 → Int32 → Int32 → St → Prop) (Q : Int32 → St → Prop) : Prop := ((s0 ≤ a3 → (wX6_longest_j56 a1 a2 a3 s0 a5 σ K Q)) ∧ (¬ s0 ≤ a3 → ∀ x8 : Int32, x8 = ((a5 - s0) + 1) → (wX6_longest_j56 a1 x8 s0 s0 a5 σ K Q)))
set_option maxRecDepth 100000 in
set_option maxHeartbeats 4000000 in
theorem bX6_longest_37 {p : Program} {l : Launch} {e : Env} {s : State} {m : MethodId} {args : Array Value} {below : List Frame} {meth : Method} {c : Code} {H : Heap} {locs : List Loc} {ls : Array Slot} {D : va_G} {F : (Nat → Prop) → State → Prop} {A : Nat → Prop} {σ : St} {ad : Nat → Nat → Nat} {cy : Nat → ClassId} {Rr : va_W} {Q : Int32 → St → Prop} {a1 : Int32} {a2 : Int32} {a3 : Int32} {a5 : Int32} {s0 : Int32} {K : Int32 → Int32 → Int32 → Int32 → Int32 → St → Prop} (hF : Stab F) (E : CallFix p m c cX6_longest 6 s args TB RX6) (hr : meth.sig.returnType = some .int) (hlk : meth.locks = false) (hK : ∀ (a1 : Int32) (a2 : Int32) (a3 : Int32) (a4 : Int32) (a5 : Int32) (σ : St) (H : Heap) (locs : List Loc) (ls : Array Slot), K a1 a2 a3 a4 a5 σ → In (D, tysM cy, F) (LM ad cy Rr σ) A s H locs → lv_has ls 6 [(0, .ref (ad 16 99)), (1, .int a1), (2, .int a2), (3, .int a3), (4, .int a4), (5, .int a5)] → W p l e (rmD 1) s m args below meth c H locs 0 0 (PI below args s (D, tysM cy, F) A (LM ad cy Rr) Q) (F0 m 10 ls [])) (hf : wX6_longest_j37 a1 a2 a3 a5 s0 σ K Q) (hI : In (D, tysM cy, F) (LM ad cy Rr σ) A s H locs) (hl : lv_has ls 6 [(0, .ref (ad 16 99)), (1, .int a1), (2, .int a2), (3, .int a3), (5, .int a5)]) : W p l e (rmD 1) s m args below meth c H locs 0 0 (PI below args s (D, tysM cy, F) A (LM ad cy Rr) Q) (F0 m 37 ls [.int s0]) := by
  have hx := E.1
  have hb := E.2.1
  unfold wX6_longest_j37 at hf
  refine lv_istore (lv' := [(4, .int s0), (0, .ref (ad 16 99)), (1, .int a1), (2, .int a2), (3, .int a3), (5, .int a5)]) (pc := 37) hx hb dX6_longest_37 hl (by decide) rfl (fun ls hl => ?_)
  refine lv_iload (pc := 39) hx hb dX6_longest_39 (lv_at hl 0 rfl) ?_
  refine lv_iload_n (pc := 41) hx hb dX6_longest_41 rfl (lv_at hl 4 rfl) ?_
  refine lv_icmp_le (tgt := 56) (pc := 42) hx hb dX6_longest_42 (by decide) (fun c6 => ?_) (fun c6 => ?_)
  · have hf := hf.1 c6
    exact bX6_longest_56 hF E hr hlk hK hf hI (lv_sub hl [1, 2, 3, 4, 0, 5] rfl)
  · have hf := hf.2 c6
    refine lv_iload (pc := 45) hx hb dX6_longest_45 (lv_at hl 5 rfl) ?_
    refine lv_iload (pc := 47) hx hb dX6_longest_47 (lv_at hl 0 rfl) ?_
    refine lv_isub (pc := 49) hx hb dX6_longest_49 ?_
    refine lv_iconst (v := 1) (pc := 50) hx hb dX6_longest_50 rfl ?_
    refine lv_iadd (pc := 51) hx hb dX6_longest_51 ?_
    refine lv_topi (fun x8 ex8 => ?_)
    have hf := hf x8 ex8
    refine lv_istore_n (lv' := [(2, .int x8), (4, .int s0), (0, .ref (ad 16 99)), (1, .int a1), (3, .int a3), (5, .int a5)]) (pc := 52) hx hb dX6_longest_52 rfl hl (by decide) rfl (fun ls hl => ?_)
    refine lv_iload (pc := 53) hx hb dX6_longest_53 (lv_at hl 1 rfl) ?_
    refine lv_istore_n (lv' := [(3, .int s0), (2, .int x8), (4, .int s0), (0, .ref (ad 16 99)), (1, .int a1), (5, .int a5)]) (pc := 55) hx hb dX6_longest_55 rfl hl (by decide) rfl (fun ls hl => ?_)
    exact bX6_longest_56 hF E hr hlk hK hf hI (lv_sub hl [3, 4, 1, 0, 2, 5] rfl)
def wX6_longest_l10s (ih : Int32 → Int32 → Int32 → Int32 → Int32 → St → Prop) (a1 : Int32) (a2 : Int32) (a3 : Int32) (a4 : Int32) (a5 : Int32) (σ : St) (Q : Int32 → St → Prop) : Prop := ((64 ≤ a5 → ((¬ a1 = 0 → Q a3 σ) ∧ (a1 = 0 → Q a2 σ))) ∧ (¬ 64 ≤ a5 → wX6_has (gJ σ 16 8) a5 σ (fun r4 σ3 => ((r4 = 0 → (wX6_longest_j37 a1 a2 a3 a5 (a4 + 1) σ3 ih Q)) ∧ (¬ r4 = 0 → (wX6_longest_j37 a1 a2 a3 a5 0 σ3 ih Q))))))
def wX6_longest_l10 (n : Nat) : Int32 → Int32 → Int32 → Int32 → Int32 → St → (Int32 → St → Prop) → Prop := @Nat.rec (fun _ => Int32 → Int32 → Int32 → Int32 → Int32 → St → (Int32 → St → Prop) → Prop) (fun _ _ _ _ _ _ _ => False) (fun _ ih a1 a2 a3 a4 a5 σ Q => wX6_longest_l10s (fun a1 a2 a3 a4 a5 σ => ih a1 a2 a3 a4 a5 σ Q) a1 a2 a3 a4 a5 σ Q) n
set_option maxRecDepth 100000 in
set_option maxHeartbeats 4000000 in
theorem bX6_longest_10 {p : Program} {l : Launch} {e : Env} {s : State} {m : MethodId} {args : Array Value} {below : List Frame} {meth : Method} {c : Code} {D : va_G} {F : (Nat → Prop) → State → Prop} {A : Nat → Prop} {ad : Nat → Nat → Nat} {cy : Nat → ClassId} {Rr : va_W} {Q : Int32 → St → Prop} (hF : Stab F) (E : CallFix p m c cX6_longest 6 s args TB RX6) (hr : meth.sig.returnType = some .int) (hlk : meth.locks = false) : ∀ (n : Nat) {a1 : Int32} {a2 : Int32} {a3 : Int32} {a4 : Int32} {a5 : Int32} {σ : St} {H : Heap} {locs : List Loc} {ls : Array Slot}, wX6_longest_l10 n a1 a2 a3 a4 a5 σ Q → In (D, tysM cy, F) (LM ad cy Rr σ) A s H locs → lv_has ls 6 [(0, .ref (ad 16 99)), (1, .int a1), (2, .int a2), (3, .int a3), (4, .int a4), (5, .int a5)] → W p l e (rmD 1) s m args below meth c H locs 0 0 (PI below args s (D, tysM cy, F) A (LM ad cy Rr) Q) (F0 m 10 ls []) := by
  have hx := E.1
  have hb := E.2.1
  intro n
  induction n with
  | zero => intro a1 a2 a3 a4 a5 σ H locs ls hf hI hl; exact False.elim hf
  | succ n ih =>
    intro a1 a2 a3 a4 a5 σ H locs ls hf hI hl
    have hf : wX6_longest_l10s (fun a1 a2 a3 a4 a5 σ => wX6_longest_l10 n a1 a2 a3 a4 a5 σ Q) a1 a2 a3 a4 a5 σ Q := hf
    unfold wX6_longest_l10s at hf
    refine lv_iload (pc := 10) hx hb dX6_longest_10 (lv_at hl 5 rfl) ?_
    refine lv_bipush (v := 64) (pc := 12) hx hb dX6_longest_12 rfl ?_
    refine lv_icmp_ge (tgt := 62) (pc := 14) hx hb dX6_longest_14 (by decide) (fun c1 => ?_) (fun c1 => ?_)
    · have hf := hf.1 c1
      refine lv_iload_n (pc := 62) hx hb dX6_longest_62 rfl (lv_at hl 1 rfl) ?_
      refine lv_if_ne (tgt := 70) (pc := 63) hx hb dX6_longest_63 (by decide) (fun c2 => ?_) (fun c2 => ?_)
      · have hf := hf.1 c2
        refine lv_iload_n (pc := 70) hx hb dX6_longest_70 rfl (lv_at hl 3 rfl) ?_
        exact rI (pc := 71) E hr hlk hI hf dX6_longest_71
      · have hf := hf.2 c2
        refine lv_iload_n (pc := 66) hx hb dX6_longest_66 rfl (lv_at hl 2 rfl) ?_
        refine lv_goto (tgt := 71) (pc := 67) hx hb dX6_longest_67 (by decide) ?_
        exact rI (pc := 71) E hr hlk hI hf dX6_longest_71
    · have hf := hf.2 c1
      refine lv_aload_n (pc := 17) hx hb dX6_longest_17 rfl (lv_at hl 0 rfl) ?_
      refine g6_8 (pc := 18) E hI lkX6_109 dX6_longest_18 ?_
      refine lv_iload (pc := 21) hx hb dX6_longest_21 (lv_at hl 5 rfl) ?_
      refine callSI (G := (D, tysM cy, F)) (L := LM ad cy Rr) (pc := 23) (As := [.long (gJ σ 16 8), .int a5]) (rest := []) hF E cs0 hl hI (tX6_has hF hf) mwX6_124 (fitD (by decide)) rfl rfl (Nat.le_of_ble_eq_true rfl) dX6_longest_23 (fun r4 σ3 H locs hf hI => ?_)
      refine lv_if_eq (tgt := 33) (pc := 26) hx hb dX6_longest_26 (by decide) (fun c5 => ?_) (fun c5 => ?_)
      · have hf := hf.1 c5
        refine lv_iload (pc := 33) hx hb dX6_longest_33 (lv_at hl 4 rfl) ?_
        refine lv_iconst (v := 1) (pc := 35) hx hb dX6_longest_35 rfl ?_
        refine lv_iadd (pc := 36) hx hb dX6_longest_36 ?_
        exact bX6_longest_37 hF E hr hlk (fun _ _ _ _ _ _ _ _ _ hf hI hl => ih hf hI hl) hf hI (lv_sub hl [0, 1, 2, 3, 5] rfl)
      · have hf := hf.2 c5
        refine lv_iconst (v := 0) (pc := 29) hx hb dX6_longest_29 rfl ?_
        refine lv_goto (tgt := 37) (pc := 30) hx hb dX6_longest_30 (by decide) ?_
        exact bX6_longest_37 hF E hr hlk (fun _ _ _ _ _ _ _ _ _ hf hI hl => ih hf hI hl) hf hI (lv_sub hl [0, 1, 2, 3, 5] rfl)
def wX6_longest (p1 : Int32) (σ : St) (Q : Int32 → St → Prop) : Prop := ∃ n9 : Nat, wX6_longest_l10 n9 p1 (-1) 0 0 0 σ Q
set_option maxRecDepth 100000 in
set_option maxHeartbeats 4000000 in
theorem bX6_longest {p : Program} {l : Launch} {e : Env} {s : State} {m : MethodId} {args : Array Value} {below : List Frame} {meth : Method} {c : Code} {H : Heap} {locs : List Loc} {ls : Array Slot} {D : va_G} {F : (Nat → Prop) → State → Prop} {A : Nat → Prop} {σ : St} {ad : Nat → Nat → Nat} {cy : Nat → ClassId} {Rr : va_W} {Q : Int32 → St → Prop} {p1 : Int32} (hF : Stab F) (E : CallFix p m c cX6_longest 6 s args TB RX6) (hr : meth.sig.returnType = some .int) (hlk : meth.locks = false) (hf : wX6_longest p1 σ Q) (hI : In (D, tysM cy, F) (LM ad cy Rr σ) A s H locs) (hl : lv_has ls 6 [(0, .ref (ad 16 99)), (1, .int p1)]) : W p l e (rmD 1) s m args below meth c H locs 0 0 (PI below args s (D, tysM cy, F) A (LM ad cy Rr) Q) (F0 m 0 ls []) := by
  have hx := E.1
  have hb := E.2.1
  unfold wX6_longest at hf
  refine lv_iconst (v := (-1)) (pc := 0) hx hb dX6_longest_0 rfl ?_
  refine lv_istore_n (lv' := [(2, .int (-1)), (0, .ref (ad 16 99)), (1, .int p1)]) (pc := 1) hx hb dX6_longest_1 rfl hl (by decide) rfl (fun ls hl => ?_)
  refine lv_iconst (v := 0) (pc := 2) hx hb dX6_longest_2 rfl ?_
  refine lv_istore_n (lv' := [(3, .int 0), (2, .int (-1)), (0, .ref (ad 16 99)), (1, .int p1)]) (pc := 3) hx hb dX6_longest_3 rfl hl (by decide) rfl (fun ls hl => ?_)
  refine lv_iconst (v := 0) (pc := 4) hx hb dX6_longest_4 rfl ?_
  refine lv_istore (lv' := [(4, .int 0), (3, .int 0), (2, .int (-1)), (0, .ref (ad 16 99)), (1, .int p1)]) (pc := 5) hx hb dX6_longest_5 hl (by decide) rfl (fun ls hl => ?_)
  refine lv_iconst (v := 0) (pc := 7) hx hb dX6_longest_7 rfl ?_
  refine lv_istore (lv' := [(5, .int 0), (4, .int 0), (3, .int 0), (2, .int (-1)), (0, .ref (ad 16 99)), (1, .int p1)]) (pc := 8) hx hb dX6_longest_8 hl (by decide) rfl (fun ls hl => ?_)
  obtain ⟨n9, hf⟩ := hf
  exact bX6_longest_10 hF E hr hlk n9 hf hI (lv_sub hl [4, 5, 3, 2, 1, 0] rfl)
theorem tX6_longest {l : Launch} {D : va_G} {F : (Nat → Prop) → State → Prop} {σ : St} {ad : Nat → Nat → Nat} {cy : Nat → ClassId} {Rr : va_W} {Q : Int32 → St → Prop} {p1 : Int32} (hF : Stab F) (hf : wX6_longest p1 σ Q) : CtI l yX6_longest cX6_longest 6 .int 1 (D, tysM cy, F) (LM ad cy Rr) [.ref (ad 16 99), .int p1] σ Q := mkI (by decide) (Nat.le_of_ble_eq_true rfl) (fun p e s m below meth c A E hr hlk hI ls hl => bX6_longest hF E hr hlk hf hI hl)

def wX6_share_l4s (ih : Int32 → Int32 → Int32 → St → Prop) (a1 : Int32) (a2 : Int32) (a3 : Int32) (σ : St) (Q : Int64 → St → Prop) : Prop := (((gI σ 16 12) ≤ a3 → wX6_in (a1.toInt64) 0 1 σ (fun r3 σ2 => ((r3 = 0 → Q (-4611686018427387904) σ2) ∧ (¬ r3 = 0 → ((a2 ≤ 0 → Q (-4611686018427387904) σ2) ∧ (¬ a2 ≤ 0 → wX6_bitsOf (gJ σ2 16 8) σ2 (fun r7 σ6 => wX6_lowest (r7.toInt64) (a2.toInt64) a1 σ6 (fun r9 σ8 => Q r9 σ8)))))))) ∧ (¬ (gI σ 16 12) ≤ a3 → vp_in ((5 * a3) + 3) 25 ∧ ∀ x11 : Int32, x11 = (a2 + (gA σ 16 11 ((5 * a3) + 3).toNatClampNeg)) → ∀ x12 : Int32, x12 = a3 + 1 → (ih a1 x11 x12 σ)))
def wX6_share_l4 (n : Nat) : Int32 → Int32 → Int32 → St → (Int64 → St → Prop) → Prop := @Nat.rec (fun _ => Int32 → Int32 → Int32 → St → (Int64 → St → Prop) → Prop) (fun _ _ _ _ _ => False) (fun _ ih a1 a2 a3 σ Q => wX6_share_l4s (fun a1 a2 a3 σ => ih a1 a2 a3 σ Q) a1 a2 a3 σ Q) n
set_option maxRecDepth 100000 in
set_option maxHeartbeats 4000000 in
theorem bX6_share_4 {p : Program} {l : Launch} {e : Env} {s : State} {m : MethodId} {args : Array Value} {below : List Frame} {meth : Method} {c : Code} {D : va_G} {F : (Nat → Prop) → State → Prop} {A : Nat → Prop} {ad : Nat → Nat → Nat} {cy : Nat → ClassId} {Rr : va_W} {Q : Int64 → St → Prop} (hF : Stab F) (E : CallFix p m c cX6_share 4 s args TB RX6) (hr : meth.sig.returnType = some .long) (hlk : meth.locks = false) : ∀ (n : Nat) {a1 : Int32} {a2 : Int32} {a3 : Int32} {σ : St} {H : Heap} {locs : List Loc} {ls : Array Slot}, wX6_share_l4 n a1 a2 a3 σ Q → In (D, tysM cy, F) (LM ad cy Rr σ) A s H locs → lv_has ls 4 [(0, .ref (ad 16 99)), (1, .int a1), (2, .int a2), (3, .int a3)] → W p l e (rmD 1) s m args below meth c H locs 0 0 (PJ below args s (D, tysM cy, F) A (LM ad cy Rr) Q) (F0 m 4 ls []) := by
  have hx := E.1
  have hb := E.2.1
  intro n
  induction n with
  | zero => intro a1 a2 a3 σ H locs ls hf hI hl; exact False.elim hf
  | succ n ih =>
    intro a1 a2 a3 σ H locs ls hf hI hl
    have hf : wX6_share_l4s (fun a1 a2 a3 σ => wX6_share_l4 n a1 a2 a3 σ Q) a1 a2 a3 σ Q := hf
    unfold wX6_share_l4s at hf
    refine lv_iload_n (pc := 4) hx hb dX6_share_4 rfl (lv_at hl 3 rfl) ?_
    refine lv_aload_n (pc := 5) hx hb dX6_share_5 rfl (lv_at hl 0 rfl) ?_
    refine g6_12 (pc := 6) E hI lkX6_73 dX6_share_6 ?_
    refine lv_icmp_ge (tgt := 31) (pc := 9) hx hb dX6_share_9 (by decide) (fun c1 => ?_) (fun c1 => ?_)
    · have hf := hf.1 c1
      refine lv_iload_n (pc := 31) hx hb dX6_share_31 rfl (lv_at hl 1 rfl) ?_
      refine lv_i2l (v := (a1.toInt64)) (pc := 32) hx hb dX6_share_32 rfl ?_
      refine lv_lconst (v := 0) (pc := 33) hx hb dX6_share_33 rfl ?_
      refine lv_lconst (v := 1) (pc := 34) hx hb dX6_share_34 rfl ?_
      refine callSI (G := (D, tysM cy, F)) (L := LM ad cy Rr) (pc := 35) (As := [.long (a1.toInt64), .long 0, .long 1]) (rest := []) hF E cs0 hl hI (tX6_in hF hf) mwX6_76 (fitD (by decide)) rfl rfl (Nat.le_of_ble_eq_true rfl) dX6_share_35 (fun r3 σ2 H locs hf hI => ?_)
      refine lv_if_eq (tgt := 62) (pc := 38) hx hb dX6_share_38 (by decide) (fun c4 => ?_) (fun c4 => ?_)
      · have hf := hf.1 c4
        refine lv_ldc2 (pc := 62) E.1 E.2.1 E.2.2.2.1 (E.2.2.2.2 _ kcX6_139) dX6_share_62 ?_
        exact rJ (pc := 65) E hr hlk hI hf dX6_share_65
      · have hf := hf.2 c4
        refine lv_iload_n (pc := 41) hx hb dX6_share_41 rfl (lv_at hl 2 rfl) ?_
        refine lv_if_le (tgt := 62) (pc := 42) hx hb dX6_share_42 (by decide) (fun c5 => ?_) (fun c5 => ?_)
        · have hf := hf.1 c5
          refine lv_ldc2 (pc := 62) E.1 E.2.1 E.2.2.2.1 (E.2.2.2.2 _ kcX6_139) dX6_share_62 ?_
          exact rJ (pc := 65) E hr hlk hI hf dX6_share_65
        · have hf := hf.2 c5
          refine lv_aload_n (pc := 45) hx hb dX6_share_45 rfl (lv_at hl 0 rfl) ?_
          refine g6_8 (pc := 46) E hI lkX6_109 dX6_share_46 ?_
          refine callSI (G := (D, tysM cy, F)) (L := LM ad cy Rr) (pc := 49) (As := [.long (gJ σ2 16 8)]) (rest := []) hF E cs0 hl hI (tX6_bitsOf hF hf) mwX6_352 (fitD (by decide)) rfl rfl (Nat.le_of_ble_eq_true rfl) dX6_share_49 (fun r7 σ6 H locs hf hI => ?_)
          refine lv_i2l (v := (r7.toInt64)) (pc := 52) hx hb dX6_share_52 rfl ?_
          refine lv_iload_n (pc := 53) hx hb dX6_share_53 rfl (lv_at hl 2 rfl) ?_
          refine lv_i2l (v := (a2.toInt64)) (pc := 54) hx hb dX6_share_54 rfl ?_
          refine lv_iload_n (pc := 55) hx hb dX6_share_55 rfl (lv_at hl 1 rfl) ?_
          refine callSJ (G := (D, tysM cy, F)) (L := LM ad cy Rr) (pc := 56) (As := [.long (r7.toInt64), .long (a2.toInt64), .int a1]) (rest := []) hF E cs0 hl hI (tX6_lowest hF hf) mwX6_404 (fitD (by decide)) rfl rfl (Nat.le_of_ble_eq_true rfl) dX6_share_56 (fun r9 σ8 H locs hf hI => ?_)
          refine lv_goto (tgt := 65) (pc := 59) hx hb dX6_share_59 (by decide) ?_
          exact rJ (pc := 65) E hr hlk hI hf dX6_share_65
    · have hf := hf.2 c1
      refine lv_iload_n (pc := 12) hx hb dX6_share_12 rfl (lv_at hl 2 rfl) ?_
      refine lv_aload_n (pc := 13) hx hb dX6_share_13 rfl (lv_at hl 0 rfl) ?_
      refine g6_11 (pc := 14) E hI lkX6_29 dX6_share_14 ?_
      refine lv_iconst (v := 5) (pc := 17) hx hb dX6_share_17 rfl ?_
      refine lv_iload_n (pc := 18) hx hb dX6_share_18 rfl (lv_at hl 3 rfl) ?_
      refine lv_imul (pc := 19) hx hb dX6_share_19 ?_
      refine lv_iconst (v := 3) (pc := 20) hx hb dX6_share_20 rfl ?_
      refine lv_iadd (pc := 21) hx hb dX6_share_21 ?_
      have g10 := hf.1
      have hf := hf.2
      refine a6_11 (pc := 22) E hI g10 dX6_share_22 ?_
      refine lv_iadd (pc := 23) hx hb dX6_share_23 ?_
      refine lv_topi (fun x11 ex11 => ?_)
      have hf := hf x11 ex11
      refine lv_istore_n (lv' := [(2, .int x11), (0, .ref (ad 16 99)), (1, .int a1), (3, .int a3)]) (pc := 24) hx hb dX6_share_24 rfl hl (by decide) rfl (fun ls hl => ?_)
      obtain ⟨x12, ex12⟩ : ∃ y : Int32, y = a3 + 1 := ⟨_, rfl⟩
      have hf := hf x12 ex12
      refine lv_iinc (v := x12) (lv' := [(3, .int x12), (2, .int x11), (0, .ref (ad 16 99)), (1, .int a1)]) (pc := 25) hx hb dX6_share_25 hl (k := 3) rfl (by rw [ex12]; rfl) (by decide) rfl (fun ls hl => ?_)
      refine lv_goto (tgt := 4) (pc := 28) hx hb dX6_share_28 (by decide) ?_
      exact ih hf hI (lv_sub hl [2, 3, 1, 0] rfl)
def wX6_share (p1 : Int32) (σ : St) (Q : Int64 → St → Prop) : Prop := ∃ n13 : Nat, wX6_share_l4 n13 p1 0 0 σ Q
set_option maxRecDepth 100000 in
set_option maxHeartbeats 4000000 in
theorem bX6_share {p : Program} {l : Launch} {e : Env} {s : State} {m : MethodId} {args : Array Value} {below : List Frame} {meth : Method} {c : Code} {H : Heap} {locs : List Loc} {ls : Array Slot} {D : va_G} {F : (Nat → Prop) → State → Prop} {A : Nat → Prop} {σ : St} {ad : Nat → Nat → Nat} {cy : Nat → ClassId} {Rr : va_W} {Q : Int64 → St → Prop} {p1 : Int32} (hF : Stab F) (E : CallFix p m c cX6_share 4 s args TB RX6) (hr : meth.sig.returnType = some .long) (hlk : meth.locks = false) (hf : wX6_share p1 σ Q) (hI : In (D, tysM cy, F) (LM ad cy Rr σ) A s H locs) (hl : lv_has ls 4 [(0, .ref (ad 16 99)), (1, .int p1)]) : W p l e (rmD 1) s m args below meth c H locs 0 0 (PJ below args s (D, tysM cy, F) A (LM ad cy Rr) Q) (F0 m 0 ls []) := by
  have hx := E.1
  have hb := E.2.1
  unfold wX6_share at hf
  refine lv_iconst (v := 0) (pc := 0) hx hb dX6_share_0 rfl ?_
  refine lv_istore_n (lv' := [(2, .int 0), (0, .ref (ad 16 99)), (1, .int p1)]) (pc := 1) hx hb dX6_share_1 rfl hl (by decide) rfl (fun ls hl => ?_)
  refine lv_iconst (v := 0) (pc := 2) hx hb dX6_share_2 rfl ?_
  refine lv_istore_n (lv' := [(3, .int 0), (2, .int 0), (0, .ref (ad 16 99)), (1, .int p1)]) (pc := 3) hx hb dX6_share_3 rfl hl (by decide) rfl (fun ls hl => ?_)
  obtain ⟨n13, hf⟩ := hf
  exact bX6_share_4 hF E hr hlk n13 hf hI (lv_sub hl [2, 3, 1, 0] rfl)
theorem tX6_share {l : Launch} {D : va_G} {F : (Nat → Prop) → State → Prop} {σ : St} {ad : Nat → Nat → Nat} {cy : Nat → ClassId} {Rr : va_W} {Q : Int64 → St → Prop} {p1 : Int32} (hF : Stab F) (hf : wX6_share p1 σ Q) : CtJ l yX6_share cX6_share 4 1 (D, tysM cy, F) (LM ad cy Rr) [.ref (ad 16 99), .int p1] σ Q := mkJ (by decide) (Nat.le_of_ble_eq_true rfl) (fun p e s m below meth c A E hr hlk hI ls hl => bX6_share hF E hr hlk hf hI hl)

def wX6_count (p1 : Int32) (σ : St) (Q : Int32 → St → Prop) : Prop := wX6_in (p1.toInt64) 0 5 σ (fun r2 σ1 => ((¬ r2 = 0 → ((¬ p1 = 0 → ((¬ p1 = 1 → ((¬ p1 = 2 → ((¬ p1 = 3 → ((¬ p1 = 4 → Q (gI σ1 16 4) σ1) ∧ (p1 = 4 → Q (gI σ1 16 6) σ1))) ∧ (p1 = 3 → Q (gI σ1 16 3) σ1))) ∧ (p1 = 2 → Q (gI σ1 16 7) σ1))) ∧ (p1 = 1 → wX6_bitsOf (gJ σ1 16 8) σ1 (fun r10 σ9 => Q r10 σ9)))) ∧ (p1 = 0 → Q (gI σ1 16 12) σ1))) ∧ (r2 = 0 → Q (-2) σ1)))
set_option maxRecDepth 100000 in
set_option maxHeartbeats 4000000 in
theorem bX6_count {p : Program} {l : Launch} {e : Env} {s : State} {m : MethodId} {args : Array Value} {below : List Frame} {meth : Method} {c : Code} {H : Heap} {locs : List Loc} {ls : Array Slot} {D : va_G} {F : (Nat → Prop) → State → Prop} {A : Nat → Prop} {σ : St} {ad : Nat → Nat → Nat} {cy : Nat → ClassId} {Rr : va_W} {Q : Int32 → St → Prop} {p1 : Int32} (hF : Stab F) (E : CallFix p m c cX6_count 2 s args TB RX6) (hr : meth.sig.returnType = some .int) (hlk : meth.locks = false) (hf : wX6_count p1 σ Q) (hI : In (D, tysM cy, F) (LM ad cy Rr σ) A s H locs) (hl : lv_has ls 2 [(0, .ref (ad 16 99)), (1, .int p1)]) : W p l e (rmD 1) s m args below meth c H locs 0 0 (PI below args s (D, tysM cy, F) A (LM ad cy Rr) Q) (F0 m 0 ls []) := by
  have hx := E.1
  have hb := E.2.1
  unfold wX6_count at hf
  refine lv_iload_n (pc := 0) hx hb dX6_count_0 rfl (lv_at hl 1 rfl) ?_
  refine lv_i2l (v := (p1.toInt64)) (pc := 1) hx hb dX6_count_1 rfl ?_
  refine lv_lconst (v := 0) (pc := 2) hx hb dX6_count_2 rfl ?_
  refine lv_ldc2 (pc := 3) E.1 E.2.1 E.2.2.2.1 (E.2.2.2.2 _ kcX6_118) dX6_count_3 ?_
  refine callSI (G := (D, tysM cy, F)) (L := LM ad cy Rr) (pc := 6) (As := [.long (p1.toInt64), .long 0, .long 5]) (rest := []) hF E cs0 hl hI (tX6_in hF hf) mwX6_76 (fitD (by decide)) rfl rfl (Nat.le_of_ble_eq_true rfl) dX6_count_6 (fun r2 σ1 H locs hf hI => ?_)
  refine lv_if_ne (tgt := 15) (pc := 9) hx hb dX6_count_9 (by decide) (fun c3 => ?_) (fun c3 => ?_)
  · have hf := hf.1 c3
    refine lv_iload_n (pc := 15) hx hb dX6_count_15 rfl (lv_at hl 1 rfl) ?_
    refine lv_if_ne (tgt := 26) (pc := 16) hx hb dX6_count_16 (by decide) (fun c4 => ?_) (fun c4 => ?_)
    · have hf := hf.1 c4
      refine lv_iload_n (pc := 26) hx hb dX6_count_26 rfl (lv_at hl 1 rfl) ?_
      refine lv_iconst (v := 1) (pc := 27) hx hb dX6_count_27 rfl ?_
      refine lv_icmp_ne (tgt := 41) (pc := 28) hx hb dX6_count_28 (by decide) (fun c5 => ?_) (fun c5 => ?_)
      · have hf := hf.1 c5
        refine lv_iload_n (pc := 41) hx hb dX6_count_41 rfl (lv_at hl 1 rfl) ?_
        refine lv_iconst (v := 2) (pc := 42) hx hb dX6_count_42 rfl ?_
        refine lv_icmp_ne (tgt := 53) (pc := 43) hx hb dX6_count_43 (by decide) (fun c6 => ?_) (fun c6 => ?_)
        · have hf := hf.1 c6
          refine lv_iload_n (pc := 53) hx hb dX6_count_53 rfl (lv_at hl 1 rfl) ?_
          refine lv_iconst (v := 3) (pc := 54) hx hb dX6_count_54 rfl ?_
          refine lv_icmp_ne (tgt := 65) (pc := 55) hx hb dX6_count_55 (by decide) (fun c7 => ?_) (fun c7 => ?_)
          · have hf := hf.1 c7
            refine lv_iload_n (pc := 65) hx hb dX6_count_65 rfl (lv_at hl 1 rfl) ?_
            refine lv_iconst (v := 4) (pc := 66) hx hb dX6_count_66 rfl ?_
            refine lv_icmp_ne (tgt := 77) (pc := 67) hx hb dX6_count_67 (by decide) (fun c8 => ?_) (fun c8 => ?_)
            · have hf := hf.1 c8
              refine lv_aload_n (pc := 77) hx hb dX6_count_77 rfl (lv_at hl 0 rfl) ?_
              refine g6_4 (pc := 78) E hI lkX6_115 dX6_count_78 ?_
              exact rI (pc := 81) E hr hlk hI hf dX6_count_81
            · have hf := hf.2 c8
              refine lv_aload_n (pc := 70) hx hb dX6_count_70 rfl (lv_at hl 0 rfl) ?_
              refine g6_6 (pc := 71) E hI lkX6_147 dX6_count_71 ?_
              refine lv_goto (tgt := 81) (pc := 74) hx hb dX6_count_74 (by decide) ?_
              exact rI (pc := 81) E hr hlk hI hf dX6_count_81
          · have hf := hf.2 c7
            refine lv_aload_n (pc := 58) hx hb dX6_count_58 rfl (lv_at hl 0 rfl) ?_
            refine g6_3 (pc := 59) E hI lkX6_70 dX6_count_59 ?_
            refine lv_goto (tgt := 81) (pc := 62) hx hb dX6_count_62 (by decide) ?_
            exact rI (pc := 81) E hr hlk hI hf dX6_count_81
        · have hf := hf.2 c6
          refine lv_aload_n (pc := 46) hx hb dX6_count_46 rfl (lv_at hl 0 rfl) ?_
          refine g6_7 (pc := 47) E hI lkX6_106 dX6_count_47 ?_
          refine lv_goto (tgt := 81) (pc := 50) hx hb dX6_count_50 (by decide) ?_
          exact rI (pc := 81) E hr hlk hI hf dX6_count_81
      · have hf := hf.2 c5
        refine lv_aload_n (pc := 31) hx hb dX6_count_31 rfl (lv_at hl 0 rfl) ?_
        refine g6_8 (pc := 32) E hI lkX6_109 dX6_count_32 ?_
        refine callSI (G := (D, tysM cy, F)) (L := LM ad cy Rr) (pc := 35) (As := [.long (gJ σ1 16 8)]) (rest := []) hF E cs0 hl hI (tX6_bitsOf hF hf) mwX6_352 (fitD (by decide)) rfl rfl (Nat.le_of_ble_eq_true rfl) dX6_count_35 (fun r10 σ9 H locs hf hI => ?_)
        refine lv_goto (tgt := 81) (pc := 38) hx hb dX6_count_38 (by decide) ?_
        exact rI (pc := 81) E hr hlk hI hf dX6_count_81
    · have hf := hf.2 c4
      refine lv_aload_n (pc := 19) hx hb dX6_count_19 rfl (lv_at hl 0 rfl) ?_
      refine g6_12 (pc := 20) E hI lkX6_73 dX6_count_20 ?_
      refine lv_goto (tgt := 81) (pc := 23) hx hb dX6_count_23 (by decide) ?_
      exact rI (pc := 81) E hr hlk hI hf dX6_count_81
  · have hf := hf.2 c3
    refine lv_bipush (v := (-2)) (pc := 12) hx hb dX6_count_12 rfl ?_
    exact rI (pc := 14) E hr hlk hI hf dX6_count_14
theorem tX6_count {l : Launch} {D : va_G} {F : (Nat → Prop) → State → Prop} {σ : St} {ad : Nat → Nat → Nat} {cy : Nat → ClassId} {Rr : va_W} {Q : Int32 → St → Prop} {p1 : Int32} (hF : Stab F) (hf : wX6_count p1 σ Q) : CtI l yX6_count cX6_count 2 .int 1 (D, tysM cy, F) (LM ad cy Rr) [.ref (ad 16 99), .int p1] σ Q := mkI (by decide) (Nat.le_of_ble_eq_true rfl) (fun p e s m below meth c A E hr hlk hI ls hl => bX6_count hF E hr hlk hf hI hl)

def wX6_isSheet (p1 : Int32) (σ : St) (Q : Int32 → St → Prop) : Prop := wX6_in (p1.toInt64) 0 3 σ (fun r2 σ1 => (r2 = 0 ∨ r2 = 1) ∧ Q r2 σ1)
set_option maxRecDepth 100000 in
set_option maxHeartbeats 4000000 in
theorem bX6_isSheet {p : Program} {l : Launch} {e : Env} {s : State} {m : MethodId} {args : Array Value} {below : List Frame} {meth : Method} {c : Code} {H : Heap} {locs : List Loc} {ls : Array Slot} {D : va_G} {F : (Nat → Prop) → State → Prop} {A : Nat → Prop} {σ : St} {ad : Nat → Nat → Nat} {cy : Nat → ClassId} {Rr : va_W} {Q : Int32 → St → Prop} {p1 : Int32} (hF : Stab F) (E : CallFix p m c cX6_isSheet 1 s args TB RX6) (hr : meth.sig.returnType = some .boolean) (hlk : meth.locks = false) (hf : wX6_isSheet p1 σ Q) (hI : In (D, tysM cy, F) (LM ad cy Rr σ) A s H locs) (hl : lv_has ls 1 [(0, .int p1)]) : W p l e (rmD 1) s m args below meth c H locs 0 0 (PI below args s (D, tysM cy, F) A (LM ad cy Rr) Q) (F0 m 0 ls []) := by
  have hx := E.1
  have hb := E.2.1
  unfold wX6_isSheet at hf
  refine lv_iload_n (pc := 0) hx hb dX6_isSheet_0 rfl (lv_at hl 0 rfl) ?_
  refine lv_i2l (v := (p1.toInt64)) (pc := 1) hx hb dX6_isSheet_1 rfl ?_
  refine lv_lconst (v := 0) (pc := 2) hx hb dX6_isSheet_2 rfl ?_
  refine lv_ldc2 (pc := 3) E.1 E.2.1 E.2.2.2.1 (E.2.2.2.2 _ kcX6_82) dX6_isSheet_3 ?_
  refine callSI (G := (D, tysM cy, F)) (L := LM ad cy Rr) (pc := 6) (As := [.long (p1.toInt64), .long 0, .long 3]) (rest := []) hF E cs0 hl hI (tX6_in hF hf) mwX6_76 (fitD (by decide)) rfl rfl (Nat.le_of_ble_eq_true rfl) dX6_isSheet_6 (fun r2 σ1 H locs hf hI => ?_)
  have z3 := hf.1
  have hf := hf.2
  exact rZ (pc := 9) E hr hlk hI z3 hf dX6_isSheet_9
theorem tX6_isSheet {l : Launch} {D : va_G} {F : (Nat → Prop) → State → Prop} {σ : St} {ad : Nat → Nat → Nat} {cy : Nat → ClassId} {Rr : va_W} {Q : Int32 → St → Prop} {p1 : Int32} (hF : Stab F) (hf : wX6_isSheet p1 σ Q) : CtI l yX6_isSheet cX6_isSheet 1 .boolean 1 (D, tysM cy, F) (LM ad cy Rr) [.int p1] σ Q := mkI (by decide) (Nat.le_of_ble_eq_true rfl) (fun p e s m below meth c A E hr hlk hI ls hl => bX6_isSheet hF E hr hlk hf hI hl)

def wX6_isOf (p1 : Int32) (p2 : Int32) (σ : St) (Q : Int32 → St → Prop) : Prop := ((p1 = 0 → Q 1 σ) ∧ (¬ p1 = 0 → ((3 ≤ p1 → ((¬ p1 = 3 → wX6_isOne p2 σ (fun r5 σ4 => ((r5 = 0 → Q 0 σ4) ∧ (¬ r5 = 0 → Q 1 σ4)))) ∧ (p1 = 3 → wX6_in (p2.toInt64) 0 3 σ (fun r8 σ7 => ((r8 = 0 → Q 0 σ7) ∧ (¬ r8 = 0 → Q 1 σ7)))))) ∧ (¬ 3 ≤ p1 → wX6_in (p2.toInt64) 0 63 σ (fun r11 σ10 => ((r11 = 0 → Q 0 σ10) ∧ (¬ r11 = 0 → Q 1 σ10)))))))
set_option maxRecDepth 100000 in
set_option maxHeartbeats 4000000 in
theorem bX6_isOf {p : Program} {l : Launch} {e : Env} {s : State} {m : MethodId} {args : Array Value} {below : List Frame} {meth : Method} {c : Code} {H : Heap} {locs : List Loc} {ls : Array Slot} {D : va_G} {F : (Nat → Prop) → State → Prop} {A : Nat → Prop} {σ : St} {ad : Nat → Nat → Nat} {cy : Nat → ClassId} {Rr : va_W} {Q : Int32 → St → Prop} {p1 : Int32} {p2 : Int32} (hF : Stab F) (E : CallFix p m c cX6_isOf 3 s args TB RX6) (hr : meth.sig.returnType = some .boolean) (hlk : meth.locks = false) (hf : wX6_isOf p1 p2 σ Q) (hI : In (D, tysM cy, F) (LM ad cy Rr σ) A s H locs) (hl : lv_has ls 3 [(0, .ref (ad 16 99)), (1, .int p1), (2, .int p2)]) : W p l e (rmD 2) s m args below meth c H locs 0 0 (PI below args s (D, tysM cy, F) A (LM ad cy Rr) Q) (F0 m 0 ls []) := by
  have hx := E.1
  have hb := E.2.1
  unfold wX6_isOf at hf
  refine lv_iload_n (pc := 0) hx hb dX6_isOf_0 rfl (lv_at hl 1 rfl) ?_
  refine lv_if_eq (tgt := 52) (pc := 1) hx hb dX6_isOf_1 (by decide) (fun c1 => ?_) (fun c1 => ?_)
  · have hf := hf.1 c1
    refine lv_iconst (v := 1) (pc := 52) hx hb dX6_isOf_52 rfl ?_
    refine lv_goto (tgt := 57) (pc := 53) hx hb dX6_isOf_53 (by decide) ?_
    exact rZ (pc := 57) E hr hlk hI (Or.inr rfl) hf dX6_isOf_57
  · have hf := hf.2 c1
    refine lv_iload_n (pc := 4) hx hb dX6_isOf_4 rfl (lv_at hl 1 rfl) ?_
    refine lv_iconst (v := 3) (pc := 5) hx hb dX6_isOf_5 rfl ?_
    refine lv_icmp_ge (tgt := 24) (pc := 6) hx hb dX6_isOf_6 (by decide) (fun c2 => ?_) (fun c2 => ?_)
    · have hf := hf.1 c2
      refine lv_iload_n (pc := 24) hx hb dX6_isOf_24 rfl (lv_at hl 1 rfl) ?_
      refine lv_iconst (v := 3) (pc := 25) hx hb dX6_isOf_25 rfl ?_
      refine lv_icmp_ne (tgt := 44) (pc := 26) hx hb dX6_isOf_26 (by decide) (fun c3 => ?_) (fun c3 => ?_)
      · have hf := hf.1 c3
        refine lv_aload_n (pc := 44) hx hb dX6_isOf_44 rfl (lv_at hl 0 rfl) ?_
        refine lv_iload_n (pc := 45) hx hb dX6_isOf_45 rfl (lv_at hl 2 rfl) ?_
        refine callVI (G := (D, tysM cy, F)) (L := LM ad cy Rr) (pc := 46) (As := [.int p2]) (rest := []) hF E cs0 hl hI (tX6_isOne hF hf) mwX6_84 (fitD (by decide)) (at6) rfl rfl rfl rfl (Nat.le_of_ble_eq_true rfl) dX6_isOf_46 (fun r5 σ4 H locs hf hI => ?_)
        refine lv_if_eq (tgt := 56) (pc := 49) hx hb dX6_isOf_49 (by decide) (fun c6 => ?_) (fun c6 => ?_)
        · have hf := hf.1 c6
          refine lv_iconst (v := 0) (pc := 56) hx hb dX6_isOf_56 rfl ?_
          exact rZ (pc := 57) E hr hlk hI (Or.inl rfl) hf dX6_isOf_57
        · have hf := hf.2 c6
          refine lv_iconst (v := 1) (pc := 52) hx hb dX6_isOf_52 rfl ?_
          refine lv_goto (tgt := 57) (pc := 53) hx hb dX6_isOf_53 (by decide) ?_
          exact rZ (pc := 57) E hr hlk hI (Or.inr rfl) hf dX6_isOf_57
      · have hf := hf.2 c3
        refine lv_iload_n (pc := 29) hx hb dX6_isOf_29 rfl (lv_at hl 2 rfl) ?_
        refine lv_i2l (v := (p2.toInt64)) (pc := 30) hx hb dX6_isOf_30 rfl ?_
        refine lv_lconst (v := 0) (pc := 31) hx hb dX6_isOf_31 rfl ?_
        refine lv_ldc2 (pc := 32) E.1 E.2.1 E.2.2.2.1 (E.2.2.2.2 _ kcX6_82) dX6_isOf_32 ?_
        refine callSI (G := (D, tysM cy, F)) (L := LM ad cy Rr) (pc := 35) (As := [.long (p2.toInt64), .long 0, .long 3]) (rest := []) hF E cs0 hl hI (tX6_in hF hf) mwX6_76 (fitD (by decide)) rfl rfl (Nat.le_of_ble_eq_true rfl) dX6_isOf_35 (fun r8 σ7 H locs hf hI => ?_)
        refine lv_if_eq (tgt := 56) (pc := 38) hx hb dX6_isOf_38 (by decide) (fun c9 => ?_) (fun c9 => ?_)
        · have hf := hf.1 c9
          refine lv_iconst (v := 0) (pc := 56) hx hb dX6_isOf_56 rfl ?_
          exact rZ (pc := 57) E hr hlk hI (Or.inl rfl) hf dX6_isOf_57
        · have hf := hf.2 c9
          refine lv_goto (tgt := 52) (pc := 41) hx hb dX6_isOf_41 (by decide) ?_
          refine lv_iconst (v := 1) (pc := 52) hx hb dX6_isOf_52 rfl ?_
          refine lv_goto (tgt := 57) (pc := 53) hx hb dX6_isOf_53 (by decide) ?_
          exact rZ (pc := 57) E hr hlk hI (Or.inr rfl) hf dX6_isOf_57
    · have hf := hf.2 c2
      refine lv_iload_n (pc := 9) hx hb dX6_isOf_9 rfl (lv_at hl 2 rfl) ?_
      refine lv_i2l (v := (p2.toInt64)) (pc := 10) hx hb dX6_isOf_10 rfl ?_
      refine lv_lconst (v := 0) (pc := 11) hx hb dX6_isOf_11 rfl ?_
      refine lv_ldc2 (pc := 12) E.1 E.2.1 E.2.2.2.1 (E.2.2.2.2 _ kcX6_80) dX6_isOf_12 ?_
      refine callSI (G := (D, tysM cy, F)) (L := LM ad cy Rr) (pc := 15) (As := [.long (p2.toInt64), .long 0, .long 63]) (rest := []) hF E cs0 hl hI (tX6_in hF hf) mwX6_76 (fitD (by decide)) rfl rfl (Nat.le_of_ble_eq_true rfl) dX6_isOf_15 (fun r11 σ10 H locs hf hI => ?_)
      refine lv_if_eq (tgt := 56) (pc := 18) hx hb dX6_isOf_18 (by decide) (fun c12 => ?_) (fun c12 => ?_)
      · have hf := hf.1 c12
        refine lv_iconst (v := 0) (pc := 56) hx hb dX6_isOf_56 rfl ?_
        exact rZ (pc := 57) E hr hlk hI (Or.inl rfl) hf dX6_isOf_57
      · have hf := hf.2 c12
        refine lv_goto (tgt := 52) (pc := 21) hx hb dX6_isOf_21 (by decide) ?_
        refine lv_iconst (v := 1) (pc := 52) hx hb dX6_isOf_52 rfl ?_
        refine lv_goto (tgt := 57) (pc := 53) hx hb dX6_isOf_53 (by decide) ?_
        exact rZ (pc := 57) E hr hlk hI (Or.inr rfl) hf dX6_isOf_57
theorem tX6_isOf {l : Launch} {D : va_G} {F : (Nat → Prop) → State → Prop} {σ : St} {ad : Nat → Nat → Nat} {cy : Nat → ClassId} {Rr : va_W} {Q : Int32 → St → Prop} {p1 : Int32} {p2 : Int32} (hF : Stab F) (hf : wX6_isOf p1 p2 σ Q) : CtI l yX6_isOf cX6_isOf 3 .boolean 2 (D, tysM cy, F) (LM ad cy Rr) [.ref (ad 16 99), .int p1, .int p2] σ Q := mkI (by decide) (Nat.le_of_ble_eq_true rfl) (fun p e s m below meth c A E hr hlk hI ls hl => bX6_isOf hF E hr hlk hf hI hl)

def wX6_isWord (p1 : Int32) (p2 : Int32) (p3 : Int32) (p4 : Int32) (p5 : Int32) (p6 : Int32) (p7 : Int32) (p8 : Int32) (σ : St) (Q : Int32 → St → Prop) : Prop := ((¬ (gI σ 16 27) = 0 → Q 0 σ) ∧ ((gI σ 16 27) = 0 → ((¬ (gI σ 16 23) = 1 → Q 0 σ) ∧ ((gI σ 16 23) = 1 → ((((gI σ 16 24) + 8) < (gI σ 16 22) → Q 0 σ) ∧ (¬ ((gI σ 16 24) + 8) < (gI σ 16 22) → wX6_isLetter 0 p1 σ (fun r5 σ4 => ((r5 = 0 → Q 0 σ4) ∧ (¬ r5 = 0 → wX6_isLetter 1 p2 σ4 (fun r8 σ7 => ((r8 = 0 → Q 0 σ7) ∧ (¬ r8 = 0 → wX6_isLetter 2 p3 σ7 (fun r11 σ10 => ((r11 = 0 → Q 0 σ10) ∧ (¬ r11 = 0 → wX6_isLetter 3 p4 σ10 (fun r14 σ13 => ((r14 = 0 → Q 0 σ13) ∧ (¬ r14 = 0 → wX6_isLetter 4 p5 σ13 (fun r17 σ16 => ((r17 = 0 → Q 0 σ16) ∧ (¬ r17 = 0 → wX6_isLetter 5 p6 σ16 (fun r20 σ19 => ((r20 = 0 → Q 0 σ19) ∧ (¬ r20 = 0 → wX6_isLetter 6 p7 σ19 (fun r23 σ22 => ((r23 = 0 → Q 0 σ22) ∧ (¬ r23 = 0 → wX6_isLetter 7 p8 σ22 (fun r26 σ25 => ((r26 = 0 → Q 0 σ25) ∧ (¬ r26 = 0 → Q 1 σ25))))))))))))))))))))))))))))))
set_option maxRecDepth 100000 in
set_option maxHeartbeats 4000000 in
theorem bX6_isWord {p : Program} {l : Launch} {e : Env} {s : State} {m : MethodId} {args : Array Value} {below : List Frame} {meth : Method} {c : Code} {H : Heap} {locs : List Loc} {ls : Array Slot} {D : va_G} {F : (Nat → Prop) → State → Prop} {A : Nat → Prop} {σ : St} {ad : Nat → Nat → Nat} {cy : Nat → ClassId} {Rr : va_W} {Q : Int32 → St → Prop} {p1 : Int32} {p2 : Int32} {p3 : Int32} {p4 : Int32} {p5 : Int32} {p6 : Int32} {p7 : Int32} {p8 : Int32} (hF : Stab F) (E : CallFix p m c cX6_isWord 9 s args TB RX6) (hr : meth.sig.returnType = some .boolean) (hlk : meth.locks = false) (hf : wX6_isWord p1 p2 p3 p4 p5 p6 p7 p8 σ Q) (hI : In (D, tysM cy, F) (LM ad cy Rr σ) A s H locs) (hl : lv_has ls 9 [(0, .ref (ad 16 99)), (1, .int p1), (2, .int p2), (3, .int p3), (4, .int p4), (5, .int p5), (6, .int p6), (7, .int p7), (8, .int p8)]) : W p l e (rmD 2) s m args below meth c H locs 0 0 (PI below args s (D, tysM cy, F) A (LM ad cy Rr) Q) (F0 m 0 ls []) := by
  have hx := E.1
  have hb := E.2.1
  unfold wX6_isWord at hf
  refine lv_aload_n (pc := 0) hx hb dX6_isWord_0 rfl (lv_at hl 0 rfl) ?_
  refine g6_27 (pc := 1) E hI lkX6_181 dX6_isWord_1 ?_
  refine lv_if_ne (tgt := 112) (pc := 4) hx hb dX6_isWord_4 (by decide) (fun c1 => ?_) (fun c1 => ?_)
  · have hf := hf.1 c1
    refine lv_iconst (v := 0) (pc := 112) hx hb dX6_isWord_112 rfl ?_
    exact rZ (pc := 113) E hr hlk hI (Or.inl rfl) hf dX6_isWord_113
  · have hf := hf.2 c1
    refine lv_aload_n (pc := 7) hx hb dX6_isWord_7 rfl (lv_at hl 0 rfl) ?_
    refine g6_23 (pc := 8) E hI lkX6_165 dX6_isWord_8 ?_
    refine lv_iconst (v := 1) (pc := 11) hx hb dX6_isWord_11 rfl ?_
    refine lv_icmp_ne (tgt := 112) (pc := 12) hx hb dX6_isWord_12 (by decide) (fun c2 => ?_) (fun c2 => ?_)
    · have hf := hf.1 c2
      refine lv_iconst (v := 0) (pc := 112) hx hb dX6_isWord_112 rfl ?_
      exact rZ (pc := 113) E hr hlk hI (Or.inl rfl) hf dX6_isWord_113
    · have hf := hf.2 c2
      refine lv_aload_n (pc := 15) hx hb dX6_isWord_15 rfl (lv_at hl 0 rfl) ?_
      refine g6_22 (pc := 16) E hI lkX6_156 dX6_isWord_16 ?_
      refine lv_aload_n (pc := 19) hx hb dX6_isWord_19 rfl (lv_at hl 0 rfl) ?_
      refine g6_24 (pc := 20) E hI lkX6_162 dX6_isWord_20 ?_
      refine lv_bipush (v := 8) (pc := 23) hx hb dX6_isWord_23 rfl ?_
      refine lv_iadd (pc := 25) hx hb dX6_isWord_25 ?_
      refine lv_icmp_gt (tgt := 112) (pc := 26) hx hb dX6_isWord_26 (by decide) (fun c3 => ?_) (fun c3 => ?_)
      · have hf := hf.1 c3
        refine lv_iconst (v := 0) (pc := 112) hx hb dX6_isWord_112 rfl ?_
        exact rZ (pc := 113) E hr hlk hI (Or.inl rfl) hf dX6_isWord_113
      · have hf := hf.2 c3
        refine lv_aload_n (pc := 29) hx hb dX6_isWord_29 rfl (lv_at hl 0 rfl) ?_
        refine lv_iconst (v := 0) (pc := 30) hx hb dX6_isWord_30 rfl ?_
        refine lv_iload_n (pc := 31) hx hb dX6_isWord_31 rfl (lv_at hl 1 rfl) ?_
        refine callVI (G := (D, tysM cy, F)) (L := LM ad cy Rr) (pc := 32) (As := [.int 0, .int p1]) (rest := []) hF E cs0 hl hI (tX6_isLetter hF hf) mwX6_188 (fitD (by decide)) (at6) rfl rfl rfl rfl (Nat.le_of_ble_eq_true rfl) dX6_isWord_32 (fun r5 σ4 H locs hf hI => ?_)
        refine lv_if_eq (tgt := 112) (pc := 35) hx hb dX6_isWord_35 (by decide) (fun c6 => ?_) (fun c6 => ?_)
        · have hf := hf.1 c6
          refine lv_iconst (v := 0) (pc := 112) hx hb dX6_isWord_112 rfl ?_
          exact rZ (pc := 113) E hr hlk hI (Or.inl rfl) hf dX6_isWord_113
        · have hf := hf.2 c6
          refine lv_aload_n (pc := 38) hx hb dX6_isWord_38 rfl (lv_at hl 0 rfl) ?_
          refine lv_iconst (v := 1) (pc := 39) hx hb dX6_isWord_39 rfl ?_
          refine lv_iload_n (pc := 40) hx hb dX6_isWord_40 rfl (lv_at hl 2 rfl) ?_
          refine callVI (G := (D, tysM cy, F)) (L := LM ad cy Rr) (pc := 41) (As := [.int 1, .int p2]) (rest := []) hF E cs0 hl hI (tX6_isLetter hF hf) mwX6_188 (fitD (by decide)) (at6) rfl rfl rfl rfl (Nat.le_of_ble_eq_true rfl) dX6_isWord_41 (fun r8 σ7 H locs hf hI => ?_)
          refine lv_if_eq (tgt := 112) (pc := 44) hx hb dX6_isWord_44 (by decide) (fun c9 => ?_) (fun c9 => ?_)
          · have hf := hf.1 c9
            refine lv_iconst (v := 0) (pc := 112) hx hb dX6_isWord_112 rfl ?_
            exact rZ (pc := 113) E hr hlk hI (Or.inl rfl) hf dX6_isWord_113
          · have hf := hf.2 c9
            refine lv_aload_n (pc := 47) hx hb dX6_isWord_47 rfl (lv_at hl 0 rfl) ?_
            refine lv_iconst (v := 2) (pc := 48) hx hb dX6_isWord_48 rfl ?_
            refine lv_iload_n (pc := 49) hx hb dX6_isWord_49 rfl (lv_at hl 3 rfl) ?_
            refine callVI (G := (D, tysM cy, F)) (L := LM ad cy Rr) (pc := 50) (As := [.int 2, .int p3]) (rest := []) hF E cs0 hl hI (tX6_isLetter hF hf) mwX6_188 (fitD (by decide)) (at6) rfl rfl rfl rfl (Nat.le_of_ble_eq_true rfl) dX6_isWord_50 (fun r11 σ10 H locs hf hI => ?_)
            refine lv_if_eq (tgt := 112) (pc := 53) hx hb dX6_isWord_53 (by decide) (fun c12 => ?_) (fun c12 => ?_)
            · have hf := hf.1 c12
              refine lv_iconst (v := 0) (pc := 112) hx hb dX6_isWord_112 rfl ?_
              exact rZ (pc := 113) E hr hlk hI (Or.inl rfl) hf dX6_isWord_113
            · have hf := hf.2 c12
              refine lv_aload_n (pc := 56) hx hb dX6_isWord_56 rfl (lv_at hl 0 rfl) ?_
              refine lv_iconst (v := 3) (pc := 57) hx hb dX6_isWord_57 rfl ?_
              refine lv_iload (pc := 58) hx hb dX6_isWord_58 (lv_at hl 4 rfl) ?_
              refine callVI (G := (D, tysM cy, F)) (L := LM ad cy Rr) (pc := 60) (As := [.int 3, .int p4]) (rest := []) hF E cs0 hl hI (tX6_isLetter hF hf) mwX6_188 (fitD (by decide)) (at6) rfl rfl rfl rfl (Nat.le_of_ble_eq_true rfl) dX6_isWord_60 (fun r14 σ13 H locs hf hI => ?_)
              refine lv_if_eq (tgt := 112) (pc := 63) hx hb dX6_isWord_63 (by decide) (fun c15 => ?_) (fun c15 => ?_)
              · have hf := hf.1 c15
                refine lv_iconst (v := 0) (pc := 112) hx hb dX6_isWord_112 rfl ?_
                exact rZ (pc := 113) E hr hlk hI (Or.inl rfl) hf dX6_isWord_113
              · have hf := hf.2 c15
                refine lv_aload_n (pc := 66) hx hb dX6_isWord_66 rfl (lv_at hl 0 rfl) ?_
                refine lv_iconst (v := 4) (pc := 67) hx hb dX6_isWord_67 rfl ?_
                refine lv_iload (pc := 68) hx hb dX6_isWord_68 (lv_at hl 5 rfl) ?_
                refine callVI (G := (D, tysM cy, F)) (L := LM ad cy Rr) (pc := 70) (As := [.int 4, .int p5]) (rest := []) hF E cs0 hl hI (tX6_isLetter hF hf) mwX6_188 (fitD (by decide)) (at6) rfl rfl rfl rfl (Nat.le_of_ble_eq_true rfl) dX6_isWord_70 (fun r17 σ16 H locs hf hI => ?_)
                refine lv_if_eq (tgt := 112) (pc := 73) hx hb dX6_isWord_73 (by decide) (fun c18 => ?_) (fun c18 => ?_)
                · have hf := hf.1 c18
                  refine lv_iconst (v := 0) (pc := 112) hx hb dX6_isWord_112 rfl ?_
                  exact rZ (pc := 113) E hr hlk hI (Or.inl rfl) hf dX6_isWord_113
                · have hf := hf.2 c18
                  refine lv_aload_n (pc := 76) hx hb dX6_isWord_76 rfl (lv_at hl 0 rfl) ?_
                  refine lv_iconst (v := 5) (pc := 77) hx hb dX6_isWord_77 rfl ?_
                  refine lv_iload (pc := 78) hx hb dX6_isWord_78 (lv_at hl 6 rfl) ?_
                  refine callVI (G := (D, tysM cy, F)) (L := LM ad cy Rr) (pc := 80) (As := [.int 5, .int p6]) (rest := []) hF E cs0 hl hI (tX6_isLetter hF hf) mwX6_188 (fitD (by decide)) (at6) rfl rfl rfl rfl (Nat.le_of_ble_eq_true rfl) dX6_isWord_80 (fun r20 σ19 H locs hf hI => ?_)
                  refine lv_if_eq (tgt := 112) (pc := 83) hx hb dX6_isWord_83 (by decide) (fun c21 => ?_) (fun c21 => ?_)
                  · have hf := hf.1 c21
                    refine lv_iconst (v := 0) (pc := 112) hx hb dX6_isWord_112 rfl ?_
                    exact rZ (pc := 113) E hr hlk hI (Or.inl rfl) hf dX6_isWord_113
                  · have hf := hf.2 c21
                    refine lv_aload_n (pc := 86) hx hb dX6_isWord_86 rfl (lv_at hl 0 rfl) ?_
                    refine lv_bipush (v := 6) (pc := 87) hx hb dX6_isWord_87 rfl ?_
                    refine lv_iload (pc := 89) hx hb dX6_isWord_89 (lv_at hl 7 rfl) ?_
                    refine callVI (G := (D, tysM cy, F)) (L := LM ad cy Rr) (pc := 91) (As := [.int 6, .int p7]) (rest := []) hF E cs0 hl hI (tX6_isLetter hF hf) mwX6_188 (fitD (by decide)) (at6) rfl rfl rfl rfl (Nat.le_of_ble_eq_true rfl) dX6_isWord_91 (fun r23 σ22 H locs hf hI => ?_)
                    refine lv_if_eq (tgt := 112) (pc := 94) hx hb dX6_isWord_94 (by decide) (fun c24 => ?_) (fun c24 => ?_)
                    · have hf := hf.1 c24
                      refine lv_iconst (v := 0) (pc := 112) hx hb dX6_isWord_112 rfl ?_
                      exact rZ (pc := 113) E hr hlk hI (Or.inl rfl) hf dX6_isWord_113
                    · have hf := hf.2 c24
                      refine lv_aload_n (pc := 97) hx hb dX6_isWord_97 rfl (lv_at hl 0 rfl) ?_
                      refine lv_bipush (v := 7) (pc := 98) hx hb dX6_isWord_98 rfl ?_
                      refine lv_iload (pc := 100) hx hb dX6_isWord_100 (lv_at hl 8 rfl) ?_
                      refine callVI (G := (D, tysM cy, F)) (L := LM ad cy Rr) (pc := 102) (As := [.int 7, .int p8]) (rest := []) hF E cs0 hl hI (tX6_isLetter hF hf) mwX6_188 (fitD (by decide)) (at6) rfl rfl rfl rfl (Nat.le_of_ble_eq_true rfl) dX6_isWord_102 (fun r26 σ25 H locs hf hI => ?_)
                      refine lv_if_eq (tgt := 112) (pc := 105) hx hb dX6_isWord_105 (by decide) (fun c27 => ?_) (fun c27 => ?_)
                      · have hf := hf.1 c27
                        refine lv_iconst (v := 0) (pc := 112) hx hb dX6_isWord_112 rfl ?_
                        exact rZ (pc := 113) E hr hlk hI (Or.inl rfl) hf dX6_isWord_113
                      · have hf := hf.2 c27
                        refine lv_iconst (v := 1) (pc := 108) hx hb dX6_isWord_108 rfl ?_
                        refine lv_goto (tgt := 113) (pc := 109) hx hb dX6_isWord_109 (by decide) ?_
                        exact rZ (pc := 113) E hr hlk hI (Or.inr rfl) hf dX6_isWord_113
theorem tX6_isWord {l : Launch} {D : va_G} {F : (Nat → Prop) → State → Prop} {σ : St} {ad : Nat → Nat → Nat} {cy : Nat → ClassId} {Rr : va_W} {Q : Int32 → St → Prop} {p1 : Int32} {p2 : Int32} {p3 : Int32} {p4 : Int32} {p5 : Int32} {p6 : Int32} {p7 : Int32} {p8 : Int32} (hF : Stab F) (hf : wX6_isWord p1 p2 p3 p4 p5 p6 p7 p8 σ Q) : CtI l yX6_isWord cX6_isWord 9 .boolean 2 (D, tysM cy, F) (LM ad cy Rr) [.ref (ad 16 99), .int p1, .int p2, .int p3, .int p4, .int p5, .int p6, .int p7, .int p8] σ Q := mkI (by decide) (Nat.le_of_ble_eq_true rfl) (fun p e s m below meth c A E hr hlk hI ls hl => bX6_isWord hF E hr hlk hf hI hl)

def wX6_opens (σ : St) (Q : Int32 → St → Prop) : Prop := ((¬ (gI σ 16 26) = 5 → ∀ σ2 : St, σ2 = sI σ 16 26 ((gI σ 16 26) + 1) → wX6_next σ2 (fun σ3 => Q 1 σ3)) ∧ ((gI σ 16 26) = 5 → wX6_fail σ (fun σ4 => Q 0 σ4)))
set_option maxRecDepth 100000 in
set_option maxHeartbeats 4000000 in
theorem bX6_opens {p : Program} {l : Launch} {e : Env} {s : State} {m : MethodId} {args : Array Value} {below : List Frame} {meth : Method} {c : Code} {H : Heap} {locs : List Loc} {ls : Array Slot} {D : va_G} {F : (Nat → Prop) → State → Prop} {A : Nat → Prop} {σ : St} {ad : Nat → Nat → Nat} {cy : Nat → ClassId} {Rr : va_W} {Q : Int32 → St → Prop} (hF : Stab F) (E : CallFix p m c cX6_opens 1 s args TB RX6) (hr : meth.sig.returnType = some .boolean) (hlk : meth.locks = false) (hf : wX6_opens σ Q) (hI : In (D, tysM cy, F) (LM ad cy Rr σ) A s H locs) (hl : lv_has ls 1 [(0, .ref (ad 16 99))]) : W p l e (rmD 2) s m args below meth c H locs 0 0 (PI below args s (D, tysM cy, F) A (LM ad cy Rr) Q) (F0 m 0 ls []) := by
  have hx := E.1
  have hb := E.2.1
  unfold wX6_opens at hf
  refine lv_aload_n (pc := 0) hx hb dX6_opens_0 rfl (lv_at hl 0 rfl) ?_
  refine g6_26 (pc := 1) E hI lkX6_191 dX6_opens_1 ?_
  refine lv_iconst (v := 5) (pc := 4) hx hb dX6_opens_4 rfl ?_
  refine lv_icmp_ne (tgt := 14) (pc := 5) hx hb dX6_opens_5 (by decide) (fun c1 => ?_) (fun c1 => ?_)
  · have hf := hf.1 c1
    refine lv_aload_n (pc := 14) hx hb dX6_opens_14 rfl (lv_at hl 0 rfl) ?_
    refine lv_dup (pc := 15) hx hb dX6_opens_15 rfl ?_
    refine g6_26 (pc := 16) E hI lkX6_191 dX6_opens_16 ?_
    refine lv_iconst (v := 1) (pc := 19) hx hb dX6_opens_19 rfl ?_
    refine lv_iadd (pc := 20) hx hb dX6_opens_20 ?_
    refine p6_26 (pc := 21) E hI lkX6_191 dX6_opens_21 (fun H locs σ2 eσ2 hI => ?_)
    have hf := hf σ2 eσ2
    refine lv_aload_n (pc := 24) hx hb dX6_opens_24 rfl (lv_at hl 0 rfl) ?_
    refine callVV (G := (D, tysM cy, F)) (L := LM ad cy Rr) (pc := 25) (As := []) (rest := []) hF E cs0 hl hI (tX6_next hF hf) mwX6_197 (fitD (by decide)) (at6) rfl rfl rfl rfl (Nat.le_of_ble_eq_true rfl) dX6_opens_25 (fun σ3 H locs hf hI => ?_)
    refine lv_iconst (v := 1) (pc := 28) hx hb dX6_opens_28 rfl ?_
    exact rZ (pc := 29) E hr hlk hI (Or.inr rfl) hf dX6_opens_29
  · have hf := hf.2 c1
    refine lv_aload_n (pc := 8) hx hb dX6_opens_8 rfl (lv_at hl 0 rfl) ?_
    refine callVV (G := (D, tysM cy, F)) (L := LM ad cy Rr) (pc := 9) (As := []) (rest := []) hF E cs0 hl hI (tX6_fail hF hf) mwX6_194 (fitD (by decide)) (at6) rfl rfl rfl rfl (Nat.le_of_ble_eq_true rfl) dX6_opens_9 (fun σ4 H locs hf hI => ?_)
    refine lv_iconst (v := 0) (pc := 12) hx hb dX6_opens_12 rfl ?_
    exact rZ (pc := 13) E hr hlk hI (Or.inl rfl) hf dX6_opens_13
theorem tX6_opens {l : Launch} {D : va_G} {F : (Nat → Prop) → State → Prop} {σ : St} {ad : Nat → Nat → Nat} {cy : Nat → ClassId} {Rr : va_W} {Q : Int32 → St → Prop} (hF : Stab F) (hf : wX6_opens σ Q) : CtI l yX6_opens cX6_opens 1 .boolean 2 (D, tysM cy, F) (LM ad cy Rr) [.ref (ad 16 99)] σ Q := mkI (by decide) (Nat.le_of_ble_eq_true rfl) (fun p e s m below meth c A E hr hlk hI ls hl => bX6_opens hF E hr hlk hf hI hl)

def wX6_goesIn_j48 (s1 : Int32) (s2 : Int32) (s3 : Int32) (σ : St) (Q : St → Prop) : Prop := wX6_within (s2 + s3) 0 99 σ (fun r8 σ7 => vp_in s1 4 ∧ ∀ σ10 : St, σ10 = sA σ7 16 10 s1.toNatClampNeg r8 → Q σ10)
set_option maxRecDepth 100000 in
set_option maxHeartbeats 4000000 in
theorem bX6_goesIn_48 {p : Program} {l : Launch} {e : Env} {s : State} {m : MethodId} {args : Array Value} {below : List Frame} {meth : Method} {c : Code} {H : Heap} {locs : List Loc} {ls : Array Slot} {D : va_G} {F : (Nat → Prop) → State → Prop} {A : Nat → Prop} {σ : St} {ad : Nat → Nat → Nat} {cy : Nat → ClassId} {Rr : va_W} {Q : St → Prop} {s1 : Int32} {s2 : Int32} {s3 : Int32} (hF : Stab F) (E : CallFix p m c cX6_goesIn 3 s args TB RX6) (hr : meth.sig.returnType = none) (hlk : meth.locks = false) (hf : wX6_goesIn_j48 s1 s2 s3 σ Q) (hI : In (D, tysM cy, F) (LM ad cy Rr σ) A s H locs) (hl : lv_has ls 3 []) : W p l e (rmD 2) s m args below meth c H locs 0 0 (PV below args s (D, tysM cy, F) A (LM ad cy Rr) Q) (F0 m 48 ls [.int s3, .int s2, .int s1, .ref (ad 16 10)]) := by
  have hx := E.1
  have hb := E.2.1
  unfold wX6_goesIn_j48 at hf
  refine lv_iadd (pc := 48) hx hb dX6_goesIn_48 ?_
  refine lv_iconst (v := 0) (pc := 49) hx hb dX6_goesIn_49 rfl ?_
  refine lv_bipush (v := 99) (pc := 50) hx hb dX6_goesIn_50 rfl ?_
  refine callSI (G := (D, tysM cy, F)) (L := LM ad cy Rr) (pc := 52) (As := [.int (s2 + s3), .int 0, .int 99]) (rest := [.int s1, .ref (ad 16 10)]) hF E cs0 hl hI (tX6_within hF hf) mwX6_359 (fitD (by decide)) rfl rfl (Nat.le_of_ble_eq_true rfl) dX6_goesIn_52 (fun r8 σ7 H locs hf hI => ?_)
  have g9 := hf.1
  have hf := hf.2
  refine s6_10 (pc := 55) E hI g9 dX6_goesIn_55 (fun H locs σ10 eσ10 hI => ?_)
  have hf := hf σ10 eσ10
  exact rV (pc := 56) E hr hlk hI hf dX6_goesIn_56
def wX6_goesIn_j23 (a1 : Int32) (a2 : Int32) (s1 : Int64) (s2 : Int64) (σ : St) (Q : St → Prop) : Prop := ∀ σ4 : St, σ4 = sJ σ 16 8 (s1 ||| s2) → vp_in a1 4 ∧ ((¬ a2 = (-1) → (wX6_goesIn_j48 a1 (gA σ4 16 10 a1.toNatClampNeg) 0 σ4 Q)) ∧ (a2 = (-1) → (wX6_goesIn_j48 a1 (gA σ4 16 10 a1.toNatClampNeg) 1 σ4 Q)))
set_option maxRecDepth 100000 in
set_option maxHeartbeats 4000000 in
theorem bX6_goesIn_23 {p : Program} {l : Launch} {e : Env} {s : State} {m : MethodId} {args : Array Value} {below : List Frame} {meth : Method} {c : Code} {H : Heap} {locs : List Loc} {ls : Array Slot} {D : va_G} {F : (Nat → Prop) → State → Prop} {A : Nat → Prop} {σ : St} {ad : Nat → Nat → Nat} {cy : Nat → ClassId} {Rr : va_W} {Q : St → Prop} {a1 : Int32} {a2 : Int32} {s1 : Int64} {s2 : Int64} (hF : Stab F) (E : CallFix p m c cX6_goesIn 3 s args TB RX6) (hr : meth.sig.returnType = none) (hlk : meth.locks = false) (hf : wX6_goesIn_j23 a1 a2 s1 s2 σ Q) (hI : In (D, tysM cy, F) (LM ad cy Rr σ) A s H locs) (hl : lv_has ls 3 [(0, .ref (ad 16 99)), (1, .int a1), (2, .int a2)]) : W p l e (rmD 2) s m args below meth c H locs 0 0 (PV below args s (D, tysM cy, F) A (LM ad cy Rr) Q) (F0 m 23 ls [.long s2, .long s1, .ref (ad 16 99)]) := by
  have hx := E.1
  have hb := E.2.1
  unfold wX6_goesIn_j23 at hf
  refine lv_lor (pc := 23) hx hb dX6_goesIn_23 ?_
  refine p6_8 (pc := 24) E hI lkX6_109 dX6_goesIn_24 (fun H locs σ4 eσ4 hI => ?_)
  have hf := hf σ4 eσ4
  refine lv_aload_n (pc := 27) hx hb dX6_goesIn_27 rfl (lv_at hl 0 rfl) ?_
  refine g6_10 (pc := 28) E hI lkX6_26 dX6_goesIn_28 ?_
  refine lv_iload_n (pc := 31) hx hb dX6_goesIn_31 rfl (lv_at hl 1 rfl) ?_
  refine lv_aload_n (pc := 32) hx hb dX6_goesIn_32 rfl (lv_at hl 0 rfl) ?_
  refine g6_10 (pc := 33) E hI lkX6_26 dX6_goesIn_33 ?_
  refine lv_iload_n (pc := 36) hx hb dX6_goesIn_36 rfl (lv_at hl 1 rfl) ?_
  have g5 := hf.1
  have hf := hf.2
  refine a6_10 (pc := 37) E hI g5 dX6_goesIn_37 ?_
  refine lv_iload_n (pc := 38) hx hb dX6_goesIn_38 rfl (lv_at hl 2 rfl) ?_
  refine lv_iconst (v := (-1)) (pc := 39) hx hb dX6_goesIn_39 rfl ?_
  refine lv_icmp_ne (tgt := 47) (pc := 40) hx hb dX6_goesIn_40 (by decide) (fun c6 => ?_) (fun c6 => ?_)
  · have hf := hf.1 c6
    refine lv_iconst (v := 0) (pc := 47) hx hb dX6_goesIn_47 rfl ?_
    exact bX6_goesIn_48 hF E hr hlk hf hI (lv_sub hl [] rfl)
  · have hf := hf.2 c6
    refine lv_iconst (v := 1) (pc := 43) hx hb dX6_goesIn_43 rfl ?_
    refine lv_goto (tgt := 48) (pc := 44) hx hb dX6_goesIn_44 (by decide) ?_
    exact bX6_goesIn_48 hF E hr hlk hf hI (lv_sub hl [] rfl)
def wX6_goesIn (p1 : Int32) (σ : St) (Q : St → Prop) : Prop := wX6_firstEmpty p1 σ (fun r2 σ1 => ((¬ r2 = (-1) → (wX6_goesIn_j23 p1 r2 (gJ σ1 16 8) (lsh 1 r2) σ1 Q)) ∧ (r2 = (-1) → (wX6_goesIn_j23 p1 r2 (gJ σ1 16 8) 0 σ1 Q))))
set_option maxRecDepth 100000 in
set_option maxHeartbeats 4000000 in
theorem bX6_goesIn {p : Program} {l : Launch} {e : Env} {s : State} {m : MethodId} {args : Array Value} {below : List Frame} {meth : Method} {c : Code} {H : Heap} {locs : List Loc} {ls : Array Slot} {D : va_G} {F : (Nat → Prop) → State → Prop} {A : Nat → Prop} {σ : St} {ad : Nat → Nat → Nat} {cy : Nat → ClassId} {Rr : va_W} {Q : St → Prop} {p1 : Int32} (hF : Stab F) (E : CallFix p m c cX6_goesIn 3 s args TB RX6) (hr : meth.sig.returnType = none) (hlk : meth.locks = false) (hf : wX6_goesIn p1 σ Q) (hI : In (D, tysM cy, F) (LM ad cy Rr σ) A s H locs) (hl : lv_has ls 3 [(0, .ref (ad 16 99)), (1, .int p1)]) : W p l e (rmD 2) s m args below meth c H locs 0 0 (PV below args s (D, tysM cy, F) A (LM ad cy Rr) Q) (F0 m 0 ls []) := by
  have hx := E.1
  have hb := E.2.1
  unfold wX6_goesIn at hf
  refine lv_aload_n (pc := 0) hx hb dX6_goesIn_0 rfl (lv_at hl 0 rfl) ?_
  refine lv_iload_n (pc := 1) hx hb dX6_goesIn_1 rfl (lv_at hl 1 rfl) ?_
  refine callVI (G := (D, tysM cy, F)) (L := LM ad cy Rr) (pc := 2) (As := [.int p1]) (rest := []) hF E cs0 hl hI (tX6_firstEmpty hF hf) mwX6_369 (fitD (by decide)) (at6) rfl rfl rfl rfl (Nat.le_of_ble_eq_true rfl) dX6_goesIn_2 (fun r2 σ1 H locs hf hI => ?_)
  refine lv_istore_n (lv' := [(2, .int r2), (0, .ref (ad 16 99)), (1, .int p1)]) (pc := 5) hx hb dX6_goesIn_5 rfl hl (by decide) rfl (fun ls hl => ?_)
  refine lv_aload_n (pc := 6) hx hb dX6_goesIn_6 rfl (lv_at hl 1 rfl) ?_
  refine lv_dup (pc := 7) hx hb dX6_goesIn_7 rfl ?_
  refine g6_8 (pc := 8) E hI lkX6_109 dX6_goesIn_8 ?_
  refine lv_iload_n (pc := 11) hx hb dX6_goesIn_11 rfl (lv_at hl 0 rfl) ?_
  refine lv_iconst (v := (-1)) (pc := 12) hx hb dX6_goesIn_12 rfl ?_
  refine lv_icmp_ne (tgt := 20) (pc := 13) hx hb dX6_goesIn_13 (by decide) (fun c3 => ?_) (fun c3 => ?_)
  · have hf := hf.1 c3
    refine lv_lconst (v := 1) (pc := 20) hx hb dX6_goesIn_20 rfl ?_
    refine lv_iload_n (pc := 21) hx hb dX6_goesIn_21 rfl (lv_at hl 0 rfl) ?_
    refine lv_lshl (v := (lsh 1 r2)) (pc := 22) hx hb dX6_goesIn_22 rfl ?_
    exact bX6_goesIn_23 hF E hr hlk hf hI (lv_sub hl [1, 2, 0] rfl)
  · have hf := hf.2 c3
    refine lv_lconst (v := 0) (pc := 16) hx hb dX6_goesIn_16 rfl ?_
    refine lv_goto (tgt := 23) (pc := 17) hx hb dX6_goesIn_17 (by decide) ?_
    exact bX6_goesIn_23 hF E hr hlk hf hI (lv_sub hl [1, 2, 0] rfl)
theorem tX6_goesIn {l : Launch} {D : va_G} {F : (Nat → Prop) → State → Prop} {σ : St} {ad : Nat → Nat → Nat} {cy : Nat → ClassId} {Rr : va_W} {Q : St → Prop} {p1 : Int32} (hF : Stab F) (hf : wX6_goesIn p1 σ Q) : CtV l yX6_goesIn cX6_goesIn 3 2 (D, tysM cy, F) (LM ad cy Rr) [.ref (ad 16 99), .int p1] σ Q := mkV (by decide) (Nat.le_of_ble_eq_true rfl) (fun p e s m below meth c A E hr hlk hI ls hl => bX6_goesIn hF E hr hlk hf hI hl)

def wX6_gap_j97 (a1 : Int32) (a2 : Int32) (a4 : Int32) (s0 : Int32) (s1 : Int32) (σ : St) (K : Int32 → Int32 → Int32 → Int32 → St → Prop) (Q : Int32 → St → Prop) : Prop := ∀ x15 : Int32, x15 = (s0 ||| (ish s1 a4)) → ∀ x16 : Int32, x16 = a4 + 1 → (K a1 a2 x15 x16 σ)
set_option maxRecDepth 100000 in
set_option maxHeartbeats 4000000 in
theorem bX6_gap_97 {p : Program} {l : Launch} {e : Env} {s : State} {m : MethodId} {args : Array Value} {below : List Frame} {meth : Method} {c : Code} {H : Heap} {locs : List Loc} {ls : Array Slot} {D : va_G} {F : (Nat → Prop) → State → Prop} {A : Nat → Prop} {σ : St} {ad : Nat → Nat → Nat} {cy : Nat → ClassId} {Rr : va_W} {Q : Int32 → St → Prop} {a1 : Int32} {a2 : Int32} {a4 : Int32} {s0 : Int32} {s1 : Int32} {K : Int32 → Int32 → Int32 → Int32 → St → Prop} (hF : Stab F) (E : CallFix p m c cX6_gap 6 s args TB RX6) (hr : meth.sig.returnType = some .int) (hlk : meth.locks = false) (hK : ∀ (a1 : Int32) (a2 : Int32) (a3 : Int32) (a4 : Int32) (σ : St) (H : Heap) (locs : List Loc) (ls : Array Slot), K a1 a2 a3 a4 σ → In (D, tysM cy, F) (LM ad cy Rr σ) A s H locs → lv_has ls 6 [(0, .ref (ad 16 99)), (1, .int a1), (2, .int a2), (3, .int a3), (4, .int a4)] → W p l e (rmD 2) s m args below meth c H locs 0 0 (PI below args s (D, tysM cy, F) A (LM ad cy Rr) Q) (F0 m 33 ls [])) (hf : wX6_gap_j97 a1 a2 a4 s0 s1 σ K Q) (hI : In (D, tysM cy, F) (LM ad cy Rr σ) A s H locs) (hl : lv_has ls 6 [(0, .ref (ad 16 99)), (1, .int a1), (2, .int a2), (4, .int a4)]) : W p l e (rmD 2) s m args below meth c H locs 0 0 (PI below args s (D, tysM cy, F) A (LM ad cy Rr) Q) (F0 m 97 ls [.int s1, .int s0]) := by
  have hx := E.1
  have hb := E.2.1
  unfold wX6_gap_j97 at hf
  refine lv_iload (pc := 97) hx hb dX6_gap_97 (lv_at hl 3 rfl) ?_
  refine lv_ishl1 (pc := 99) hx hb dX6_gap_99 ?_
  refine lv_ior (pc := 100) hx hb dX6_gap_100 ?_
  refine lv_topi (fun x15 ex15 => ?_)
  have hf := hf x15 ex15
  refine lv_istore_n (lv' := [(3, .int x15), (0, .ref (ad 16 99)), (1, .int a1), (2, .int a2), (4, .int a4)]) (pc := 101) hx hb dX6_gap_101 rfl hl (by decide) rfl (fun ls hl => ?_)
  obtain ⟨x16, ex16⟩ : ∃ y : Int32, y = a4 + 1 := ⟨_, rfl⟩
  have hf := hf x16 ex16
  refine lv_iinc (v := x16) (lv' := [(4, .int x16), (3, .int x15), (0, .ref (ad 16 99)), (1, .int a1), (2, .int a2)]) (pc := 102) hx hb dX6_gap_102 hl (k := 4) rfl (by rw [ex16]; rfl) (by decide) rfl (fun ls hl => ?_)
  refine lv_goto (tgt := 33) (pc := 105) hx hb dX6_gap_105 (by decide) ?_
  exact hK _ _ _ _ _ _ _ _ hf hI (lv_sub hl [2, 3, 4, 1, 0] rfl)
def wX6_gap_j84 (a1 : Int32) (a3 : Int32) (a4 : Int32) (a5 : Int32) (s0 : Int32) (s1 : Int32) (σ : St) (K : Int32 → Int32 → Int32 → Int32 → St → Prop) (Q : Int32 → St → Prop) : Prop := ∀ x13 : Int32, x13 = (s0 + s1) → ((¬ a5 = 0 → (wX6_gap_j97 a1 x13 a4 a3 0 σ K Q)) ∧ (a5 = 0 → (wX6_gap_j97 a1 x13 a4 a3 1 σ K Q)))
set_option maxRecDepth 100000 in
set_option maxHeartbeats 4000000 in
theorem bX6_gap_84 {p : Program} {l : Launch} {e : Env} {s : State} {m : MethodId} {args : Array Value} {below : List Frame} {meth : Method} {c : Code} {H : Heap} {locs : List Loc} {ls : Array Slot} {D : va_G} {F : (Nat → Prop) → State → Prop} {A : Nat → Prop} {σ : St} {ad : Nat → Nat → Nat} {cy : Nat → ClassId} {Rr : va_W} {Q : Int32 → St → Prop} {a1 : Int32} {a3 : Int32} {a4 : Int32} {a5 : Int32} {s0 : Int32} {s1 : Int32} {K : Int32 → Int32 → Int32 → Int32 → St → Prop} (hF : Stab F) (E : CallFix p m c cX6_gap 6 s args TB RX6) (hr : meth.sig.returnType = some .int) (hlk : meth.locks = false) (hK : ∀ (a1 : Int32) (a2 : Int32) (a3 : Int32) (a4 : Int32) (σ : St) (H : Heap) (locs : List Loc) (ls : Array Slot), K a1 a2 a3 a4 σ → In (D, tysM cy, F) (LM ad cy Rr σ) A s H locs → lv_has ls 6 [(0, .ref (ad 16 99)), (1, .int a1), (2, .int a2), (3, .int a3), (4, .int a4)] → W p l e (rmD 2) s m args below meth c H locs 0 0 (PI below args s (D, tysM cy, F) A (LM ad cy Rr) Q) (F0 m 33 ls [])) (hf : wX6_gap_j84 a1 a3 a4 a5 s0 s1 σ K Q) (hI : In (D, tysM cy, F) (LM ad cy Rr σ) A s H locs) (hl : lv_has ls 6 [(0, .ref (ad 16 99)), (1, .int a1), (3, .int a3), (4, .int a4), (5, .int a5)]) : W p l e (rmD 2) s m args below meth c H locs 0 0 (PI below args s (D, tysM cy, F) A (LM ad cy Rr) Q) (F0 m 84 ls [.int s1, .int s0]) := by
  have hx := E.1
  have hb := E.2.1
  unfold wX6_gap_j84 at hf
  refine lv_iadd (pc := 84) hx hb dX6_gap_84 ?_
  refine lv_topi (fun x13 ex13 => ?_)
  have hf := hf x13 ex13
  refine lv_istore_n (lv' := [(2, .int x13), (0, .ref (ad 16 99)), (1, .int a1), (3, .int a3), (4, .int a4), (5, .int a5)]) (pc := 85) hx hb dX6_gap_85 rfl hl (by decide) rfl (fun ls hl => ?_)
  refine lv_iload_n (pc := 86) hx hb dX6_gap_86 rfl (lv_at hl 3 rfl) ?_
  refine lv_iload (pc := 87) hx hb dX6_gap_87 (lv_at hl 5 rfl) ?_
  refine lv_if_ne (tgt := 96) (pc := 89) hx hb dX6_gap_89 (by decide) (fun c14 => ?_) (fun c14 => ?_)
  · have hf := hf.1 c14
    refine lv_iconst (v := 0) (pc := 96) hx hb dX6_gap_96 rfl ?_
    exact bX6_gap_97 hF E hr hlk hK hf hI (lv_sub hl [1, 2, 0, 4] rfl)
  · have hf := hf.2 c14
    refine lv_iconst (v := 1) (pc := 92) hx hb dX6_gap_92 rfl ?_
    refine lv_goto (tgt := 97) (pc := 93) hx hb dX6_gap_93 (by decide) ?_
    exact bX6_gap_97 hF E hr hlk hK hf hI (lv_sub hl [1, 2, 0, 4] rfl)
def wX6_gap_l33s (ih : Int32 → Int32 → Int32 → Int32 → St → Prop) (a1 : Int32) (a2 : Int32) (a3 : Int32) (a4 : Int32) (σ : St) (Q : Int32 → St → Prop) : Prop := ((4 ≤ a4 → ((¬ a1 = 2 → Q a3 σ) ∧ (a1 = 2 → Q a2 σ))) ∧ (¬ 4 ≤ a4 → wX6_wanting a4 σ (fun r8 σ7 => wX6_bitsOf (r8 &&& ((gJ σ7 16 8) ^^^ (-1))) σ7 (fun r10 σ9 => vp_in a4 4 ∧ ((r10 ≤ (gA σ9 16 10 a4.toNatClampNeg) → (wX6_gap_j84 a1 a3 a4 r10 a2 r10 σ9 ih Q)) ∧ (¬ r10 ≤ (gA σ9 16 10 a4.toNatClampNeg) → vp_in a4 4 ∧ (wX6_gap_j84 a1 a3 a4 r10 a2 (gA σ9 16 10 a4.toNatClampNeg) σ9 ih Q)))))))
def wX6_gap_l33 (n : Nat) : Int32 → Int32 → Int32 → Int32 → St → (Int32 → St → Prop) → Prop := @Nat.rec (fun _ => Int32 → Int32 → Int32 → Int32 → St → (Int32 → St → Prop) → Prop) (fun _ _ _ _ _ _ => False) (fun _ ih a1 a2 a3 a4 σ Q => wX6_gap_l33s (fun a1 a2 a3 a4 σ => ih a1 a2 a3 a4 σ Q) a1 a2 a3 a4 σ Q) n
set_option maxRecDepth 100000 in
set_option maxHeartbeats 4000000 in
theorem bX6_gap_33 {p : Program} {l : Launch} {e : Env} {s : State} {m : MethodId} {args : Array Value} {below : List Frame} {meth : Method} {c : Code} {D : va_G} {F : (Nat → Prop) → State → Prop} {A : Nat → Prop} {ad : Nat → Nat → Nat} {cy : Nat → ClassId} {Rr : va_W} {Q : Int32 → St → Prop} (hF : Stab F) (E : CallFix p m c cX6_gap 6 s args TB RX6) (hr : meth.sig.returnType = some .int) (hlk : meth.locks = false) : ∀ (n : Nat) {a1 : Int32} {a2 : Int32} {a3 : Int32} {a4 : Int32} {σ : St} {H : Heap} {locs : List Loc} {ls : Array Slot}, wX6_gap_l33 n a1 a2 a3 a4 σ Q → In (D, tysM cy, F) (LM ad cy Rr σ) A s H locs → lv_has ls 6 [(0, .ref (ad 16 99)), (1, .int a1), (2, .int a2), (3, .int a3), (4, .int a4)] → W p l e (rmD 2) s m args below meth c H locs 0 0 (PI below args s (D, tysM cy, F) A (LM ad cy Rr) Q) (F0 m 33 ls []) := by
  have hx := E.1
  have hb := E.2.1
  intro n
  induction n with
  | zero => intro a1 a2 a3 a4 σ H locs ls hf hI hl; exact False.elim hf
  | succ n ih =>
    intro a1 a2 a3 a4 σ H locs ls hf hI hl
    have hf : wX6_gap_l33s (fun a1 a2 a3 a4 σ => wX6_gap_l33 n a1 a2 a3 a4 σ Q) a1 a2 a3 a4 σ Q := hf
    unfold wX6_gap_l33s at hf
    refine lv_iload (pc := 33) hx hb dX6_gap_33 (lv_at hl 4 rfl) ?_
    refine lv_iconst (v := 4) (pc := 35) hx hb dX6_gap_35 rfl ?_
    refine lv_icmp_ge (tgt := 108) (pc := 36) hx hb dX6_gap_36 (by decide) (fun c5 => ?_) (fun c5 => ?_)
    · have hf := hf.1 c5
      refine lv_iload_n (pc := 108) hx hb dX6_gap_108 rfl (lv_at hl 1 rfl) ?_
      refine lv_iconst (v := 2) (pc := 109) hx hb dX6_gap_109 rfl ?_
      refine lv_icmp_ne (tgt := 117) (pc := 110) hx hb dX6_gap_110 (by decide) (fun c6 => ?_) (fun c6 => ?_)
      · have hf := hf.1 c6
        refine lv_iload_n (pc := 117) hx hb dX6_gap_117 rfl (lv_at hl 3 rfl) ?_
        exact rI (pc := 118) E hr hlk hI hf dX6_gap_118
      · have hf := hf.2 c6
        refine lv_iload_n (pc := 113) hx hb dX6_gap_113 rfl (lv_at hl 2 rfl) ?_
        refine lv_goto (tgt := 118) (pc := 114) hx hb dX6_gap_114 (by decide) ?_
        exact rI (pc := 118) E hr hlk hI hf dX6_gap_118
    · have hf := hf.2 c5
      refine lv_aload_n (pc := 39) hx hb dX6_gap_39 rfl (lv_at hl 0 rfl) ?_
      refine lv_iload (pc := 40) hx hb dX6_gap_40 (lv_at hl 4 rfl) ?_
      refine callVJ (G := (D, tysM cy, F)) (L := LM ad cy Rr) (pc := 42) (As := [.int a4]) (rest := []) hF E cs0 hl hI (tX6_wanting hF hf) mwX6_141 (fitD (by decide)) (at6) rfl rfl rfl rfl (Nat.le_of_ble_eq_true rfl) dX6_gap_42 (fun r8 σ7 H locs hf hI => ?_)
      refine lv_aload_n (pc := 45) hx hb dX6_gap_45 rfl (lv_at hl 0 rfl) ?_
      refine g6_8 (pc := 46) E hI lkX6_109 dX6_gap_46 ?_
      refine lv_ldc2 (pc := 49) E.1 E.2.1 E.2.2.2.1 (E.2.2.2.2 _ kcX6_113) dX6_gap_49 ?_
      refine lv_lxor (pc := 52) hx hb dX6_gap_52 ?_
      refine lv_land (pc := 53) hx hb dX6_gap_53 ?_
      refine callSI (G := (D, tysM cy, F)) (L := LM ad cy Rr) (pc := 54) (As := [.long (r8 &&& ((gJ σ7 16 8) ^^^ (-1)))]) (rest := []) hF E cs0 hl hI (tX6_bitsOf hF hf) mwX6_352 (fitD (by decide)) rfl rfl (Nat.le_of_ble_eq_true rfl) dX6_gap_54 (fun r10 σ9 H locs hf hI => ?_)
      refine lv_istore (lv' := [(5, .int r10), (0, .ref (ad 16 99)), (1, .int a1), (2, .int a2), (3, .int a3), (4, .int a4)]) (pc := 57) hx hb dX6_gap_57 hl (by decide) rfl (fun ls hl => ?_)
      refine lv_iload_n (pc := 59) hx hb dX6_gap_59 rfl (lv_at hl 3 rfl) ?_
      refine lv_aload_n (pc := 60) hx hb dX6_gap_60 rfl (lv_at hl 1 rfl) ?_
      refine g6_10 (pc := 61) E hI lkX6_26 dX6_gap_61 ?_
      refine lv_iload (pc := 64) hx hb dX6_gap_64 (lv_at hl 5 rfl) ?_
      have g11 := hf.1
      have hf := hf.2
      refine a6_10 (pc := 66) E hI g11 dX6_gap_66 ?_
      refine lv_iload (pc := 67) hx hb dX6_gap_67 (lv_at hl 0 rfl) ?_
      refine lv_icmp_ge (tgt := 82) (pc := 69) hx hb dX6_gap_69 (by decide) (fun c12 => ?_) (fun c12 => ?_)
      · have hf := hf.1 c12
        refine lv_iload (pc := 82) hx hb dX6_gap_82 (lv_at hl 0 rfl) ?_
        exact bX6_gap_84 hF E hr hlk (fun _ _ _ _ _ _ _ _ hf hI hl => ih hf hI hl) hf hI (lv_sub hl [1, 2, 4, 5, 0] rfl)
      · have hf := hf.2 c12
        refine lv_aload_n (pc := 72) hx hb dX6_gap_72 rfl (lv_at hl 1 rfl) ?_
        refine g6_10 (pc := 73) E hI lkX6_26 dX6_gap_73 ?_
        refine lv_iload (pc := 76) hx hb dX6_gap_76 (lv_at hl 5 rfl) ?_
        have g17 := hf.1
        have hf := hf.2
        refine a6_10 (pc := 78) E hI g17 dX6_gap_78 ?_
        refine lv_goto (tgt := 84) (pc := 79) hx hb dX6_gap_79 (by decide) ?_
        exact bX6_gap_84 hF E hr hlk (fun _ _ _ _ _ _ _ _ hf hI hl => ih hf hI hl) hf hI (lv_sub hl [1, 2, 4, 5, 0] rfl)
def wX6_gap (p1 : Int32) (σ : St) (Q : Int32 → St → Prop) : Prop := wX6_in (p1.toInt64) 0 3 σ (fun r2 σ1 => ((¬ r2 = 0 → ((2 ≤ p1 → ∃ n18 : Nat, wX6_gap_l33 n18 p1 0 0 0 σ1 Q) ∧ (¬ 2 ≤ p1 → wX6_longest p1 σ1 (fun r20 σ19 => Q r20 σ19)))) ∧ (r2 = 0 → Q (-2) σ1)))
set_option maxRecDepth 100000 in
set_option maxHeartbeats 4000000 in
theorem bX6_gap {p : Program} {l : Launch} {e : Env} {s : State} {m : MethodId} {args : Array Value} {below : List Frame} {meth : Method} {c : Code} {H : Heap} {locs : List Loc} {ls : Array Slot} {D : va_G} {F : (Nat → Prop) → State → Prop} {A : Nat → Prop} {σ : St} {ad : Nat → Nat → Nat} {cy : Nat → ClassId} {Rr : va_W} {Q : Int32 → St → Prop} {p1 : Int32} (hF : Stab F) (E : CallFix p m c cX6_gap 6 s args TB RX6) (hr : meth.sig.returnType = some .int) (hlk : meth.locks = false) (hf : wX6_gap p1 σ Q) (hI : In (D, tysM cy, F) (LM ad cy Rr σ) A s H locs) (hl : lv_has ls 6 [(0, .ref (ad 16 99)), (1, .int p1)]) : W p l e (rmD 2) s m args below meth c H locs 0 0 (PI below args s (D, tysM cy, F) A (LM ad cy Rr) Q) (F0 m 0 ls []) := by
  have hx := E.1
  have hb := E.2.1
  unfold wX6_gap at hf
  refine lv_iload_n (pc := 0) hx hb dX6_gap_0 rfl (lv_at hl 1 rfl) ?_
  refine lv_i2l (v := (p1.toInt64)) (pc := 1) hx hb dX6_gap_1 rfl ?_
  refine lv_lconst (v := 0) (pc := 2) hx hb dX6_gap_2 rfl ?_
  refine lv_ldc2 (pc := 3) E.1 E.2.1 E.2.2.2.1 (E.2.2.2.2 _ kcX6_82) dX6_gap_3 ?_
  refine callSI (G := (D, tysM cy, F)) (L := LM ad cy Rr) (pc := 6) (As := [.long (p1.toInt64), .long 0, .long 3]) (rest := []) hF E cs0 hl hI (tX6_in hF hf) mwX6_76 (fitD (by decide)) rfl rfl (Nat.le_of_ble_eq_true rfl) dX6_gap_6 (fun r2 σ1 H locs hf hI => ?_)
  refine lv_if_ne (tgt := 15) (pc := 9) hx hb dX6_gap_9 (by decide) (fun c3 => ?_) (fun c3 => ?_)
  · have hf := hf.1 c3
    refine lv_iload_n (pc := 15) hx hb dX6_gap_15 rfl (lv_at hl 1 rfl) ?_
    refine lv_iconst (v := 2) (pc := 16) hx hb dX6_gap_16 rfl ?_
    refine lv_icmp_ge (tgt := 26) (pc := 17) hx hb dX6_gap_17 (by decide) (fun c4 => ?_) (fun c4 => ?_)
    · have hf := hf.1 c4
      refine lv_iconst (v := 0) (pc := 26) hx hb dX6_gap_26 rfl ?_
      refine lv_istore_n (lv' := [(2, .int 0), (0, .ref (ad 16 99)), (1, .int p1)]) (pc := 27) hx hb dX6_gap_27 rfl hl (by decide) rfl (fun ls hl => ?_)
      refine lv_iconst (v := 0) (pc := 28) hx hb dX6_gap_28 rfl ?_
      refine lv_istore_n (lv' := [(3, .int 0), (2, .int 0), (0, .ref (ad 16 99)), (1, .int p1)]) (pc := 29) hx hb dX6_gap_29 rfl hl (by decide) rfl (fun ls hl => ?_)
      refine lv_iconst (v := 0) (pc := 30) hx hb dX6_gap_30 rfl ?_
      refine lv_istore (lv' := [(4, .int 0), (3, .int 0), (2, .int 0), (0, .ref (ad 16 99)), (1, .int p1)]) (pc := 31) hx hb dX6_gap_31 hl (by decide) rfl (fun ls hl => ?_)
      obtain ⟨n18, hf⟩ := hf
      exact bX6_gap_33 hF E hr hlk n18 hf hI (lv_sub hl [3, 4, 2, 1, 0] rfl)
    · have hf := hf.2 c4
      refine lv_aload_n (pc := 20) hx hb dX6_gap_20 rfl (lv_at hl 0 rfl) ?_
      refine lv_iload_n (pc := 21) hx hb dX6_gap_21 rfl (lv_at hl 1 rfl) ?_
      refine callVI (G := (D, tysM cy, F)) (L := LM ad cy Rr) (pc := 22) (As := [.int p1]) (rest := []) hF E cs0 hl hI (tX6_longest hF hf) mwX6_401 (fitD (by decide)) (at6) rfl rfl rfl rfl (Nat.le_of_ble_eq_true rfl) dX6_gap_22 (fun r20 σ19 H locs hf hI => ?_)
      exact rI (pc := 25) E hr hlk hI hf dX6_gap_25
  · have hf := hf.2 c3
    refine lv_bipush (v := (-2)) (pc := 12) hx hb dX6_gap_12 rfl ?_
    exact rI (pc := 14) E hr hlk hI hf dX6_gap_14
theorem tX6_gap {l : Launch} {D : va_G} {F : (Nat → Prop) → State → Prop} {σ : St} {ad : Nat → Nat → Nat} {cy : Nat → ClassId} {Rr : va_W} {Q : Int32 → St → Prop} {p1 : Int32} (hF : Stab F) (hf : wX6_gap p1 σ Q) : CtI l yX6_gap cX6_gap 6 .int 2 (D, tysM cy, F) (LM ad cy Rr) [.ref (ad 16 99), .int p1] σ Q := mkI (by decide) (Nat.le_of_ble_eq_true rfl) (fun p e s m below meth c A E hr hlk hI ls hl => bX6_gap hF E hr hlk hf hI hl)

def wX6_sheet_l77s (ih : Int32 → Int32 → Int32 → Int32 → St → Prop) (a1 : Int32) (a2 : Int32) (a3 : Int32) (a4 : Int32) (σ : St) (Q : Int32 → St → Prop) : Prop := ((a3 ≤ a4 → Q 1 σ) ∧ (¬ a3 ≤ a4 → ((a2 < 0 → Q 1 σ) ∧ (¬ a2 < 0 → vp_in ((40 * a1) + a4) 160 ∧ ∀ σ20 : St, σ20 = sA σ 16 42 ((40 * a1) + a4).toNatClampNeg 0 → ∀ x21 : Int32, x21 = a4 + 1 → (ih a1 a2 a3 x21 σ20)))))
def wX6_sheet_l77 (n : Nat) : Int32 → Int32 → Int32 → Int32 → St → (Int32 → St → Prop) → Prop := @Nat.rec (fun _ => Int32 → Int32 → Int32 → Int32 → St → (Int32 → St → Prop) → Prop) (fun _ _ _ _ _ _ => False) (fun _ ih a1 a2 a3 a4 σ Q => wX6_sheet_l77s (fun a1 a2 a3 a4 σ => ih a1 a2 a3 a4 σ Q) a1 a2 a3 a4 σ Q) n
set_option maxRecDepth 100000 in
set_option maxHeartbeats 4000000 in
theorem bX6_sheet_77 {p : Program} {l : Launch} {e : Env} {s : State} {m : MethodId} {args : Array Value} {below : List Frame} {meth : Method} {c : Code} {D : va_G} {F : (Nat → Prop) → State → Prop} {A : Nat → Prop} {ad : Nat → Nat → Nat} {cy : Nat → ClassId} {Rr : va_W} {Q : Int32 → St → Prop} (hF : Stab F) (E : CallFix p m c cX6_sheet 5 s args TB RX6) (hr : meth.sig.returnType = some .int) (hlk : meth.locks = false) : ∀ (n : Nat) {a1 : Int32} {a2 : Int32} {a3 : Int32} {a4 : Int32} {σ : St} {H : Heap} {locs : List Loc} {ls : Array Slot}, wX6_sheet_l77 n a1 a2 a3 a4 σ Q → In (D, tysM cy, F) (LM ad cy Rr σ) A s H locs → lv_has ls 5 [(0, .ref (ad 16 99)), (1, .int a1), (2, .int a2), (3, .int a3), (4, .int a4)] → W p l e (rmD 2) s m args below meth c H locs 0 0 (PI below args s (D, tysM cy, F) A (LM ad cy Rr) Q) (F0 m 77 ls []) := by
  have hx := E.1
  have hb := E.2.1
  intro n
  induction n with
  | zero => intro a1 a2 a3 a4 σ H locs ls hf hI hl; exact False.elim hf
  | succ n ih =>
    intro a1 a2 a3 a4 σ H locs ls hf hI hl
    have hf : wX6_sheet_l77s (fun a1 a2 a3 a4 σ => wX6_sheet_l77 n a1 a2 a3 a4 σ Q) a1 a2 a3 a4 σ Q := hf
    unfold wX6_sheet_l77s at hf
    refine lv_iload (pc := 77) hx hb dX6_sheet_77 (lv_at hl 4 rfl) ?_
    refine lv_iload_n (pc := 79) hx hb dX6_sheet_79 rfl (lv_at hl 3 rfl) ?_
    refine lv_icmp_ge (tgt := 106) (pc := 80) hx hb dX6_sheet_80 (by decide) (fun c17 => ?_) (fun c17 => ?_)
    · have hf := hf.1 c17
      refine lv_iconst (v := 1) (pc := 106) hx hb dX6_sheet_106 rfl ?_
      exact rI (pc := 107) E hr hlk hI hf dX6_sheet_107
    · have hf := hf.2 c17
      refine lv_iload_n (pc := 83) hx hb dX6_sheet_83 rfl (lv_at hl 2 rfl) ?_
      refine lv_if_lt (tgt := 106) (pc := 84) hx hb dX6_sheet_84 (by decide) (fun c18 => ?_) (fun c18 => ?_)
      · have hf := hf.1 c18
        refine lv_iconst (v := 1) (pc := 106) hx hb dX6_sheet_106 rfl ?_
        exact rI (pc := 107) E hr hlk hI hf dX6_sheet_107
      · have hf := hf.2 c18
        refine lv_aload_n (pc := 87) hx hb dX6_sheet_87 rfl (lv_at hl 0 rfl) ?_
        refine g6_42 (pc := 88) E hI lkX6_63 dX6_sheet_88 ?_
        refine lv_bipush (v := 40) (pc := 91) hx hb dX6_sheet_91 rfl ?_
        refine lv_iload_n (pc := 93) hx hb dX6_sheet_93 rfl (lv_at hl 1 rfl) ?_
        refine lv_imul (pc := 94) hx hb dX6_sheet_94 ?_
        refine lv_iload (pc := 95) hx hb dX6_sheet_95 (lv_at hl 4 rfl) ?_
        refine lv_iadd (pc := 97) hx hb dX6_sheet_97 ?_
        refine lv_iconst (v := 0) (pc := 98) hx hb dX6_sheet_98 rfl ?_
        have g19 := hf.1
        have hf := hf.2
        refine s6_42 (pc := 99) E hI g19 dX6_sheet_99 (fun H locs σ20 eσ20 hI => ?_)
        have hf := hf σ20 eσ20
        obtain ⟨x21, ex21⟩ : ∃ y : Int32, y = a4 + 1 := ⟨_, rfl⟩
        have hf := hf x21 ex21
        refine lv_iinc (v := x21) (lv' := [(4, .int x21), (0, .ref (ad 16 99)), (1, .int a1), (2, .int a2), (3, .int a3)]) (pc := 100) hx hb dX6_sheet_100 hl (k := 4) rfl (by rw [ex21]; rfl) (by decide) rfl (fun ls hl => ?_)
        refine lv_goto (tgt := 77) (pc := 103) hx hb dX6_sheet_103 (by decide) ?_
        exact ih hf hI (lv_sub hl [1, 2, 3, 4, 0] rfl)
def wX6_sheet_j59 (a1 : Int32) (a2 : Int32) (a3 : Int32) (s1 : Int32) (s2 : Int32) (σ : St) (Q : Int32 → St → Prop) : Prop := vp_in s1 4 ∧ (s2 = 0 ∨ s2 = 1) ∧ ∀ σ12 : St, σ12 = sA σ 16 39 s1.toNatClampNeg s2 → vp_in a1 4 ∧ ∀ σ14 : St, σ14 = sA σ12 16 40 a1.toNatClampNeg a2 → vp_in a1 4 ∧ ∀ σ16 : St, σ16 = sA σ14 16 41 a1.toNatClampNeg a3 → ∃ n22 : Nat, wX6_sheet_l77 n22 a1 a2 a3 0 σ16 Q
set_option maxRecDepth 100000 in
set_option maxHeartbeats 4000000 in
theorem bX6_sheet_59 {p : Program} {l : Launch} {e : Env} {s : State} {m : MethodId} {args : Array Value} {below : List Frame} {meth : Method} {c : Code} {H : Heap} {locs : List Loc} {ls : Array Slot} {D : va_G} {F : (Nat → Prop) → State → Prop} {A : Nat → Prop} {σ : St} {ad : Nat → Nat → Nat} {cy : Nat → ClassId} {Rr : va_W} {Q : Int32 → St → Prop} {a1 : Int32} {a2 : Int32} {a3 : Int32} {s1 : Int32} {s2 : Int32} (hF : Stab F) (E : CallFix p m c cX6_sheet 5 s args TB RX6) (hr : meth.sig.returnType = some .int) (hlk : meth.locks = false) (hf : wX6_sheet_j59 a1 a2 a3 s1 s2 σ Q) (hI : In (D, tysM cy, F) (LM ad cy Rr σ) A s H locs) (hl : lv_has ls 5 [(0, .ref (ad 16 99)), (1, .int a1), (2, .int a2), (3, .int a3)]) : W p l e (rmD 2) s m args below meth c H locs 0 0 (PI below args s (D, tysM cy, F) A (LM ad cy Rr) Q) (F0 m 59 ls [.int s2, .int s1, .ref (ad 16 39)]) := by
  have hx := E.1
  have hb := E.2.1
  unfold wX6_sheet_j59 at hf
  have g10 := hf.1
  have hf := hf.2
  have z11 := hf.1
  have hf := hf.2
  refine s6_39 (pc := 59) E hI g10 z11 dX6_sheet_59 (fun H locs σ12 eσ12 hI => ?_)
  have hf := hf σ12 eσ12
  refine lv_aload_n (pc := 60) hx hb dX6_sheet_60 rfl (lv_at hl 0 rfl) ?_
  refine g6_40 (pc := 61) E hI lkX6_57 dX6_sheet_61 ?_
  refine lv_iload_n (pc := 64) hx hb dX6_sheet_64 rfl (lv_at hl 1 rfl) ?_
  refine lv_iload_n (pc := 65) hx hb dX6_sheet_65 rfl (lv_at hl 2 rfl) ?_
  have g13 := hf.1
  have hf := hf.2
  refine s6_40 (pc := 66) E hI g13 dX6_sheet_66 (fun H locs σ14 eσ14 hI => ?_)
  have hf := hf σ14 eσ14
  refine lv_aload_n (pc := 67) hx hb dX6_sheet_67 rfl (lv_at hl 0 rfl) ?_
  refine g6_41 (pc := 68) E hI lkX6_60 dX6_sheet_68 ?_
  refine lv_iload_n (pc := 71) hx hb dX6_sheet_71 rfl (lv_at hl 1 rfl) ?_
  refine lv_iload_n (pc := 72) hx hb dX6_sheet_72 rfl (lv_at hl 3 rfl) ?_
  have g15 := hf.1
  have hf := hf.2
  refine s6_41 (pc := 73) E hI g15 dX6_sheet_73 (fun H locs σ16 eσ16 hI => ?_)
  have hf := hf σ16 eσ16
  refine lv_iconst (v := 0) (pc := 74) hx hb dX6_sheet_74 rfl ?_
  refine lv_istore (lv' := [(4, .int 0), (0, .ref (ad 16 99)), (1, .int a1), (2, .int a2), (3, .int a3)]) (pc := 75) hx hb dX6_sheet_75 hl (by decide) rfl (fun ls hl => ?_)
  obtain ⟨n22, hf⟩ := hf
  exact bX6_sheet_77 hF E hr hlk n22 hf hI (lv_sub hl [1, 2, 3, 4, 0] rfl)
def wX6_sheet_j45 (a1 : Int32) (a2 : Int32) (a3 : Int32) (σ : St) (Q : Int32 → St → Prop) : Prop := ((a2 < 0 → (wX6_sheet_j59 a1 a2 a3 a1 0 σ Q)) ∧ (¬ a2 < 0 → (wX6_sheet_j59 a1 a2 a3 a1 1 σ Q)))
set_option maxRecDepth 100000 in
set_option maxHeartbeats 4000000 in
theorem bX6_sheet_45 {p : Program} {l : Launch} {e : Env} {s : State} {m : MethodId} {args : Array Value} {below : List Frame} {meth : Method} {c : Code} {H : Heap} {locs : List Loc} {ls : Array Slot} {D : va_G} {F : (Nat → Prop) → State → Prop} {A : Nat → Prop} {σ : St} {ad : Nat → Nat → Nat} {cy : Nat → ClassId} {Rr : va_W} {Q : Int32 → St → Prop} {a1 : Int32} {a2 : Int32} {a3 : Int32} (hF : Stab F) (E : CallFix p m c cX6_sheet 5 s args TB RX6) (hr : meth.sig.returnType = some .int) (hlk : meth.locks = false) (hf : wX6_sheet_j45 a1 a2 a3 σ Q) (hI : In (D, tysM cy, F) (LM ad cy Rr σ) A s H locs) (hl : lv_has ls 5 [(0, .ref (ad 16 99)), (1, .int a1), (2, .int a2), (3, .int a3)]) : W p l e (rmD 2) s m args below meth c H locs 0 0 (PI below args s (D, tysM cy, F) A (LM ad cy Rr) Q) (F0 m 45 ls []) := by
  have hx := E.1
  have hb := E.2.1
  unfold wX6_sheet_j45 at hf
  refine lv_aload_n (pc := 45) hx hb dX6_sheet_45 rfl (lv_at hl 0 rfl) ?_
  refine g6_39 (pc := 46) E hI lkX6_53 dX6_sheet_46 ?_
  refine lv_iload_n (pc := 49) hx hb dX6_sheet_49 rfl (lv_at hl 1 rfl) ?_
  refine lv_iload_n (pc := 50) hx hb dX6_sheet_50 rfl (lv_at hl 2 rfl) ?_
  refine lv_if_lt (tgt := 58) (pc := 51) hx hb dX6_sheet_51 (by decide) (fun c9 => ?_) (fun c9 => ?_)
  · have hf := hf.1 c9
    refine lv_iconst (v := 0) (pc := 58) hx hb dX6_sheet_58 rfl ?_
    exact bX6_sheet_59 hF E hr hlk hf hI (lv_sub hl [0, 1, 2, 3] rfl)
  · have hf := hf.2 c9
    refine lv_iconst (v := 1) (pc := 54) hx hb dX6_sheet_54 rfl ?_
    refine lv_goto (tgt := 59) (pc := 55) hx hb dX6_sheet_55 (by decide) ?_
    exact bX6_sheet_59 hF E hr hlk hf hI (lv_sub hl [0, 1, 2, 3] rfl)
def wX6_sheet_j34 (a1 : Int32) (a2 : Int32) (a3 : Int32) (σ : St) (Q : Int32 → St → Prop) : Prop := ((a2 < 0 → (wX6_sheet_j45 a1 a2 a3 σ Q)) ∧ (¬ a2 < 0 → ((0 ≤ a3 → (wX6_sheet_j45 a1 a2 a3 σ Q)) ∧ (¬ 0 ≤ a3 → Q (-14) σ))))
set_option maxRecDepth 100000 in
set_option maxHeartbeats 4000000 in
theorem bX6_sheet_34 {p : Program} {l : Launch} {e : Env} {s : State} {m : MethodId} {args : Array Value} {below : List Frame} {meth : Method} {c : Code} {H : Heap} {locs : List Loc} {ls : Array Slot} {D : va_G} {F : (Nat → Prop) → State → Prop} {A : Nat → Prop} {σ : St} {ad : Nat → Nat → Nat} {cy : Nat → ClassId} {Rr : va_W} {Q : Int32 → St → Prop} {a1 : Int32} {a2 : Int32} {a3 : Int32} (hF : Stab F) (E : CallFix p m c cX6_sheet 5 s args TB RX6) (hr : meth.sig.returnType = some .int) (hlk : meth.locks = false) (hf : wX6_sheet_j34 a1 a2 a3 σ Q) (hI : In (D, tysM cy, F) (LM ad cy Rr σ) A s H locs) (hl : lv_has ls 5 [(0, .ref (ad 16 99)), (1, .int a1), (2, .int a2), (3, .int a3)]) : W p l e (rmD 2) s m args below meth c H locs 0 0 (PI below args s (D, tysM cy, F) A (LM ad cy Rr) Q) (F0 m 34 ls []) := by
  have hx := E.1
  have hb := E.2.1
  unfold wX6_sheet_j34 at hf
  refine lv_iload_n (pc := 34) hx hb dX6_sheet_34 rfl (lv_at hl 2 rfl) ?_
  refine lv_if_lt (tgt := 45) (pc := 35) hx hb dX6_sheet_35 (by decide) (fun c8 => ?_) (fun c8 => ?_)
  · have hf := hf.1 c8
    exact bX6_sheet_45 hF E hr hlk hf hI (lv_sub hl [0, 1, 2, 3] rfl)
  · have hf := hf.2 c8
    refine lv_iload_n (pc := 38) hx hb dX6_sheet_38 rfl (lv_at hl 3 rfl) ?_
    refine lv_if_ge (tgt := 45) (pc := 39) hx hb dX6_sheet_39 (by decide) (fun c23 => ?_) (fun c23 => ?_)
    · have hf := hf.1 c23
      exact bX6_sheet_45 hF E hr hlk hf hI (lv_sub hl [0, 1, 2, 3] rfl)
    · have hf := hf.2 c23
      refine lv_bipush (v := (-14)) (pc := 42) hx hb dX6_sheet_42 rfl ?_
      exact rI (pc := 44) E hr hlk hI hf dX6_sheet_44
def wX6_sheet (p1 : Int32) (p2 : Int32) (p3 : Int32) (σ : St) (Q : Int32 → St → Prop) : Prop := wX6_isSheet p1 σ (fun r2 σ1 => ((r2 = 0 → Q (-2) σ1) ∧ (¬ r2 = 0 → wX6_in (p2.toInt64) (-1) 2 σ1 (fun r5 σ4 => ((r5 = 0 → Q (-2) σ4) ∧ (¬ r5 = 0 → ((p2 < 0 → (wX6_sheet_j34 p1 p2 p3 σ4 Q)) ∧ (¬ p2 < 0 → ((p3 ≤ 40 → (wX6_sheet_j34 p1 p2 p3 σ4 Q)) ∧ (¬ p3 ≤ 40 → Q (-2) σ4))))))))))
set_option maxRecDepth 100000 in
set_option maxHeartbeats 4000000 in
theorem bX6_sheet {p : Program} {l : Launch} {e : Env} {s : State} {m : MethodId} {args : Array Value} {below : List Frame} {meth : Method} {c : Code} {H : Heap} {locs : List Loc} {ls : Array Slot} {D : va_G} {F : (Nat → Prop) → State → Prop} {A : Nat → Prop} {σ : St} {ad : Nat → Nat → Nat} {cy : Nat → ClassId} {Rr : va_W} {Q : Int32 → St → Prop} {p1 : Int32} {p2 : Int32} {p3 : Int32} (hF : Stab F) (E : CallFix p m c cX6_sheet 5 s args TB RX6) (hr : meth.sig.returnType = some .int) (hlk : meth.locks = false) (hf : wX6_sheet p1 p2 p3 σ Q) (hI : In (D, tysM cy, F) (LM ad cy Rr σ) A s H locs) (hl : lv_has ls 5 [(0, .ref (ad 16 99)), (1, .int p1), (2, .int p2), (3, .int p3)]) : W p l e (rmD 2) s m args below meth c H locs 0 0 (PI below args s (D, tysM cy, F) A (LM ad cy Rr) Q) (F0 m 0 ls []) := by
  have hx := E.1
  have hb := E.2.1
  unfold wX6_sheet at hf
  refine lv_iload_n (pc := 0) hx hb dX6_sheet_0 rfl (lv_at hl 1 rfl) ?_
  refine callSI (G := (D, tysM cy, F)) (L := LM ad cy Rr) (pc := 1) (As := [.int p1]) (rest := []) hF E cs0 hl hI (tX6_isSheet hF hf) mwX6_408 (fitD (by decide)) rfl rfl (Nat.le_of_ble_eq_true rfl) dX6_sheet_1 (fun r2 σ1 H locs hf hI => ?_)
  refine lv_if_eq (tgt := 31) (pc := 4) hx hb dX6_sheet_4 (by decide) (fun c3 => ?_) (fun c3 => ?_)
  · have hf := hf.1 c3
    refine lv_bipush (v := (-2)) (pc := 31) hx hb dX6_sheet_31 rfl ?_
    exact rI (pc := 33) E hr hlk hI hf dX6_sheet_33
  · have hf := hf.2 c3
    refine lv_iload_n (pc := 7) hx hb dX6_sheet_7 rfl (lv_at hl 2 rfl) ?_
    refine lv_i2l (v := (p2.toInt64)) (pc := 8) hx hb dX6_sheet_8 rfl ?_
    refine lv_ldc2 (pc := 9) E.1 E.2.1 E.2.2.2.1 (E.2.2.2.2 _ kcX6_113) dX6_sheet_9 ?_
    refine lv_ldc2 (pc := 12) E.1 E.2.1 E.2.2.2.1 (E.2.2.2.2 _ kcX6_434) dX6_sheet_12 ?_
    refine callSI (G := (D, tysM cy, F)) (L := LM ad cy Rr) (pc := 15) (As := [.long (p2.toInt64), .long (-1), .long 2]) (rest := []) hF E cs0 hl hI (tX6_in hF hf) mwX6_76 (fitD (by decide)) rfl rfl (Nat.le_of_ble_eq_true rfl) dX6_sheet_15 (fun r5 σ4 H locs hf hI => ?_)
    refine lv_if_eq (tgt := 31) (pc := 18) hx hb dX6_sheet_18 (by decide) (fun c6 => ?_) (fun c6 => ?_)
    · have hf := hf.1 c6
      refine lv_bipush (v := (-2)) (pc := 31) hx hb dX6_sheet_31 rfl ?_
      exact rI (pc := 33) E hr hlk hI hf dX6_sheet_33
    · have hf := hf.2 c6
      refine lv_iload_n (pc := 21) hx hb dX6_sheet_21 rfl (lv_at hl 2 rfl) ?_
      refine lv_if_lt (tgt := 34) (pc := 22) hx hb dX6_sheet_22 (by decide) (fun c7 => ?_) (fun c7 => ?_)
      · have hf := hf.1 c7
        exact bX6_sheet_34 hF E hr hlk hf hI (lv_sub hl [0, 1, 2, 3] rfl)
      · have hf := hf.2 c7
        refine lv_iload_n (pc := 25) hx hb dX6_sheet_25 rfl (lv_at hl 3 rfl) ?_
        refine lv_bipush (v := 40) (pc := 26) hx hb dX6_sheet_26 rfl ?_
        refine lv_icmp_le (tgt := 34) (pc := 28) hx hb dX6_sheet_28 (by decide) (fun c24 => ?_) (fun c24 => ?_)
        · have hf := hf.1 c24
          exact bX6_sheet_34 hF E hr hlk hf hI (lv_sub hl [0, 1, 2, 3] rfl)
        · have hf := hf.2 c24
          refine lv_bipush (v := (-2)) (pc := 31) hx hb dX6_sheet_31 rfl ?_
          exact rI (pc := 33) E hr hlk hI hf dX6_sheet_33
theorem tX6_sheet {l : Launch} {D : va_G} {F : (Nat → Prop) → State → Prop} {σ : St} {ad : Nat → Nat → Nat} {cy : Nat → ClassId} {Rr : va_W} {Q : Int32 → St → Prop} {p1 : Int32} {p2 : Int32} {p3 : Int32} (hF : Stab F) (hf : wX6_sheet p1 p2 p3 σ Q) : CtI l yX6_sheet cX6_sheet 5 .int 2 (D, tysM cy, F) (LM ad cy Rr) [.ref (ad 16 99), .int p1, .int p2, .int p3] σ Q := mkI (by decide) (Nat.le_of_ble_eq_true rfl) (fun p e s m below meth c A E hr hlk hI ls hl => bX6_sheet hF E hr hlk hf hI hl)

def wX6_cell_j83 (s1 : Int32) (s2 : Int32) (σ : St) (Q : Int32 → St → Prop) : Prop := vp_in s1 160 ∧ ∀ σ15 : St, σ15 = sA σ 16 42 s1.toNatClampNeg s2 → Q 1 σ15
set_option maxRecDepth 100000 in
set_option maxHeartbeats 4000000 in
theorem bX6_cell_83 {p : Program} {l : Launch} {e : Env} {s : State} {m : MethodId} {args : Array Value} {below : List Frame} {meth : Method} {c : Code} {H : Heap} {locs : List Loc} {ls : Array Slot} {D : va_G} {F : (Nat → Prop) → State → Prop} {A : Nat → Prop} {σ : St} {ad : Nat → Nat → Nat} {cy : Nat → ClassId} {Rr : va_W} {Q : Int32 → St → Prop} {s1 : Int32} {s2 : Int32} (hF : Stab F) (E : CallFix p m c cX6_cell 4 s args TB RX6) (hr : meth.sig.returnType = some .int) (hlk : meth.locks = false) (hf : wX6_cell_j83 s1 s2 σ Q) (hI : In (D, tysM cy, F) (LM ad cy Rr σ) A s H locs) (hl : lv_has ls 4 []) : W p l e (rmD 2) s m args below meth c H locs 0 0 (PI below args s (D, tysM cy, F) A (LM ad cy Rr) Q) (F0 m 83 ls [.int s2, .int s1, .ref (ad 16 42)]) := by
  have hx := E.1
  have hb := E.2.1
  unfold wX6_cell_j83 at hf
  have g14 := hf.1
  have hf := hf.2
  refine s6_42 (pc := 83) E hI g14 dX6_cell_83 (fun H locs σ15 eσ15 hI => ?_)
  have hf := hf σ15 eσ15
  refine lv_iconst (v := 1) (pc := 84) hx hb dX6_cell_84 rfl ?_
  exact rI (pc := 85) E hr hlk hI hf dX6_cell_85
def wX6_cell (p1 : Int32) (p2 : Int32) (p3 : Int32) (σ : St) (Q : Int32 → St → Prop) : Prop := wX6_isSheet p1 σ (fun r2 σ1 => ((¬ r2 = 0 → vp_in p1 4 ∧ ((¬ (gA σ1 16 39 p1.toNatClampNeg) = 0 → vp_in p1 4 ∧ wX6_in (p2.toInt64) 0 ((((gA σ1 16 41 p1.toNatClampNeg) - 1)).toInt64) σ1 (fun r8 σ7 => ((¬ r8 = 0 → vp_in p1 4 ∧ ((¬ (gA σ7 16 40 p1.toNatClampNeg) = 0 → vp_in p1 4 ∧ ((¬ (gA σ7 16 40 p1.toNatClampNeg) = 1 → (wX6_cell_j83 ((40 * p1) + p2) p3 σ7 Q)) ∧ ((gA σ7 16 40 p1.toNatClampNeg) = 1 → (wX6_cell_j83 ((40 * p1) + p2) ((p3).toInt16.toInt32) σ7 Q)))) ∧ ((gA σ7 16 40 p1.toNatClampNeg) = 0 → (wX6_cell_j83 ((40 * p1) + p2) ((p3).toInt8.toInt32) σ7 Q)))) ∧ (r8 = 0 → Q (-12) σ7)))) ∧ ((gA σ1 16 39 p1.toNatClampNeg) = 0 → Q (-11) σ1))) ∧ (r2 = 0 → Q (-2) σ1)))
set_option maxRecDepth 100000 in
set_option maxHeartbeats 4000000 in
theorem bX6_cell {p : Program} {l : Launch} {e : Env} {s : State} {m : MethodId} {args : Array Value} {below : List Frame} {meth : Method} {c : Code} {H : Heap} {locs : List Loc} {ls : Array Slot} {D : va_G} {F : (Nat → Prop) → State → Prop} {A : Nat → Prop} {σ : St} {ad : Nat → Nat → Nat} {cy : Nat → ClassId} {Rr : va_W} {Q : Int32 → St → Prop} {p1 : Int32} {p2 : Int32} {p3 : Int32} (hF : Stab F) (E : CallFix p m c cX6_cell 4 s args TB RX6) (hr : meth.sig.returnType = some .int) (hlk : meth.locks = false) (hf : wX6_cell p1 p2 p3 σ Q) (hI : In (D, tysM cy, F) (LM ad cy Rr σ) A s H locs) (hl : lv_has ls 4 [(0, .ref (ad 16 99)), (1, .int p1), (2, .int p2), (3, .int p3)]) : W p l e (rmD 2) s m args below meth c H locs 0 0 (PI below args s (D, tysM cy, F) A (LM ad cy Rr) Q) (F0 m 0 ls []) := by
  have hx := E.1
  have hb := E.2.1
  unfold wX6_cell at hf
  refine lv_iload_n (pc := 0) hx hb dX6_cell_0 rfl (lv_at hl 1 rfl) ?_
  refine callSI (G := (D, tysM cy, F)) (L := LM ad cy Rr) (pc := 1) (As := [.int p1]) (rest := []) hF E cs0 hl hI (tX6_isSheet hF hf) mwX6_408 (fitD (by decide)) rfl rfl (Nat.le_of_ble_eq_true rfl) dX6_cell_1 (fun r2 σ1 H locs hf hI => ?_)
  refine lv_if_ne (tgt := 10) (pc := 4) hx hb dX6_cell_4 (by decide) (fun c3 => ?_) (fun c3 => ?_)
  · have hf := hf.1 c3
    refine lv_aload_n (pc := 10) hx hb dX6_cell_10 rfl (lv_at hl 0 rfl) ?_
    refine g6_39 (pc := 11) E hI lkX6_53 dX6_cell_11 ?_
    refine lv_iload_n (pc := 14) hx hb dX6_cell_14 rfl (lv_at hl 1 rfl) ?_
    have g4 := hf.1
    have hf := hf.2
    refine a6_39 (pc := 15) E hI g4 dX6_cell_15 ?_
    refine lv_if_ne (tgt := 22) (pc := 16) hx hb dX6_cell_16 (by decide) (fun c5 => ?_) (fun c5 => ?_)
    · have hf := hf.1 c5
      refine lv_iload_n (pc := 22) hx hb dX6_cell_22 rfl (lv_at hl 2 rfl) ?_
      refine lv_i2l (v := (p2.toInt64)) (pc := 23) hx hb dX6_cell_23 rfl ?_
      refine lv_lconst (v := 0) (pc := 24) hx hb dX6_cell_24 rfl ?_
      refine lv_aload_n (pc := 25) hx hb dX6_cell_25 rfl (lv_at hl 0 rfl) ?_
      refine g6_41 (pc := 26) E hI lkX6_60 dX6_cell_26 ?_
      refine lv_iload_n (pc := 29) hx hb dX6_cell_29 rfl (lv_at hl 1 rfl) ?_
      have g6 := hf.1
      have hf := hf.2
      refine a6_41 (pc := 30) E hI g6 dX6_cell_30 ?_
      refine lv_iconst (v := 1) (pc := 31) hx hb dX6_cell_31 rfl ?_
      refine lv_isub (pc := 32) hx hb dX6_cell_32 ?_
      refine lv_i2l (v := ((((gA σ1 16 41 p1.toNatClampNeg) - 1)).toInt64)) (pc := 33) hx hb dX6_cell_33 rfl ?_
      refine callSI (G := (D, tysM cy, F)) (L := LM ad cy Rr) (pc := 34) (As := [.long (p2.toInt64), .long 0, .long ((((gA σ1 16 41 p1.toNatClampNeg) - 1)).toInt64)]) (rest := []) hF E cs0 hl hI (tX6_in hF hf) mwX6_76 (fitD (by decide)) rfl rfl (Nat.le_of_ble_eq_true rfl) dX6_cell_34 (fun r8 σ7 H locs hf hI => ?_)
      refine lv_if_ne (tgt := 43) (pc := 37) hx hb dX6_cell_37 (by decide) (fun c9 => ?_) (fun c9 => ?_)
      · have hf := hf.1 c9
        refine lv_aload_n (pc := 43) hx hb dX6_cell_43 rfl (lv_at hl 0 rfl) ?_
        refine g6_42 (pc := 44) E hI lkX6_63 dX6_cell_44 ?_
        refine lv_bipush (v := 40) (pc := 47) hx hb dX6_cell_47 rfl ?_
        refine lv_iload_n (pc := 49) hx hb dX6_cell_49 rfl (lv_at hl 1 rfl) ?_
        refine lv_imul (pc := 50) hx hb dX6_cell_50 ?_
        refine lv_iload_n (pc := 51) hx hb dX6_cell_51 rfl (lv_at hl 2 rfl) ?_
        refine lv_iadd (pc := 52) hx hb dX6_cell_52 ?_
        refine lv_aload_n (pc := 53) hx hb dX6_cell_53 rfl (lv_at hl 0 rfl) ?_
        refine g6_40 (pc := 54) E hI lkX6_57 dX6_cell_54 ?_
        refine lv_iload_n (pc := 57) hx hb dX6_cell_57 rfl (lv_at hl 1 rfl) ?_
        have g10 := hf.1
        have hf := hf.2
        refine a6_40 (pc := 58) E hI g10 dX6_cell_58 ?_
        refine lv_if_ne (tgt := 67) (pc := 59) hx hb dX6_cell_59 (by decide) (fun c11 => ?_) (fun c11 => ?_)
        · have hf := hf.1 c11
          refine lv_aload_n (pc := 67) hx hb dX6_cell_67 rfl (lv_at hl 0 rfl) ?_
          refine g6_40 (pc := 68) E hI lkX6_57 dX6_cell_68 ?_
          refine lv_iload_n (pc := 71) hx hb dX6_cell_71 rfl (lv_at hl 1 rfl) ?_
          have g12 := hf.1
          have hf := hf.2
          refine a6_40 (pc := 72) E hI g12 dX6_cell_72 ?_
          refine lv_iconst (v := 1) (pc := 73) hx hb dX6_cell_73 rfl ?_
          refine lv_icmp_ne (tgt := 82) (pc := 74) hx hb dX6_cell_74 (by decide) (fun c13 => ?_) (fun c13 => ?_)
          · have hf := hf.1 c13
            refine lv_iload_n (pc := 82) hx hb dX6_cell_82 rfl (lv_at hl 3 rfl) ?_
            exact bX6_cell_83 hF E hr hlk hf hI (lv_sub hl [] rfl)
          · have hf := hf.2 c13
            refine lv_iload_n (pc := 77) hx hb dX6_cell_77 rfl (lv_at hl 3 rfl) ?_
            refine lv_i2s (v := ((p3).toInt16.toInt32)) (pc := 78) hx hb dX6_cell_78 rfl ?_
            refine lv_goto (tgt := 83) (pc := 79) hx hb dX6_cell_79 (by decide) ?_
            exact bX6_cell_83 hF E hr hlk hf hI (lv_sub hl [] rfl)
        · have hf := hf.2 c11
          refine lv_iload_n (pc := 62) hx hb dX6_cell_62 rfl (lv_at hl 3 rfl) ?_
          refine lv_i2b (v := ((p3).toInt8.toInt32)) (pc := 63) hx hb dX6_cell_63 rfl ?_
          refine lv_goto (tgt := 83) (pc := 64) hx hb dX6_cell_64 (by decide) ?_
          exact bX6_cell_83 hF E hr hlk hf hI (lv_sub hl [] rfl)
      · have hf := hf.2 c9
        refine lv_bipush (v := (-12)) (pc := 40) hx hb dX6_cell_40 rfl ?_
        exact rI (pc := 42) E hr hlk hI hf dX6_cell_42
    · have hf := hf.2 c5
      refine lv_bipush (v := (-11)) (pc := 19) hx hb dX6_cell_19 rfl ?_
      exact rI (pc := 21) E hr hlk hI hf dX6_cell_21
  · have hf := hf.2 c3
    refine lv_bipush (v := (-2)) (pc := 7) hx hb dX6_cell_7 rfl ?_
    exact rI (pc := 9) E hr hlk hI hf dX6_cell_9
theorem tX6_cell {l : Launch} {D : va_G} {F : (Nat → Prop) → State → Prop} {σ : St} {ad : Nat → Nat → Nat} {cy : Nat → ClassId} {Rr : va_W} {Q : Int32 → St → Prop} {p1 : Int32} {p2 : Int32} {p3 : Int32} (hF : Stab F) (hf : wX6_cell p1 p2 p3 σ Q) : CtI l yX6_cell cX6_cell 4 .int 2 (D, tysM cy, F) (LM ad cy Rr) [.ref (ad 16 99), .int p1, .int p2, .int p3] σ Q := mkI (by decide) (Nat.le_of_ble_eq_true rfl) (fun p e s m below meth c A E hr hlk hI ls hl => bX6_cell hF E hr hlk hf hI hl)

def wX6_copy_j145 (a1 : Int32) (a2 : Int32) (a3 : Int32) (a4 : Int32) (a5 : Int32) (a6 : Int32) (a7 : Int32) (s0 : Int32) (σ : St) (K : Int32 → Int32 → Int32 → Int32 → Int32 → Int32 → Int32 → St → Prop) (Q : Int32 → St → Prop) : Prop := vp_in (((40 * a1) + a2) + s0) 160 ∧ vp_in (((40 * a3) + a4) + s0) 160 ∧ ∀ σ26 : St, σ26 = sA σ 16 42 (((40 * a3) + a4) + s0).toNatClampNeg (gA σ 16 42 (((40 * a1) + a2) + s0).toNatClampNeg) → ∀ x27 : Int32, x27 = a7 + 1 → (K a1 a2 a3 a4 a5 a6 x27 σ26)
set_option maxRecDepth 100000 in
set_option maxHeartbeats 4000000 in
theorem bX6_copy_145 {p : Program} {l : Launch} {e : Env} {s : State} {m : MethodId} {args : Array Value} {below : List Frame} {meth : Method} {c : Code} {H : Heap} {locs : List Loc} {ls : Array Slot} {D : va_G} {F : (Nat → Prop) → State → Prop} {A : Nat → Prop} {σ : St} {ad : Nat → Nat → Nat} {cy : Nat → ClassId} {Rr : va_W} {Q : Int32 → St → Prop} {a1 : Int32} {a2 : Int32} {a3 : Int32} {a4 : Int32} {a5 : Int32} {a6 : Int32} {a7 : Int32} {s0 : Int32} {K : Int32 → Int32 → Int32 → Int32 → Int32 → Int32 → Int32 → St → Prop} (hF : Stab F) (E : CallFix p m c cX6_copy 9 s args TB RX6) (hr : meth.sig.returnType = some .int) (hlk : meth.locks = false) (hK : ∀ (a1 : Int32) (a2 : Int32) (a3 : Int32) (a4 : Int32) (a5 : Int32) (a6 : Int32) (a7 : Int32) (σ : St) (H : Heap) (locs : List Loc) (ls : Array Slot), K a1 a2 a3 a4 a5 a6 a7 σ → In (D, tysM cy, F) (LM ad cy Rr σ) A s H locs → lv_has ls 9 [(0, .ref (ad 16 99)), (1, .int a1), (2, .int a2), (3, .int a3), (4, .int a4), (5, .int a5), (6, .int a6), (7, .int a7)] → W p l e (rmD 2) s m args below meth c H locs 0 0 (PI below args s (D, tysM cy, F) A (LM ad cy Rr) Q) (F0 m 121 ls [])) (hf : wX6_copy_j145 a1 a2 a3 a4 a5 a6 a7 s0 σ K Q) (hI : In (D, tysM cy, F) (LM ad cy Rr σ) A s H locs) (hl : lv_has ls 9 [(0, .ref (ad 16 99)), (1, .int a1), (2, .int a2), (3, .int a3), (4, .int a4), (5, .int a5), (6, .int a6), (7, .int a7)]) : W p l e (rmD 2) s m args below meth c H locs 0 0 (PI below args s (D, tysM cy, F) A (LM ad cy Rr) Q) (F0 m 145 ls [.int s0]) := by
  have hx := E.1
  have hb := E.2.1
  unfold wX6_copy_j145 at hf
  refine lv_istore (lv' := [(8, .int s0), (0, .ref (ad 16 99)), (1, .int a1), (2, .int a2), (3, .int a3), (4, .int a4), (5, .int a5), (6, .int a6), (7, .int a7)]) (pc := 145) hx hb dX6_copy_145 hl (by decide) rfl (fun ls hl => ?_)
  refine lv_aload_n (pc := 147) hx hb dX6_copy_147 rfl (lv_at hl 1 rfl) ?_
  refine g6_42 (pc := 148) E hI lkX6_63 dX6_copy_148 ?_
  refine lv_bipush (v := 40) (pc := 151) hx hb dX6_copy_151 rfl ?_
  refine lv_iload_n (pc := 153) hx hb dX6_copy_153 rfl (lv_at hl 4 rfl) ?_
  refine lv_imul (pc := 154) hx hb dX6_copy_154 ?_
  refine lv_iload (pc := 155) hx hb dX6_copy_155 (lv_at hl 5 rfl) ?_
  refine lv_iadd (pc := 157) hx hb dX6_copy_157 ?_
  refine lv_iload (pc := 158) hx hb dX6_copy_158 (lv_at hl 0 rfl) ?_
  refine lv_iadd (pc := 160) hx hb dX6_copy_160 ?_
  refine lv_aload_n (pc := 161) hx hb dX6_copy_161 rfl (lv_at hl 1 rfl) ?_
  refine g6_42 (pc := 162) E hI lkX6_63 dX6_copy_162 ?_
  refine lv_bipush (v := 40) (pc := 165) hx hb dX6_copy_165 rfl ?_
  refine lv_iload_n (pc := 167) hx hb dX6_copy_167 rfl (lv_at hl 2 rfl) ?_
  refine lv_imul (pc := 168) hx hb dX6_copy_168 ?_
  refine lv_iload_n (pc := 169) hx hb dX6_copy_169 rfl (lv_at hl 3 rfl) ?_
  refine lv_iadd (pc := 170) hx hb dX6_copy_170 ?_
  refine lv_iload (pc := 171) hx hb dX6_copy_171 (lv_at hl 0 rfl) ?_
  refine lv_iadd (pc := 173) hx hb dX6_copy_173 ?_
  have g24 := hf.1
  have hf := hf.2
  refine a6_42 (pc := 174) E hI g24 dX6_copy_174 ?_
  have g25 := hf.1
  have hf := hf.2
  refine s6_42 (pc := 175) E hI g25 dX6_copy_175 (fun H locs σ26 eσ26 hI => ?_)
  have hf := hf σ26 eσ26
  obtain ⟨x27, ex27⟩ : ∃ y : Int32, y = a7 + 1 := ⟨_, rfl⟩
  have hf := hf x27 ex27
  refine lv_iinc (v := x27) (lv' := [(7, .int x27), (8, .int s0), (0, .ref (ad 16 99)), (1, .int a1), (2, .int a2), (3, .int a3), (4, .int a4), (5, .int a5), (6, .int a6)]) (pc := 176) hx hb dX6_copy_176 hl (k := 8) rfl (by rw [ex27]; rfl) (by decide) rfl (fun ls hl => ?_)
  refine lv_goto (tgt := 121) (pc := 179) hx hb dX6_copy_179 (by decide) ?_
  exact hK _ _ _ _ _ _ _ _ _ _ _ hf hI (lv_sub hl [2, 3, 4, 5, 6, 7, 8, 0] rfl)
def wX6_copy_l121s (ih : Int32 → Int32 → Int32 → Int32 → Int32 → Int32 → Int32 → St → Prop) (a1 : Int32) (a2 : Int32) (a3 : Int32) (a4 : Int32) (a5 : Int32) (a6 : Int32) (a7 : Int32) (σ : St) (Q : Int32 → St → Prop) : Prop := ((a5 ≤ a7 → Q a5 σ) ∧ (¬ a5 ≤ a7 → ((a6 = 0 → (wX6_copy_j145 a1 a2 a3 a4 a5 a6 a7 a7 σ ih Q)) ∧ (¬ a6 = 0 → (wX6_copy_j145 a1 a2 a3 a4 a5 a6 a7 ((a5 - 1) - a7) σ ih Q)))))
def wX6_copy_l121 (n : Nat) : Int32 → Int32 → Int32 → Int32 → Int32 → Int32 → Int32 → St → (Int32 → St → Prop) → Prop := @Nat.rec (fun _ => Int32 → Int32 → Int32 → Int32 → Int32 → Int32 → Int32 → St → (Int32 → St → Prop) → Prop) (fun _ _ _ _ _ _ _ _ _ => False) (fun _ ih a1 a2 a3 a4 a5 a6 a7 σ Q => wX6_copy_l121s (fun a1 a2 a3 a4 a5 a6 a7 σ => ih a1 a2 a3 a4 a5 a6 a7 σ Q) a1 a2 a3 a4 a5 a6 a7 σ Q) n
set_option maxRecDepth 100000 in
set_option maxHeartbeats 4000000 in
theorem bX6_copy_121 {p : Program} {l : Launch} {e : Env} {s : State} {m : MethodId} {args : Array Value} {below : List Frame} {meth : Method} {c : Code} {D : va_G} {F : (Nat → Prop) → State → Prop} {A : Nat → Prop} {ad : Nat → Nat → Nat} {cy : Nat → ClassId} {Rr : va_W} {Q : Int32 → St → Prop} (hF : Stab F) (E : CallFix p m c cX6_copy 9 s args TB RX6) (hr : meth.sig.returnType = some .int) (hlk : meth.locks = false) : ∀ (n : Nat) {a1 : Int32} {a2 : Int32} {a3 : Int32} {a4 : Int32} {a5 : Int32} {a6 : Int32} {a7 : Int32} {σ : St} {H : Heap} {locs : List Loc} {ls : Array Slot}, wX6_copy_l121 n a1 a2 a3 a4 a5 a6 a7 σ Q → In (D, tysM cy, F) (LM ad cy Rr σ) A s H locs → lv_has ls 9 [(0, .ref (ad 16 99)), (1, .int a1), (2, .int a2), (3, .int a3), (4, .int a4), (5, .int a5), (6, .int a6), (7, .int a7)] → W p l e (rmD 2) s m args below meth c H locs 0 0 (PI below args s (D, tysM cy, F) A (LM ad cy Rr) Q) (F0 m 121 ls []) := by
  have hx := E.1
  have hb := E.2.1
  intro n
  induction n with
  | zero => intro a1 a2 a3 a4 a5 a6 a7 σ H locs ls hf hI hl; exact False.elim hf
  | succ n ih =>
    intro a1 a2 a3 a4 a5 a6 a7 σ H locs ls hf hI hl
    have hf : wX6_copy_l121s (fun a1 a2 a3 a4 a5 a6 a7 σ => wX6_copy_l121 n a1 a2 a3 a4 a5 a6 a7 σ Q) a1 a2 a3 a4 a5 a6 a7 σ Q := hf
    unfold wX6_copy_l121s at hf
    refine lv_iload (pc := 121) hx hb dX6_copy_121 (lv_at hl 7 rfl) ?_
    refine lv_iload (pc := 123) hx hb dX6_copy_123 (lv_at hl 5 rfl) ?_
    refine lv_icmp_ge (tgt := 182) (pc := 125) hx hb dX6_copy_125 (by decide) (fun c22 => ?_) (fun c22 => ?_)
    · have hf := hf.1 c22
      refine lv_iload (pc := 182) hx hb dX6_copy_182 (lv_at hl 5 rfl) ?_
      exact rI (pc := 184) E hr hlk hI hf dX6_copy_184
    · have hf := hf.2 c22
      refine lv_iload (pc := 128) hx hb dX6_copy_128 (lv_at hl 6 rfl) ?_
      refine lv_if_eq (tgt := 143) (pc := 130) hx hb dX6_copy_130 (by decide) (fun c23 => ?_) (fun c23 => ?_)
      · have hf := hf.1 c23
        refine lv_iload (pc := 143) hx hb dX6_copy_143 (lv_at hl 7 rfl) ?_
        exact bX6_copy_145 hF E hr hlk (fun _ _ _ _ _ _ _ _ _ _ _ hf hI hl => ih hf hI hl) hf hI (lv_sub hl [0, 1, 2, 3, 4, 5, 6, 7] rfl)
      · have hf := hf.2 c23
        refine lv_iload (pc := 133) hx hb dX6_copy_133 (lv_at hl 5 rfl) ?_
        refine lv_iconst (v := 1) (pc := 135) hx hb dX6_copy_135 rfl ?_
        refine lv_isub (pc := 136) hx hb dX6_copy_136 ?_
        refine lv_iload (pc := 137) hx hb dX6_copy_137 (lv_at hl 7 rfl) ?_
        refine lv_isub (pc := 139) hx hb dX6_copy_139 ?_
        refine lv_goto (tgt := 145) (pc := 140) hx hb dX6_copy_140 (by decide) ?_
        exact bX6_copy_145 hF E hr hlk (fun _ _ _ _ _ _ _ _ _ _ _ hf hI hl => ih hf hI hl) hf hI (lv_sub hl [0, 1, 2, 3, 4, 5, 6, 7] rfl)
def wX6_copy_j116 (a1 : Int32) (a2 : Int32) (a3 : Int32) (a4 : Int32) (a5 : Int32) (s0 : Int32) (σ : St) (Q : Int32 → St → Prop) : Prop := ∃ n28 : Nat, wX6_copy_l121 n28 a1 a2 a3 a4 a5 s0 0 σ Q
set_option maxRecDepth 100000 in
set_option maxHeartbeats 4000000 in
theorem bX6_copy_116 {p : Program} {l : Launch} {e : Env} {s : State} {m : MethodId} {args : Array Value} {below : List Frame} {meth : Method} {c : Code} {H : Heap} {locs : List Loc} {ls : Array Slot} {D : va_G} {F : (Nat → Prop) → State → Prop} {A : Nat → Prop} {σ : St} {ad : Nat → Nat → Nat} {cy : Nat → ClassId} {Rr : va_W} {Q : Int32 → St → Prop} {a1 : Int32} {a2 : Int32} {a3 : Int32} {a4 : Int32} {a5 : Int32} {s0 : Int32} (hF : Stab F) (E : CallFix p m c cX6_copy 9 s args TB RX6) (hr : meth.sig.returnType = some .int) (hlk : meth.locks = false) (hf : wX6_copy_j116 a1 a2 a3 a4 a5 s0 σ Q) (hI : In (D, tysM cy, F) (LM ad cy Rr σ) A s H locs) (hl : lv_has ls 9 [(0, .ref (ad 16 99)), (1, .int a1), (2, .int a2), (3, .int a3), (4, .int a4), (5, .int a5)]) : W p l e (rmD 2) s m args below meth c H locs 0 0 (PI below args s (D, tysM cy, F) A (LM ad cy Rr) Q) (F0 m 116 ls [.int s0]) := by
  have hx := E.1
  have hb := E.2.1
  unfold wX6_copy_j116 at hf
  refine lv_istore (lv' := [(6, .int s0), (0, .ref (ad 16 99)), (1, .int a1), (2, .int a2), (3, .int a3), (4, .int a4), (5, .int a5)]) (pc := 116) hx hb dX6_copy_116 hl (by decide) rfl (fun ls hl => ?_)
  refine lv_iconst (v := 0) (pc := 118) hx hb dX6_copy_118 rfl ?_
  refine lv_istore (lv' := [(7, .int 0), (6, .int s0), (0, .ref (ad 16 99)), (1, .int a1), (2, .int a2), (3, .int a3), (4, .int a4), (5, .int a5)]) (pc := 119) hx hb dX6_copy_119 hl (by decide) rfl (fun ls hl => ?_)
  obtain ⟨n28, hf⟩ := hf
  exact bX6_copy_121 hF E hr hlk n28 hf hI (lv_sub hl [2, 3, 4, 5, 6, 7, 1, 0] rfl)
def wX6_copy_j115 (a1 : Int32) (a2 : Int32) (a3 : Int32) (a4 : Int32) (a5 : Int32) (σ : St) (Q : Int32 → St → Prop) : Prop := (wX6_copy_j116 a1 a2 a3 a4 a5 0 σ Q)
set_option maxRecDepth 100000 in
set_option maxHeartbeats 4000000 in
theorem bX6_copy_115 {p : Program} {l : Launch} {e : Env} {s : State} {m : MethodId} {args : Array Value} {below : List Frame} {meth : Method} {c : Code} {H : Heap} {locs : List Loc} {ls : Array Slot} {D : va_G} {F : (Nat → Prop) → State → Prop} {A : Nat → Prop} {σ : St} {ad : Nat → Nat → Nat} {cy : Nat → ClassId} {Rr : va_W} {Q : Int32 → St → Prop} {a1 : Int32} {a2 : Int32} {a3 : Int32} {a4 : Int32} {a5 : Int32} (hF : Stab F) (E : CallFix p m c cX6_copy 9 s args TB RX6) (hr : meth.sig.returnType = some .int) (hlk : meth.locks = false) (hf : wX6_copy_j115 a1 a2 a3 a4 a5 σ Q) (hI : In (D, tysM cy, F) (LM ad cy Rr σ) A s H locs) (hl : lv_has ls 9 [(0, .ref (ad 16 99)), (1, .int a1), (2, .int a2), (3, .int a3), (4, .int a4), (5, .int a5)]) : W p l e (rmD 2) s m args below meth c H locs 0 0 (PI below args s (D, tysM cy, F) A (LM ad cy Rr) Q) (F0 m 115 ls []) := by
  have hx := E.1
  have hb := E.2.1
  unfold wX6_copy_j115 at hf
  refine lv_iconst (v := 0) (pc := 115) hx hb dX6_copy_115 rfl ?_
  exact bX6_copy_116 hF E hr hlk hf hI (lv_sub hl [0, 1, 2, 3, 4, 5] rfl)
def wX6_copy (p1 : Int32) (p2 : Int32) (p3 : Int32) (p4 : Int32) (p5 : Int32) (σ : St) (Q : Int32 → St → Prop) : Prop := wX6_isSheet p1 σ (fun r2 σ1 => ((r2 = 0 → Q (-2) σ1) ∧ (¬ r2 = 0 → wX6_isSheet p3 σ1 (fun r5 σ4 => ((¬ r5 = 0 → vp_in p1 4 ∧ (((gA σ4 16 39 p1.toNatClampNeg) = 0 → Q (-11) σ4) ∧ (¬ (gA σ4 16 39 p1.toNatClampNeg) = 0 → vp_in p3 4 ∧ ((¬ (gA σ4 16 39 p3.toNatClampNeg) = 0 → vp_in p1 4 ∧ vp_in p3 4 ∧ (((gA σ4 16 40 p1.toNatClampNeg) = (gA σ4 16 40 p3.toNatClampNeg) → ((p5 < 0 → Q (-12) σ4) ∧ (¬ p5 < 0 → ((p2 < 0 → Q (-12) σ4) ∧ (¬ p2 < 0 → ((p4 < 0 → Q (-12) σ4) ∧ (¬ p4 < 0 → vp_in p1 4 ∧ ((((gA σ4 16 41 p1.toNatClampNeg) - p5) < p2 → Q (-12) σ4) ∧ (¬ ((gA σ4 16 41 p1.toNatClampNeg) - p5) < p2 → vp_in p3 4 ∧ ((p4 ≤ ((gA σ4 16 41 p3.toNatClampNeg) - p5) → ((¬ p1 = p3 → (wX6_copy_j115 p1 p2 p3 p4 p5 σ4 Q)) ∧ (p1 = p3 → ((p4 ≤ p2 → (wX6_copy_j115 p1 p2 p3 p4 p5 σ4 Q)) ∧ (¬ p4 ≤ p2 → (wX6_copy_j116 p1 p2 p3 p4 p5 1 σ4 Q)))))) ∧ (¬ p4 ≤ ((gA σ4 16 41 p3.toNatClampNeg) - p5) → Q (-12) σ4))))))))))) ∧ (¬ (gA σ4 16 40 p1.toNatClampNeg) = (gA σ4 16 40 p3.toNatClampNeg) → Q (-13) σ4))) ∧ ((gA σ4 16 39 p3.toNatClampNeg) = 0 → Q (-11) σ4))))) ∧ (r5 = 0 → Q (-2) σ4))))))
set_option maxRecDepth 100000 in
set_option maxHeartbeats 4000000 in
theorem bX6_copy {p : Program} {l : Launch} {e : Env} {s : State} {m : MethodId} {args : Array Value} {below : List Frame} {meth : Method} {c : Code} {H : Heap} {locs : List Loc} {ls : Array Slot} {D : va_G} {F : (Nat → Prop) → State → Prop} {A : Nat → Prop} {σ : St} {ad : Nat → Nat → Nat} {cy : Nat → ClassId} {Rr : va_W} {Q : Int32 → St → Prop} {p1 : Int32} {p2 : Int32} {p3 : Int32} {p4 : Int32} {p5 : Int32} (hF : Stab F) (E : CallFix p m c cX6_copy 9 s args TB RX6) (hr : meth.sig.returnType = some .int) (hlk : meth.locks = false) (hf : wX6_copy p1 p2 p3 p4 p5 σ Q) (hI : In (D, tysM cy, F) (LM ad cy Rr σ) A s H locs) (hl : lv_has ls 9 [(0, .ref (ad 16 99)), (1, .int p1), (2, .int p2), (3, .int p3), (4, .int p4), (5, .int p5)]) : W p l e (rmD 2) s m args below meth c H locs 0 0 (PI below args s (D, tysM cy, F) A (LM ad cy Rr) Q) (F0 m 0 ls []) := by
  have hx := E.1
  have hb := E.2.1
  unfold wX6_copy at hf
  refine lv_iload_n (pc := 0) hx hb dX6_copy_0 rfl (lv_at hl 1 rfl) ?_
  refine callSI (G := (D, tysM cy, F)) (L := LM ad cy Rr) (pc := 1) (As := [.int p1]) (rest := []) hF E cs0 hl hI (tX6_isSheet hF hf) mwX6_408 (fitD (by decide)) rfl rfl (Nat.le_of_ble_eq_true rfl) dX6_copy_1 (fun r2 σ1 H locs hf hI => ?_)
  refine lv_if_eq (tgt := 14) (pc := 4) hx hb dX6_copy_4 (by decide) (fun c3 => ?_) (fun c3 => ?_)
  · have hf := hf.1 c3
    refine lv_bipush (v := (-2)) (pc := 14) hx hb dX6_copy_14 rfl ?_
    exact rI (pc := 16) E hr hlk hI hf dX6_copy_16
  · have hf := hf.2 c3
    refine lv_iload_n (pc := 7) hx hb dX6_copy_7 rfl (lv_at hl 3 rfl) ?_
    refine callSI (G := (D, tysM cy, F)) (L := LM ad cy Rr) (pc := 8) (As := [.int p3]) (rest := []) hF E cs0 hl hI (tX6_isSheet hF hf) mwX6_408 (fitD (by decide)) rfl rfl (Nat.le_of_ble_eq_true rfl) dX6_copy_8 (fun r5 σ4 H locs hf hI => ?_)
    refine lv_if_ne (tgt := 17) (pc := 11) hx hb dX6_copy_11 (by decide) (fun c6 => ?_) (fun c6 => ?_)
    · have hf := hf.1 c6
      refine lv_aload_n (pc := 17) hx hb dX6_copy_17 rfl (lv_at hl 0 rfl) ?_
      refine g6_39 (pc := 18) E hI lkX6_53 dX6_copy_18 ?_
      refine lv_iload_n (pc := 21) hx hb dX6_copy_21 rfl (lv_at hl 1 rfl) ?_
      have g7 := hf.1
      have hf := hf.2
      refine a6_39 (pc := 22) E hI g7 dX6_copy_22 ?_
      refine lv_if_eq (tgt := 35) (pc := 23) hx hb dX6_copy_23 (by decide) (fun c8 => ?_) (fun c8 => ?_)
      · have hf := hf.1 c8
        refine lv_bipush (v := (-11)) (pc := 35) hx hb dX6_copy_35 rfl ?_
        exact rI (pc := 37) E hr hlk hI hf dX6_copy_37
      · have hf := hf.2 c8
        refine lv_aload_n (pc := 26) hx hb dX6_copy_26 rfl (lv_at hl 0 rfl) ?_
        refine g6_39 (pc := 27) E hI lkX6_53 dX6_copy_27 ?_
        refine lv_iload_n (pc := 30) hx hb dX6_copy_30 rfl (lv_at hl 3 rfl) ?_
        have g9 := hf.1
        have hf := hf.2
        refine a6_39 (pc := 31) E hI g9 dX6_copy_31 ?_
        refine lv_if_ne (tgt := 38) (pc := 32) hx hb dX6_copy_32 (by decide) (fun c10 => ?_) (fun c10 => ?_)
        · have hf := hf.1 c10
          refine lv_aload_n (pc := 38) hx hb dX6_copy_38 rfl (lv_at hl 0 rfl) ?_
          refine g6_40 (pc := 39) E hI lkX6_57 dX6_copy_39 ?_
          refine lv_iload_n (pc := 42) hx hb dX6_copy_42 rfl (lv_at hl 1 rfl) ?_
          have g11 := hf.1
          have hf := hf.2
          refine a6_40 (pc := 43) E hI g11 dX6_copy_43 ?_
          refine lv_aload_n (pc := 44) hx hb dX6_copy_44 rfl (lv_at hl 0 rfl) ?_
          refine g6_40 (pc := 45) E hI lkX6_57 dX6_copy_45 ?_
          refine lv_iload_n (pc := 48) hx hb dX6_copy_48 rfl (lv_at hl 3 rfl) ?_
          have g12 := hf.1
          have hf := hf.2
          refine a6_40 (pc := 49) E hI g12 dX6_copy_49 ?_
          refine lv_icmp_eq (tgt := 56) (pc := 50) hx hb dX6_copy_50 (by decide) (fun c13 => ?_) (fun c13 => ?_)
          · have hf := hf.1 c13
            refine lv_iload (pc := 56) hx hb dX6_copy_56 (lv_at hl 5 rfl) ?_
            refine lv_if_lt (tgt := 97) (pc := 58) hx hb dX6_copy_58 (by decide) (fun c14 => ?_) (fun c14 => ?_)
            · have hf := hf.1 c14
              refine lv_bipush (v := (-12)) (pc := 97) hx hb dX6_copy_97 rfl ?_
              exact rI (pc := 99) E hr hlk hI hf dX6_copy_99
            · have hf := hf.2 c14
              refine lv_iload_n (pc := 61) hx hb dX6_copy_61 rfl (lv_at hl 2 rfl) ?_
              refine lv_if_lt (tgt := 97) (pc := 62) hx hb dX6_copy_62 (by decide) (fun c15 => ?_) (fun c15 => ?_)
              · have hf := hf.1 c15
                refine lv_bipush (v := (-12)) (pc := 97) hx hb dX6_copy_97 rfl ?_
                exact rI (pc := 99) E hr hlk hI hf dX6_copy_99
              · have hf := hf.2 c15
                refine lv_iload (pc := 65) hx hb dX6_copy_65 (lv_at hl 4 rfl) ?_
                refine lv_if_lt (tgt := 97) (pc := 67) hx hb dX6_copy_67 (by decide) (fun c16 => ?_) (fun c16 => ?_)
                · have hf := hf.1 c16
                  refine lv_bipush (v := (-12)) (pc := 97) hx hb dX6_copy_97 rfl ?_
                  exact rI (pc := 99) E hr hlk hI hf dX6_copy_99
                · have hf := hf.2 c16
                  refine lv_iload_n (pc := 70) hx hb dX6_copy_70 rfl (lv_at hl 2 rfl) ?_
                  refine lv_aload_n (pc := 71) hx hb dX6_copy_71 rfl (lv_at hl 0 rfl) ?_
                  refine g6_41 (pc := 72) E hI lkX6_60 dX6_copy_72 ?_
                  refine lv_iload_n (pc := 75) hx hb dX6_copy_75 rfl (lv_at hl 1 rfl) ?_
                  have g17 := hf.1
                  have hf := hf.2
                  refine a6_41 (pc := 76) E hI g17 dX6_copy_76 ?_
                  refine lv_iload (pc := 77) hx hb dX6_copy_77 (lv_at hl 5 rfl) ?_
                  refine lv_isub (pc := 79) hx hb dX6_copy_79 ?_
                  refine lv_icmp_gt (tgt := 97) (pc := 80) hx hb dX6_copy_80 (by decide) (fun c18 => ?_) (fun c18 => ?_)
                  · have hf := hf.1 c18
                    refine lv_bipush (v := (-12)) (pc := 97) hx hb dX6_copy_97 rfl ?_
                    exact rI (pc := 99) E hr hlk hI hf dX6_copy_99
                  · have hf := hf.2 c18
                    refine lv_iload (pc := 83) hx hb dX6_copy_83 (lv_at hl 4 rfl) ?_
                    refine lv_aload_n (pc := 85) hx hb dX6_copy_85 rfl (lv_at hl 0 rfl) ?_
                    refine g6_41 (pc := 86) E hI lkX6_60 dX6_copy_86 ?_
                    refine lv_iload_n (pc := 89) hx hb dX6_copy_89 rfl (lv_at hl 3 rfl) ?_
                    have g19 := hf.1
                    have hf := hf.2
                    refine a6_41 (pc := 90) E hI g19 dX6_copy_90 ?_
                    refine lv_iload (pc := 91) hx hb dX6_copy_91 (lv_at hl 5 rfl) ?_
                    refine lv_isub (pc := 93) hx hb dX6_copy_93 ?_
                    refine lv_icmp_le (tgt := 100) (pc := 94) hx hb dX6_copy_94 (by decide) (fun c20 => ?_) (fun c20 => ?_)
                    · have hf := hf.1 c20
                      refine lv_iload_n (pc := 100) hx hb dX6_copy_100 rfl (lv_at hl 1 rfl) ?_
                      refine lv_iload_n (pc := 101) hx hb dX6_copy_101 rfl (lv_at hl 3 rfl) ?_
                      refine lv_icmp_ne (tgt := 115) (pc := 102) hx hb dX6_copy_102 (by decide) (fun c21 => ?_) (fun c21 => ?_)
                      · have hf := hf.1 c21
                        exact bX6_copy_115 hF E hr hlk hf hI (lv_sub hl [0, 1, 2, 3, 4, 5] rfl)
                      · have hf := hf.2 c21
                        refine lv_iload_n (pc := 105) hx hb dX6_copy_105 rfl (lv_at hl 2 rfl) ?_
                        refine lv_iload (pc := 106) hx hb dX6_copy_106 (lv_at hl 4 rfl) ?_
                        refine lv_icmp_ge (tgt := 115) (pc := 108) hx hb dX6_copy_108 (by decide) (fun c29 => ?_) (fun c29 => ?_)
                        · have hf := hf.1 c29
                          exact bX6_copy_115 hF E hr hlk hf hI (lv_sub hl [0, 1, 2, 3, 4, 5] rfl)
                        · have hf := hf.2 c29
                          refine lv_iconst (v := 1) (pc := 111) hx hb dX6_copy_111 rfl ?_
                          refine lv_goto (tgt := 116) (pc := 112) hx hb dX6_copy_112 (by decide) ?_
                          exact bX6_copy_116 hF E hr hlk hf hI (lv_sub hl [0, 1, 2, 3, 4, 5] rfl)
                    · have hf := hf.2 c20
                      refine lv_bipush (v := (-12)) (pc := 97) hx hb dX6_copy_97 rfl ?_
                      exact rI (pc := 99) E hr hlk hI hf dX6_copy_99
          · have hf := hf.2 c13
            refine lv_bipush (v := (-13)) (pc := 53) hx hb dX6_copy_53 rfl ?_
            exact rI (pc := 55) E hr hlk hI hf dX6_copy_55
        · have hf := hf.2 c10
          refine lv_bipush (v := (-11)) (pc := 35) hx hb dX6_copy_35 rfl ?_
          exact rI (pc := 37) E hr hlk hI hf dX6_copy_37
    · have hf := hf.2 c6
      refine lv_bipush (v := (-2)) (pc := 14) hx hb dX6_copy_14 rfl ?_
      exact rI (pc := 16) E hr hlk hI hf dX6_copy_16
theorem tX6_copy {l : Launch} {D : va_G} {F : (Nat → Prop) → State → Prop} {σ : St} {ad : Nat → Nat → Nat} {cy : Nat → ClassId} {Rr : va_W} {Q : Int32 → St → Prop} {p1 : Int32} {p2 : Int32} {p3 : Int32} {p4 : Int32} {p5 : Int32} (hF : Stab F) (hf : wX6_copy p1 p2 p3 p4 p5 σ Q) : CtI l yX6_copy cX6_copy 9 .int 2 (D, tysM cy, F) (LM ad cy Rr) [.ref (ad 16 99), .int p1, .int p2, .int p3, .int p4, .int p5] σ Q := mkI (by decide) (Nat.le_of_ble_eq_true rfl) (fun p e s m below meth c A E hr hlk hI ls hl => bX6_copy hF E hr hlk hf hI hl)

def wX6_exarchate_j158 (a1 : Int32) (a3 : Int32) (a4 : Int32) (a6 : Int32) (s0 : Int32) (s1 : Int32) (σ : St) (K : Int32 → Int32 → Int32 → Int32 → Int32 → St → Prop) (Q : Int32 → St → Prop) : Prop := ∀ x25 : Int32, x25 = (s0 + s1) → ∀ x26 : Int32, x26 = a6 + 1 → (K a1 a3 a4 x25 x26 σ)
set_option maxRecDepth 100000 in
set_option maxHeartbeats 4000000 in
theorem bX6_exarchate_158 {p : Program} {l : Launch} {e : Env} {s : State} {m : MethodId} {args : Array Value} {below : List Frame} {meth : Method} {c : Code} {H : Heap} {locs : List Loc} {ls : Array Slot} {D : va_G} {F : (Nat → Prop) → State → Prop} {A : Nat → Prop} {σ : St} {ad : Nat → Nat → Nat} {cy : Nat → ClassId} {Rr : va_W} {Q : Int32 → St → Prop} {a1 : Int32} {a3 : Int32} {a4 : Int32} {a6 : Int32} {s0 : Int32} {s1 : Int32} {K : Int32 → Int32 → Int32 → Int32 → Int32 → St → Prop} (hF : Stab F) (E : CallFix p m c cX6_exarchate 8 s args TB RX6) (hr : meth.sig.returnType = some .int) (hlk : meth.locks = false) (hK : ∀ (a1 : Int32) (a3 : Int32) (a4 : Int32) (a5 : Int32) (a6 : Int32) (σ : St) (H : Heap) (locs : List Loc) (ls : Array Slot), K a1 a3 a4 a5 a6 σ → In (D, tysM cy, F) (LM ad cy Rr σ) A s H locs → lv_has ls 8 [(0, .ref (ad 16 99)), (1, .int a1), (3, .int a3), (4, .int a4), (5, .int a5), (6, .int a6)] → W p l e (rmD 2) s m args below meth c H locs 0 0 (PI below args s (D, tysM cy, F) A (LM ad cy Rr) Q) (F0 m 75 ls [])) (hf : wX6_exarchate_j158 a1 a3 a4 a6 s0 s1 σ K Q) (hI : In (D, tysM cy, F) (LM ad cy Rr σ) A s H locs) (hl : lv_has ls 8 [(0, .ref (ad 16 99)), (1, .int a1), (3, .int a3), (4, .int a4), (6, .int a6)]) : W p l e (rmD 2) s m args below meth c H locs 0 0 (PI below args s (D, tysM cy, F) A (LM ad cy Rr) Q) (F0 m 158 ls [.int s1, .int s0]) := by
  have hx := E.1
  have hb := E.2.1
  unfold wX6_exarchate_j158 at hf
  refine lv_iadd (pc := 158) hx hb dX6_exarchate_158 ?_
  refine lv_topi (fun x25 ex25 => ?_)
  have hf := hf x25 ex25
  refine lv_istore (lv' := [(5, .int x25), (0, .ref (ad 16 99)), (1, .int a1), (3, .int a3), (4, .int a4), (6, .int a6)]) (pc := 159) hx hb dX6_exarchate_159 hl (by decide) rfl (fun ls hl => ?_)
  obtain ⟨x26, ex26⟩ : ∃ y : Int32, y = a6 + 1 := ⟨_, rfl⟩
  have hf := hf x26 ex26
  refine lv_iinc (v := x26) (lv' := [(6, .int x26), (5, .int x25), (0, .ref (ad 16 99)), (1, .int a1), (3, .int a3), (4, .int a4)]) (pc := 161) hx hb dX6_exarchate_161 hl (k := 5) rfl (by rw [ex26]; rfl) (by decide) rfl (fun ls hl => ?_)
  refine lv_goto (tgt := 75) (pc := 164) hx hb dX6_exarchate_164 (by decide) ?_
  exact hK _ _ _ _ _ _ _ _ _ hf hI (lv_sub hl [2, 3, 4, 5, 1, 0] rfl)
def wX6_exarchate_l75s (ih : Int32 → Int32 → Int32 → Int32 → Int32 → St → Prop) (a1 : Int32) (a3 : Int32) (a4 : Int32) (a5 : Int32) (a6 : Int32) (σ : St) (Q : Int32 → St → Prop) : Prop := ((a4 ≤ a6 → Q a5 σ) ∧ (¬ a4 ≤ a6 → ((a3 < 0 → Q (-12) σ) ∧ (¬ a3 < 0 → vp_in a1 4 ∧ ((a3 ≤ (((gA σ 16 41 a1.toNatClampNeg) - (3 * a6)) - 3) → ∀ x18 : Int32, x18 = (((40 * a1) + a3) + (3 * a6)) → vp_in x18 160 ∧ vp_in (x18 + 1) 160 ∧ vp_in (x18 + 2) 160 ∧ wX6_person (gA σ 16 42 x18.toNatClampNeg) (gA σ 16 42 (x18 + 1).toNatClampNeg) (gA σ 16 42 (x18 + 2).toNatClampNeg) σ (fun r23 σ22 => ((r23 < 0 → (wX6_exarchate_j158 a1 a3 a4 a6 a5 0 σ22 ih Q)) ∧ (¬ r23 < 0 → (wX6_exarchate_j158 a1 a3 a4 a6 a5 1 σ22 ih Q))))) ∧ (¬ a3 ≤ (((gA σ 16 41 a1.toNatClampNeg) - (3 * a6)) - 3) → Q (-12) σ))))))
def wX6_exarchate_l75 (n : Nat) : Int32 → Int32 → Int32 → Int32 → Int32 → St → (Int32 → St → Prop) → Prop := @Nat.rec (fun _ => Int32 → Int32 → Int32 → Int32 → Int32 → St → (Int32 → St → Prop) → Prop) (fun _ _ _ _ _ _ _ => False) (fun _ ih a1 a3 a4 a5 a6 σ Q => wX6_exarchate_l75s (fun a1 a3 a4 a5 a6 σ => ih a1 a3 a4 a5 a6 σ Q) a1 a3 a4 a5 a6 σ Q) n
set_option maxRecDepth 100000 in
set_option maxHeartbeats 4000000 in
theorem bX6_exarchate_75 {p : Program} {l : Launch} {e : Env} {s : State} {m : MethodId} {args : Array Value} {below : List Frame} {meth : Method} {c : Code} {D : va_G} {F : (Nat → Prop) → State → Prop} {A : Nat → Prop} {ad : Nat → Nat → Nat} {cy : Nat → ClassId} {Rr : va_W} {Q : Int32 → St → Prop} (hF : Stab F) (E : CallFix p m c cX6_exarchate 8 s args TB RX6) (hr : meth.sig.returnType = some .int) (hlk : meth.locks = false) : ∀ (n : Nat) {a1 : Int32} {a3 : Int32} {a4 : Int32} {a5 : Int32} {a6 : Int32} {σ : St} {H : Heap} {locs : List Loc} {ls : Array Slot}, wX6_exarchate_l75 n a1 a3 a4 a5 a6 σ Q → In (D, tysM cy, F) (LM ad cy Rr σ) A s H locs → lv_has ls 8 [(0, .ref (ad 16 99)), (1, .int a1), (3, .int a3), (4, .int a4), (5, .int a5), (6, .int a6)] → W p l e (rmD 2) s m args below meth c H locs 0 0 (PI below args s (D, tysM cy, F) A (LM ad cy Rr) Q) (F0 m 75 ls []) := by
  have hx := E.1
  have hb := E.2.1
  intro n
  induction n with
  | zero => intro a1 a3 a4 a5 a6 σ H locs ls hf hI hl; exact False.elim hf
  | succ n ih =>
    intro a1 a3 a4 a5 a6 σ H locs ls hf hI hl
    have hf : wX6_exarchate_l75s (fun a1 a3 a4 a5 a6 σ => wX6_exarchate_l75 n a1 a3 a4 a5 a6 σ Q) a1 a3 a4 a5 a6 σ Q := hf
    unfold wX6_exarchate_l75s at hf
    refine lv_iload (pc := 75) hx hb dX6_exarchate_75 (lv_at hl 5 rfl) ?_
    refine lv_iload (pc := 77) hx hb dX6_exarchate_77 (lv_at hl 3 rfl) ?_
    refine lv_icmp_ge (tgt := 167) (pc := 79) hx hb dX6_exarchate_79 (by decide) (fun c14 => ?_) (fun c14 => ?_)
    · have hf := hf.1 c14
      refine lv_iload (pc := 167) hx hb dX6_exarchate_167 (lv_at hl 4 rfl) ?_
      exact rI (pc := 169) E hr hlk hI hf dX6_exarchate_169
    · have hf := hf.2 c14
      refine lv_iload_n (pc := 82) hx hb dX6_exarchate_82 rfl (lv_at hl 2 rfl) ?_
      refine lv_if_lt (tgt := 103) (pc := 83) hx hb dX6_exarchate_83 (by decide) (fun c15 => ?_) (fun c15 => ?_)
      · have hf := hf.1 c15
        refine lv_bipush (v := (-12)) (pc := 103) hx hb dX6_exarchate_103 rfl ?_
        exact rI (pc := 105) E hr hlk hI hf dX6_exarchate_105
      · have hf := hf.2 c15
        refine lv_iload_n (pc := 86) hx hb dX6_exarchate_86 rfl (lv_at hl 2 rfl) ?_
        refine lv_aload_n (pc := 87) hx hb dX6_exarchate_87 rfl (lv_at hl 0 rfl) ?_
        refine g6_41 (pc := 88) E hI lkX6_60 dX6_exarchate_88 ?_
        refine lv_iload_n (pc := 91) hx hb dX6_exarchate_91 rfl (lv_at hl 1 rfl) ?_
        have g16 := hf.1
        have hf := hf.2
        refine a6_41 (pc := 92) E hI g16 dX6_exarchate_92 ?_
        refine lv_iconst (v := 3) (pc := 93) hx hb dX6_exarchate_93 rfl ?_
        refine lv_iload (pc := 94) hx hb dX6_exarchate_94 (lv_at hl 5 rfl) ?_
        refine lv_imul (pc := 96) hx hb dX6_exarchate_96 ?_
        refine lv_isub (pc := 97) hx hb dX6_exarchate_97 ?_
        refine lv_iconst (v := 3) (pc := 98) hx hb dX6_exarchate_98 rfl ?_
        refine lv_isub (pc := 99) hx hb dX6_exarchate_99 ?_
        refine lv_icmp_le (tgt := 106) (pc := 100) hx hb dX6_exarchate_100 (by decide) (fun c17 => ?_) (fun c17 => ?_)
        · have hf := hf.1 c17
          refine lv_bipush (v := 40) (pc := 106) hx hb dX6_exarchate_106 rfl ?_
          refine lv_iload_n (pc := 108) hx hb dX6_exarchate_108 rfl (lv_at hl 1 rfl) ?_
          refine lv_imul (pc := 109) hx hb dX6_exarchate_109 ?_
          refine lv_iload_n (pc := 110) hx hb dX6_exarchate_110 rfl (lv_at hl 2 rfl) ?_
          refine lv_iadd (pc := 111) hx hb dX6_exarchate_111 ?_
          refine lv_iconst (v := 3) (pc := 112) hx hb dX6_exarchate_112 rfl ?_
          refine lv_iload (pc := 113) hx hb dX6_exarchate_113 (lv_at hl 5 rfl) ?_
          refine lv_imul (pc := 115) hx hb dX6_exarchate_115 ?_
          refine lv_iadd (pc := 116) hx hb dX6_exarchate_116 ?_
          refine lv_topi (fun x18 ex18 => ?_)
          have hf := hf x18 ex18
          refine lv_istore (lv' := [(7, .int x18), (0, .ref (ad 16 99)), (1, .int a1), (3, .int a3), (4, .int a4), (5, .int a5), (6, .int a6)]) (pc := 117) hx hb dX6_exarchate_117 hl (by decide) rfl (fun ls hl => ?_)
          refine lv_iload (pc := 119) hx hb dX6_exarchate_119 (lv_at hl 5 rfl) ?_
          refine lv_aload_n (pc := 121) hx hb dX6_exarchate_121 rfl (lv_at hl 1 rfl) ?_
          refine lv_aload_n (pc := 122) hx hb dX6_exarchate_122 rfl (lv_at hl 1 rfl) ?_
          refine g6_42 (pc := 123) E hI lkX6_63 dX6_exarchate_123 ?_
          refine lv_iload (pc := 126) hx hb dX6_exarchate_126 (lv_at hl 0 rfl) ?_
          have g19 := hf.1
          have hf := hf.2
          refine a6_42 (pc := 128) E hI g19 dX6_exarchate_128 ?_
          refine lv_aload_n (pc := 129) hx hb dX6_exarchate_129 rfl (lv_at hl 1 rfl) ?_
          refine g6_42 (pc := 130) E hI lkX6_63 dX6_exarchate_130 ?_
          refine lv_iload (pc := 133) hx hb dX6_exarchate_133 (lv_at hl 0 rfl) ?_
          refine lv_iconst (v := 1) (pc := 135) hx hb dX6_exarchate_135 rfl ?_
          refine lv_iadd (pc := 136) hx hb dX6_exarchate_136 ?_
          have g20 := hf.1
          have hf := hf.2
          refine a6_42 (pc := 137) E hI g20 dX6_exarchate_137 ?_
          refine lv_aload_n (pc := 138) hx hb dX6_exarchate_138 rfl (lv_at hl 1 rfl) ?_
          refine g6_42 (pc := 139) E hI lkX6_63 dX6_exarchate_139 ?_
          refine lv_iload (pc := 142) hx hb dX6_exarchate_142 (lv_at hl 0 rfl) ?_
          refine lv_iconst (v := 2) (pc := 144) hx hb dX6_exarchate_144 rfl ?_
          refine lv_iadd (pc := 145) hx hb dX6_exarchate_145 ?_
          have g21 := hf.1
          have hf := hf.2
          refine a6_42 (pc := 146) E hI g21 dX6_exarchate_146 ?_
          refine callVI (G := (D, tysM cy, F)) (L := LM ad cy Rr) (pc := 147) (As := [.int (gA σ 16 42 x18.toNatClampNeg), .int (gA σ 16 42 (x18 + 1).toNatClampNeg), .int (gA σ 16 42 (x18 + 2).toNatClampNeg)]) (rest := [.int a5]) hF E cs0 hl hI (tX6_person hF hf) mwX6_436 (fitD (by decide)) (at6) rfl rfl rfl rfl (Nat.le_of_ble_eq_true rfl) dX6_exarchate_147 (fun r23 σ22 H locs hf hI => ?_)
          refine lv_if_lt (tgt := 157) (pc := 150) hx hb dX6_exarchate_150 (by decide) (fun c24 => ?_) (fun c24 => ?_)
          · have hf := hf.1 c24
            refine lv_iconst (v := 0) (pc := 157) hx hb dX6_exarchate_157 rfl ?_
            exact bX6_exarchate_158 hF E hr hlk (fun _ _ _ _ _ _ _ _ _ hf hI hl => ih hf hI hl) hf hI (lv_sub hl [1, 2, 3, 4, 6] rfl)
          · have hf := hf.2 c24
            refine lv_iconst (v := 1) (pc := 153) hx hb dX6_exarchate_153 rfl ?_
            refine lv_goto (tgt := 158) (pc := 154) hx hb dX6_exarchate_154 (by decide) ?_
            exact bX6_exarchate_158 hF E hr hlk (fun _ _ _ _ _ _ _ _ _ hf hI hl => ih hf hI hl) hf hI (lv_sub hl [1, 2, 3, 4, 6] rfl)
        · have hf := hf.2 c17
          refine lv_bipush (v := (-12)) (pc := 103) hx hb dX6_exarchate_103 rfl ?_
          exact rI (pc := 105) E hr hlk hI hf dX6_exarchate_105
def wX6_exarchate_j57 (a1 : Int32) (a3 : Int32) (a4 : Int32) (σ : St) (Q : Int32 → St → Prop) : Prop := vp_in a1 4 ∧ ((¬ (gA σ 16 39 a1.toNatClampNeg) = 0 → ∃ n27 : Nat, wX6_exarchate_l75 n27 a1 a3 a4 0 0 σ Q) ∧ ((gA σ 16 39 a1.toNatClampNeg) = 0 → Q (-11) σ))
set_option maxRecDepth 100000 in
set_option maxHeartbeats 4000000 in
theorem bX6_exarchate_57 {p : Program} {l : Launch} {e : Env} {s : State} {m : MethodId} {args : Array Value} {below : List Frame} {meth : Method} {c : Code} {H : Heap} {locs : List Loc} {ls : Array Slot} {D : va_G} {F : (Nat → Prop) → State → Prop} {A : Nat → Prop} {σ : St} {ad : Nat → Nat → Nat} {cy : Nat → ClassId} {Rr : va_W} {Q : Int32 → St → Prop} {a1 : Int32} {a3 : Int32} {a4 : Int32} (hF : Stab F) (E : CallFix p m c cX6_exarchate 8 s args TB RX6) (hr : meth.sig.returnType = some .int) (hlk : meth.locks = false) (hf : wX6_exarchate_j57 a1 a3 a4 σ Q) (hI : In (D, tysM cy, F) (LM ad cy Rr σ) A s H locs) (hl : lv_has ls 8 [(0, .ref (ad 16 99)), (1, .int a1), (3, .int a3), (4, .int a4)]) : W p l e (rmD 2) s m args below meth c H locs 0 0 (PI below args s (D, tysM cy, F) A (LM ad cy Rr) Q) (F0 m 57 ls []) := by
  have hx := E.1
  have hb := E.2.1
  unfold wX6_exarchate_j57 at hf
  refine lv_aload_n (pc := 57) hx hb dX6_exarchate_57 rfl (lv_at hl 0 rfl) ?_
  refine g6_39 (pc := 58) E hI lkX6_53 dX6_exarchate_58 ?_
  refine lv_iload_n (pc := 61) hx hb dX6_exarchate_61 rfl (lv_at hl 1 rfl) ?_
  have g12 := hf.1
  have hf := hf.2
  refine a6_39 (pc := 62) E hI g12 dX6_exarchate_62 ?_
  refine lv_if_ne (tgt := 69) (pc := 63) hx hb dX6_exarchate_63 (by decide) (fun c13 => ?_) (fun c13 => ?_)
  · have hf := hf.1 c13
    refine lv_iconst (v := 0) (pc := 69) hx hb dX6_exarchate_69 rfl ?_
    refine lv_istore (lv' := [(5, .int 0), (0, .ref (ad 16 99)), (1, .int a1), (3, .int a3), (4, .int a4)]) (pc := 70) hx hb dX6_exarchate_70 hl (by decide) rfl (fun ls hl => ?_)
    refine lv_iconst (v := 0) (pc := 72) hx hb dX6_exarchate_72 rfl ?_
    refine lv_istore (lv' := [(6, .int 0), (5, .int 0), (0, .ref (ad 16 99)), (1, .int a1), (3, .int a3), (4, .int a4)]) (pc := 73) hx hb dX6_exarchate_73 hl (by decide) rfl (fun ls hl => ?_)
    obtain ⟨n27, hf⟩ := hf
    exact bX6_exarchate_75 hF E hr hlk n27 hf hI (lv_sub hl [2, 3, 4, 5, 1, 0] rfl)
  · have hf := hf.2 c13
    refine lv_bipush (v := (-11)) (pc := 66) hx hb dX6_exarchate_66 rfl ?_
    exact rI (pc := 68) E hr hlk hI hf dX6_exarchate_68
def wX6_exarchate (p1 : Int32) (p2 : Int32) (p3 : Int32) (p4 : Int32) (σ : St) (Q : Int32 → St → Prop) : Prop := wX6_isSheet p1 σ (fun r2 σ1 => ((r2 = 0 → Q (-2) σ1) ∧ (¬ r2 = 0 → wX6_in (p2.toInt64) 0 2 σ1 (fun r5 σ4 => ((r5 = 0 → Q (-2) σ4) ∧ (¬ r5 = 0 → wX6_in (p4.toInt64) 0 5 σ4 (fun r8 σ7 => ((¬ r8 = 0 → vp_in p1 4 ∧ (((gA σ7 16 39 p1.toNatClampNeg) = 0 → (wX6_exarchate_j57 p1 p3 p4 σ7 Q)) ∧ (¬ (gA σ7 16 39 p1.toNatClampNeg) = 0 → vp_in p1 4 ∧ (((gA σ7 16 40 p1.toNatClampNeg) = p2 → (wX6_exarchate_j57 p1 p3 p4 σ7 Q)) ∧ (¬ (gA σ7 16 40 p1.toNatClampNeg) = p2 → Q (-13) σ7))))) ∧ (r8 = 0 → Q (-2) σ7)))))))))
set_option maxRecDepth 100000 in
set_option maxHeartbeats 4000000 in
theorem bX6_exarchate {p : Program} {l : Launch} {e : Env} {s : State} {m : MethodId} {args : Array Value} {below : List Frame} {meth : Method} {c : Code} {H : Heap} {locs : List Loc} {ls : Array Slot} {D : va_G} {F : (Nat → Prop) → State → Prop} {A : Nat → Prop} {σ : St} {ad : Nat → Nat → Nat} {cy : Nat → ClassId} {Rr : va_W} {Q : Int32 → St → Prop} {p1 : Int32} {p2 : Int32} {p3 : Int32} {p4 : Int32} (hF : Stab F) (E : CallFix p m c cX6_exarchate 8 s args TB RX6) (hr : meth.sig.returnType = some .int) (hlk : meth.locks = false) (hf : wX6_exarchate p1 p2 p3 p4 σ Q) (hI : In (D, tysM cy, F) (LM ad cy Rr σ) A s H locs) (hl : lv_has ls 8 [(0, .ref (ad 16 99)), (1, .int p1), (2, .int p2), (3, .int p3), (4, .int p4)]) : W p l e (rmD 2) s m args below meth c H locs 0 0 (PI below args s (D, tysM cy, F) A (LM ad cy Rr) Q) (F0 m 0 ls []) := by
  have hx := E.1
  have hb := E.2.1
  unfold wX6_exarchate at hf
  refine lv_iload_n (pc := 0) hx hb dX6_exarchate_0 rfl (lv_at hl 1 rfl) ?_
  refine callSI (G := (D, tysM cy, F)) (L := LM ad cy Rr) (pc := 1) (As := [.int p1]) (rest := []) hF E cs0 hl hI (tX6_isSheet hF hf) mwX6_408 (fitD (by decide)) rfl rfl (Nat.le_of_ble_eq_true rfl) dX6_exarchate_1 (fun r2 σ1 H locs hf hI => ?_)
  refine lv_if_eq (tgt := 32) (pc := 4) hx hb dX6_exarchate_4 (by decide) (fun c3 => ?_) (fun c3 => ?_)
  · have hf := hf.1 c3
    refine lv_bipush (v := (-2)) (pc := 32) hx hb dX6_exarchate_32 rfl ?_
    exact rI (pc := 34) E hr hlk hI hf dX6_exarchate_34
  · have hf := hf.2 c3
    refine lv_iload_n (pc := 7) hx hb dX6_exarchate_7 rfl (lv_at hl 2 rfl) ?_
    refine lv_i2l (v := (p2.toInt64)) (pc := 8) hx hb dX6_exarchate_8 rfl ?_
    refine lv_lconst (v := 0) (pc := 9) hx hb dX6_exarchate_9 rfl ?_
    refine lv_ldc2 (pc := 10) E.1 E.2.1 E.2.2.2.1 (E.2.2.2.2 _ kcX6_434) dX6_exarchate_10 ?_
    refine callSI (G := (D, tysM cy, F)) (L := LM ad cy Rr) (pc := 13) (As := [.long (p2.toInt64), .long 0, .long 2]) (rest := []) hF E cs0 hl hI (tX6_in hF hf) mwX6_76 (fitD (by decide)) rfl rfl (Nat.le_of_ble_eq_true rfl) dX6_exarchate_13 (fun r5 σ4 H locs hf hI => ?_)
    refine lv_if_eq (tgt := 32) (pc := 16) hx hb dX6_exarchate_16 (by decide) (fun c6 => ?_) (fun c6 => ?_)
    · have hf := hf.1 c6
      refine lv_bipush (v := (-2)) (pc := 32) hx hb dX6_exarchate_32 rfl ?_
      exact rI (pc := 34) E hr hlk hI hf dX6_exarchate_34
    · have hf := hf.2 c6
      refine lv_iload (pc := 19) hx hb dX6_exarchate_19 (lv_at hl 4 rfl) ?_
      refine lv_i2l (v := (p4.toInt64)) (pc := 21) hx hb dX6_exarchate_21 rfl ?_
      refine lv_lconst (v := 0) (pc := 22) hx hb dX6_exarchate_22 rfl ?_
      refine lv_ldc2 (pc := 23) E.1 E.2.1 E.2.2.2.1 (E.2.2.2.2 _ kcX6_118) dX6_exarchate_23 ?_
      refine callSI (G := (D, tysM cy, F)) (L := LM ad cy Rr) (pc := 26) (As := [.long (p4.toInt64), .long 0, .long 5]) (rest := []) hF E cs0 hl hI (tX6_in hF hf) mwX6_76 (fitD (by decide)) rfl rfl (Nat.le_of_ble_eq_true rfl) dX6_exarchate_26 (fun r8 σ7 H locs hf hI => ?_)
      refine lv_if_ne (tgt := 35) (pc := 29) hx hb dX6_exarchate_29 (by decide) (fun c9 => ?_) (fun c9 => ?_)
      · have hf := hf.1 c9
        refine lv_aload_n (pc := 35) hx hb dX6_exarchate_35 rfl (lv_at hl 0 rfl) ?_
        refine g6_39 (pc := 36) E hI lkX6_53 dX6_exarchate_36 ?_
        refine lv_iload_n (pc := 39) hx hb dX6_exarchate_39 rfl (lv_at hl 1 rfl) ?_
        have g10 := hf.1
        have hf := hf.2
        refine a6_39 (pc := 40) E hI g10 dX6_exarchate_40 ?_
        refine lv_if_eq (tgt := 57) (pc := 41) hx hb dX6_exarchate_41 (by decide) (fun c11 => ?_) (fun c11 => ?_)
        · have hf := hf.1 c11
          exact bX6_exarchate_57 hF E hr hlk hf hI (lv_sub hl [0, 1, 3, 4] rfl)
        · have hf := hf.2 c11
          refine lv_aload_n (pc := 44) hx hb dX6_exarchate_44 rfl (lv_at hl 0 rfl) ?_
          refine g6_40 (pc := 45) E hI lkX6_57 dX6_exarchate_45 ?_
          refine lv_iload_n (pc := 48) hx hb dX6_exarchate_48 rfl (lv_at hl 1 rfl) ?_
          have g28 := hf.1
          have hf := hf.2
          refine a6_40 (pc := 49) E hI g28 dX6_exarchate_49 ?_
          refine lv_iload_n (pc := 50) hx hb dX6_exarchate_50 rfl (lv_at hl 2 rfl) ?_
          refine lv_icmp_eq (tgt := 57) (pc := 51) hx hb dX6_exarchate_51 (by decide) (fun c29 => ?_) (fun c29 => ?_)
          · have hf := hf.1 c29
            exact bX6_exarchate_57 hF E hr hlk hf hI (lv_sub hl [0, 1, 3, 4] rfl)
          · have hf := hf.2 c29
            refine lv_bipush (v := (-13)) (pc := 54) hx hb dX6_exarchate_54 rfl ?_
            exact rI (pc := 56) E hr hlk hI hf dX6_exarchate_56
      · have hf := hf.2 c9
        refine lv_bipush (v := (-2)) (pc := 32) hx hb dX6_exarchate_32 rfl ?_
        exact rI (pc := 34) E hr hlk hI hf dX6_exarchate_34
theorem tX6_exarchate {l : Launch} {D : va_G} {F : (Nat → Prop) → State → Prop} {σ : St} {ad : Nat → Nat → Nat} {cy : Nat → ClassId} {Rr : va_W} {Q : Int32 → St → Prop} {p1 : Int32} {p2 : Int32} {p3 : Int32} {p4 : Int32} (hF : Stab F) (hf : wX6_exarchate p1 p2 p3 p4 σ Q) : CtI l yX6_exarchate cX6_exarchate 8 .int 2 (D, tysM cy, F) (LM ad cy Rr) [.ref (ad 16 99), .int p1, .int p2, .int p3, .int p4] σ Q := mkI (by decide) (Nat.le_of_ble_eq_true rfl) (fun p e s m below meth c A E hr hlk hI ls hl => bX6_exarchate hF E hr hlk hf hI hl)
