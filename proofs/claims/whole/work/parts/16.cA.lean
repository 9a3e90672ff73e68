def wX0_append (p1 : Int32) (σ : St) (Q : Int32 → St → Prop) : Prop := (((gI σ 5 1) < 160 → vp_in (gI σ 5 1) 160 ∧ ∀ σ3 : St, σ3 = sA σ 5 0 (gI σ 5 1).toNatClampNeg p1 → ∀ σ4 : St, σ4 = sI σ3 5 1 ((gI σ3 5 1) + 1) → Q (gI σ4 5 1) σ4) ∧ (¬ (gI σ 5 1) < 160 → Q (-4) σ))
set_option maxRecDepth 100000 in
set_option maxHeartbeats 4000000 in
theorem bX0_append {p : Program} {l : Launch} {e : Env} {s : State} {m : MethodId} {args : Array Value} {below : List Frame} {meth : Method} {c : Code} {H : Heap} {locs : List Loc} {ls : Array Slot} {D : va_G} {z : Nat → Nat} {A : Nat → Prop} {σ : St} {ad : Nat → Nat → Nat} {cy : Nat → ClassId} {Rr : va_W} {Q : Int32 → St → Prop} {p1 : Int32} (E : CallFix p m c cX0_append 2 s args TB RX0) (hr : meth.sig.returnType = some .int) (hlk : meth.locks = false) (hf : wX0_append p1 σ Q) (hI : In (D, tysC cy, SF z) (LC ad cy Rr σ) A s H locs) (hl : lv_has ls 2 [(0, .ref (ad 5 99)), (1, .int p1)]) : W p l e (rmD 0) s m args below meth c H locs 0 0 (PI below args s (D, tysC cy, SF z) A (LC ad cy Rr) Q) (F0 m 0 ls []) := by
  have hx := E.1
  have hb := E.2.1
  unfold wX0_append at hf
  refine lv_aload_n (pc := 0) hx hb dX0_append_0 rfl (lv_at hl 0 rfl) ?_
  refine g0_1 (pc := 1) E hI rfl lkX0_15 dX0_append_1 ?_
  refine lv_sipush (v := 160) (pc := 4) hx hb dX0_append_4 rfl ?_
  refine lv_icmp_lt (tgt := 13) (pc := 7) hx hb dX0_append_7 (by decide) (fun c1 => ?_) (fun c1 => ?_)
  · have hf := hf.1 c1
    refine lv_aload_n (pc := 13) hx hb dX0_append_13 rfl (lv_at hl 0 rfl) ?_
    refine g0_0 (pc := 14) E hI rfl lkX0_11 dX0_append_14 ?_
    refine lv_aload_n (pc := 17) hx hb dX0_append_17 rfl (lv_at hl 0 rfl) ?_
    refine g0_1 (pc := 18) E hI rfl lkX0_15 dX0_append_18 ?_
    refine lv_iload_n (pc := 21) hx hb dX0_append_21 rfl (lv_at hl 1 rfl) ?_
    have g2 := hf.1
    have hf := hf.2
    refine s0_0 (pc := 22) E hI rfl g2 dX0_append_22 (fun H locs σ3 eσ3 hI => ?_)
    have hf := hf σ3 eσ3
    refine lv_aload_n (pc := 23) hx hb dX0_append_23 rfl (lv_at hl 0 rfl) ?_
    refine lv_dup (pc := 24) hx hb dX0_append_24 rfl ?_
    refine g0_1 (pc := 25) E hI rfl lkX0_15 dX0_append_25 ?_
    refine lv_iconst (v := 1) (pc := 28) hx hb dX0_append_28 rfl ?_
    refine lv_iadd (pc := 29) hx hb dX0_append_29 ?_
    refine p0_1 (pc := 30) E hI rfl lkX0_15 dX0_append_30 (fun H locs σ4 eσ4 hI => ?_)
    have hf := hf σ4 eσ4
    refine lv_aload_n (pc := 33) hx hb dX0_append_33 rfl (lv_at hl 0 rfl) ?_
    refine g0_1 (pc := 34) E hI rfl lkX0_15 dX0_append_34 ?_
    exact rI (pc := 37) E hr hlk hI hf dX0_append_37
  · have hf := hf.2 c1
    refine lv_bipush (v := (-4)) (pc := 10) hx hb dX0_append_10 rfl ?_
    exact rI (pc := 12) E hr hlk hI hf dX0_append_12
theorem tX0_append {l : Launch} {D : va_G} {z : Nat → Nat} {σ : St} {ad : Nat → Nat → Nat} {cy : Nat → ClassId} {Rr : va_W} {Q : Int32 → St → Prop} {p1 : Int32} (hf : wX0_append p1 σ Q) : CtI l yX0_append cX0_append 2 .int 0 (D, tysC cy, SF z) (LC ad cy Rr) [.ref (ad 5 99), .int p1] σ Q := mkI (by decide) (Nat.le_of_ble_eq_true rfl) (fun p e s m below meth c A E hr hlk hI ls hl => bX0_append E hr hlk hf hI hl)

def wX0_wipe (σ : St) (Q : St → Prop) : Prop := ∀ σ1 : St, σ1 = sI σ 5 1 0 → Q σ1
set_option maxRecDepth 100000 in
set_option maxHeartbeats 4000000 in
theorem bX0_wipe {p : Program} {l : Launch} {e : Env} {s : State} {m : MethodId} {args : Array Value} {below : List Frame} {meth : Method} {c : Code} {H : Heap} {locs : List Loc} {ls : Array Slot} {D : va_G} {z : Nat → Nat} {A : Nat → Prop} {σ : St} {ad : Nat → Nat → Nat} {cy : Nat → ClassId} {Rr : va_W} {Q : St → Prop} (E : CallFix p m c cX0_wipe 1 s args TB RX0) (hr : meth.sig.returnType = none) (hlk : meth.locks = false) (hf : wX0_wipe σ Q) (hI : In (D, tysC cy, SF z) (LC ad cy Rr σ) A s H locs) (hl : lv_has ls 1 [(0, .ref (ad 5 99))]) : W p l e (rmD 0) s m args below meth c H locs 0 0 (PV below args s (D, tysC cy, SF z) A (LC ad cy Rr) Q) (F0 m 0 ls []) := by
  have hx := E.1
  have hb := E.2.1
  unfold wX0_wipe at hf
  refine lv_aload_n (pc := 0) hx hb dX0_wipe_0 rfl (lv_at hl 0 rfl) ?_
  refine lv_iconst (v := 0) (pc := 1) hx hb dX0_wipe_1 rfl ?_
  refine p0_1 (pc := 2) E hI rfl lkX0_15 dX0_wipe_2 (fun H locs σ1 eσ1 hI => ?_)
  have hf := hf σ1 eσ1
  exact rV (pc := 5) E hr hlk hI hf dX0_wipe_5
theorem tX0_wipe {l : Launch} {D : va_G} {z : Nat → Nat} {σ : St} {ad : Nat → Nat → Nat} {cy : Nat → ClassId} {Rr : va_W} {Q : St → Prop} (hf : wX0_wipe σ Q) : CtV l yX0_wipe cX0_wipe 1 0 (D, tysC cy, SF z) (LC ad cy Rr) [.ref (ad 5 99)] σ Q := mkV (by decide) (Nat.le_of_ble_eq_true rfl) (fun p e s m below meth c A E hr hlk hI ls hl => bX0_wipe E hr hlk hf hI hl)

def wX0_isLetter (p1 : Int32) (σ : St) (Q : Int32 → St → Prop) : Prop := ((p1 < 97 → Q 0 σ) ∧ (¬ p1 < 97 → ((122 < p1 → Q 0 σ) ∧ (¬ 122 < p1 → Q 1 σ))))
set_option maxRecDepth 100000 in
set_option maxHeartbeats 4000000 in
theorem bX0_isLetter {p : Program} {l : Launch} {e : Env} {s : State} {m : MethodId} {args : Array Value} {below : List Frame} {meth : Method} {c : Code} {H : Heap} {locs : List Loc} {ls : Array Slot} {D : va_G} {z : Nat → Nat} {A : Nat → Prop} {σ : St} {ad : Nat → Nat → Nat} {cy : Nat → ClassId} {Rr : va_W} {Q : Int32 → St → Prop} {p1 : Int32} (E : CallFix p m c cX0_isLetter 1 s args TB RX0) (hr : meth.sig.returnType = some .boolean) (hlk : meth.locks = false) (hf : wX0_isLetter p1 σ Q) (hI : In (D, tysC cy, SF z) (LC ad cy Rr σ) A s H locs) (hl : lv_has ls 1 [(0, .int p1)]) : W p l e (rmD 0) s m args below meth c H locs 0 0 (PI below args s (D, tysC cy, SF z) A (LC ad cy Rr) Q) (F0 m 0 ls []) := by
  have hx := E.1
  have hb := E.2.1
  unfold wX0_isLetter at hf
  refine lv_iload_n (pc := 0) hx hb dX0_isLetter_0 rfl (lv_at hl 0 rfl) ?_
  refine lv_bipush (v := 97) (pc := 1) hx hb dX0_isLetter_1 rfl ?_
  refine lv_icmp_lt (tgt := 16) (pc := 3) hx hb dX0_isLetter_3 (by decide) (fun c1 => ?_) (fun c1 => ?_)
  · have hf := hf.1 c1
    refine lv_iconst (v := 0) (pc := 16) hx hb dX0_isLetter_16 rfl ?_
    exact rZ (pc := 17) E hr hlk hI (Or.inl rfl) hf dX0_isLetter_17
  · have hf := hf.2 c1
    refine lv_iload_n (pc := 6) hx hb dX0_isLetter_6 rfl (lv_at hl 0 rfl) ?_
    refine lv_bipush (v := 122) (pc := 7) hx hb dX0_isLetter_7 rfl ?_
    refine lv_icmp_gt (tgt := 16) (pc := 9) hx hb dX0_isLetter_9 (by decide) (fun c2 => ?_) (fun c2 => ?_)
    · have hf := hf.1 c2
      refine lv_iconst (v := 0) (pc := 16) hx hb dX0_isLetter_16 rfl ?_
      exact rZ (pc := 17) E hr hlk hI (Or.inl rfl) hf dX0_isLetter_17
    · have hf := hf.2 c2
      refine lv_iconst (v := 1) (pc := 12) hx hb dX0_isLetter_12 rfl ?_
      refine lv_goto (tgt := 17) (pc := 13) hx hb dX0_isLetter_13 (by decide) ?_
      exact rZ (pc := 17) E hr hlk hI (Or.inr rfl) hf dX0_isLetter_17
theorem tX0_isLetter {l : Launch} {D : va_G} {z : Nat → Nat} {σ : St} {ad : Nat → Nat → Nat} {cy : Nat → ClassId} {Rr : va_W} {Q : Int32 → St → Prop} {p1 : Int32} (hf : wX0_isLetter p1 σ Q) : CtI l yX0_isLetter cX0_isLetter 1 .boolean 0 (D, tysC cy, SF z) (LC ad cy Rr) [.int p1] σ Q := mkI (by decide) (Nat.le_of_ble_eq_true rfl) (fun p e s m below meth c A E hr hlk hI ls hl => bX0_isLetter E hr hlk hf hI hl)

def wX0_isDigit (p1 : Int32) (σ : St) (Q : Int32 → St → Prop) : Prop := ((p1 < 48 → Q 0 σ) ∧ (¬ p1 < 48 → ((57 < p1 → Q 0 σ) ∧ (¬ 57 < p1 → Q 1 σ))))
set_option maxRecDepth 100000 in
set_option maxHeartbeats 4000000 in
theorem bX0_isDigit {p : Program} {l : Launch} {e : Env} {s : State} {m : MethodId} {args : Array Value} {below : List Frame} {meth : Method} {c : Code} {H : Heap} {locs : List Loc} {ls : Array Slot} {D : va_G} {z : Nat → Nat} {A : Nat → Prop} {σ : St} {ad : Nat → Nat → Nat} {cy : Nat → ClassId} {Rr : va_W} {Q : Int32 → St → Prop} {p1 : Int32} (E : CallFix p m c cX0_isDigit 1 s args TB RX0) (hr : meth.sig.returnType = some .boolean) (hlk : meth.locks = false) (hf : wX0_isDigit p1 σ Q) (hI : In (D, tysC cy, SF z) (LC ad cy Rr σ) A s H locs) (hl : lv_has ls 1 [(0, .int p1)]) : W p l e (rmD 0) s m args below meth c H locs 0 0 (PI below args s (D, tysC cy, SF z) A (LC ad cy Rr) Q) (F0 m 0 ls []) := by
  have hx := E.1
  have hb := E.2.1
  unfold wX0_isDigit at hf
  refine lv_iload_n (pc := 0) hx hb dX0_isDigit_0 rfl (lv_at hl 0 rfl) ?_
  refine lv_bipush (v := 48) (pc := 1) hx hb dX0_isDigit_1 rfl ?_
  refine lv_icmp_lt (tgt := 16) (pc := 3) hx hb dX0_isDigit_3 (by decide) (fun c1 => ?_) (fun c1 => ?_)
  · have hf := hf.1 c1
    refine lv_iconst (v := 0) (pc := 16) hx hb dX0_isDigit_16 rfl ?_
    exact rZ (pc := 17) E hr hlk hI (Or.inl rfl) hf dX0_isDigit_17
  · have hf := hf.2 c1
    refine lv_iload_n (pc := 6) hx hb dX0_isDigit_6 rfl (lv_at hl 0 rfl) ?_
    refine lv_bipush (v := 57) (pc := 7) hx hb dX0_isDigit_7 rfl ?_
    refine lv_icmp_gt (tgt := 16) (pc := 9) hx hb dX0_isDigit_9 (by decide) (fun c2 => ?_) (fun c2 => ?_)
    · have hf := hf.1 c2
      refine lv_iconst (v := 0) (pc := 16) hx hb dX0_isDigit_16 rfl ?_
      exact rZ (pc := 17) E hr hlk hI (Or.inl rfl) hf dX0_isDigit_17
    · have hf := hf.2 c2
      refine lv_iconst (v := 1) (pc := 12) hx hb dX0_isDigit_12 rfl ?_
      refine lv_goto (tgt := 17) (pc := 13) hx hb dX0_isDigit_13 (by decide) ?_
      exact rZ (pc := 17) E hr hlk hI (Or.inr rfl) hf dX0_isDigit_17
theorem tX0_isDigit {l : Launch} {D : va_G} {z : Nat → Nat} {σ : St} {ad : Nat → Nat → Nat} {cy : Nat → ClassId} {Rr : va_W} {Q : Int32 → St → Prop} {p1 : Int32} (hf : wX0_isDigit p1 σ Q) : CtI l yX0_isDigit cX0_isDigit 1 .boolean 0 (D, tysC cy, SF z) (LC ad cy Rr) [.int p1] σ Q := mkI (by decide) (Nat.le_of_ble_eq_true rfl) (fun p e s m below meth c A E hr hlk hI ls hl => bX0_isDigit E hr hlk hf hI hl)

def wX0_isSign (p1 : Int32) (σ : St) (Q : Int32 → St → Prop) : Prop := ((p1 = 40 → Q 1 σ) ∧ (¬ p1 = 40 → ((p1 = 41 → Q 1 σ) ∧ (¬ p1 = 41 → ((p1 = 59 → Q 1 σ) ∧ (¬ p1 = 59 → ((p1 = 43 → Q 1 σ) ∧ (¬ p1 = 43 → ((p1 = 45 → Q 1 σ) ∧ (¬ p1 = 45 → ((p1 = 42 → Q 1 σ) ∧ (¬ p1 = 42 → ((p1 = 60 → Q 1 σ) ∧ (¬ p1 = 60 → ((¬ p1 = 61 → Q 0 σ) ∧ (p1 = 61 → Q 1 σ))))))))))))))))
set_option maxRecDepth 100000 in
set_option maxHeartbeats 4000000 in
theorem bX0_isSign {p : Program} {l : Launch} {e : Env} {s : State} {m : MethodId} {args : Array Value} {below : List Frame} {meth : Method} {c : Code} {H : Heap} {locs : List Loc} {ls : Array Slot} {D : va_G} {z : Nat → Nat} {A : Nat → Prop} {σ : St} {ad : Nat → Nat → Nat} {cy : Nat → ClassId} {Rr : va_W} {Q : Int32 → St → Prop} {p1 : Int32} (E : CallFix p m c cX0_isSign 1 s args TB RX0) (hr : meth.sig.returnType = some .boolean) (hlk : meth.locks = false) (hf : wX0_isSign p1 σ Q) (hI : In (D, tysC cy, SF z) (LC ad cy Rr σ) A s H locs) (hl : lv_has ls 1 [(0, .int p1)]) : W p l e (rmD 0) s m args below meth c H locs 0 0 (PI below args s (D, tysC cy, SF z) A (LC ad cy Rr) Q) (F0 m 0 ls []) := by
  have hx := E.1
  have hb := E.2.1
  unfold wX0_isSign at hf
  refine lv_iload_n (pc := 0) hx hb dX0_isSign_0 rfl (lv_at hl 0 rfl) ?_
  refine lv_bipush (v := 40) (pc := 1) hx hb dX0_isSign_1 rfl ?_
  refine lv_icmp_eq (tgt := 48) (pc := 3) hx hb dX0_isSign_3 (by decide) (fun c1 => ?_) (fun c1 => ?_)
  · have hf := hf.1 c1
    refine lv_iconst (v := 1) (pc := 48) hx hb dX0_isSign_48 rfl ?_
    refine lv_goto (tgt := 53) (pc := 49) hx hb dX0_isSign_49 (by decide) ?_
    exact rZ (pc := 53) E hr hlk hI (Or.inr rfl) hf dX0_isSign_53
  · have hf := hf.2 c1
    refine lv_iload_n (pc := 6) hx hb dX0_isSign_6 rfl (lv_at hl 0 rfl) ?_
    refine lv_bipush (v := 41) (pc := 7) hx hb dX0_isSign_7 rfl ?_
    refine lv_icmp_eq (tgt := 48) (pc := 9) hx hb dX0_isSign_9 (by decide) (fun c2 => ?_) (fun c2 => ?_)
    · have hf := hf.1 c2
      refine lv_iconst (v := 1) (pc := 48) hx hb dX0_isSign_48 rfl ?_
      refine lv_goto (tgt := 53) (pc := 49) hx hb dX0_isSign_49 (by decide) ?_
      exact rZ (pc := 53) E hr hlk hI (Or.inr rfl) hf dX0_isSign_53
    · have hf := hf.2 c2
      refine lv_iload_n (pc := 12) hx hb dX0_isSign_12 rfl (lv_at hl 0 rfl) ?_
      refine lv_bipush (v := 59) (pc := 13) hx hb dX0_isSign_13 rfl ?_
      refine lv_icmp_eq (tgt := 48) (pc := 15) hx hb dX0_isSign_15 (by decide) (fun c3 => ?_) (fun c3 => ?_)
      · have hf := hf.1 c3
        refine lv_iconst (v := 1) (pc := 48) hx hb dX0_isSign_48 rfl ?_
        refine lv_goto (tgt := 53) (pc := 49) hx hb dX0_isSign_49 (by decide) ?_
        exact rZ (pc := 53) E hr hlk hI (Or.inr rfl) hf dX0_isSign_53
      · have hf := hf.2 c3
        refine lv_iload_n (pc := 18) hx hb dX0_isSign_18 rfl (lv_at hl 0 rfl) ?_
        refine lv_bipush (v := 43) (pc := 19) hx hb dX0_isSign_19 rfl ?_
        refine lv_icmp_eq (tgt := 48) (pc := 21) hx hb dX0_isSign_21 (by decide) (fun c4 => ?_) (fun c4 => ?_)
        · have hf := hf.1 c4
          refine lv_iconst (v := 1) (pc := 48) hx hb dX0_isSign_48 rfl ?_
          refine lv_goto (tgt := 53) (pc := 49) hx hb dX0_isSign_49 (by decide) ?_
          exact rZ (pc := 53) E hr hlk hI (Or.inr rfl) hf dX0_isSign_53
        · have hf := hf.2 c4
          refine lv_iload_n (pc := 24) hx hb dX0_isSign_24 rfl (lv_at hl 0 rfl) ?_
          refine lv_bipush (v := 45) (pc := 25) hx hb dX0_isSign_25 rfl ?_
          refine lv_icmp_eq (tgt := 48) (pc := 27) hx hb dX0_isSign_27 (by decide) (fun c5 => ?_) (fun c5 => ?_)
          · have hf := hf.1 c5
            refine lv_iconst (v := 1) (pc := 48) hx hb dX0_isSign_48 rfl ?_
            refine lv_goto (tgt := 53) (pc := 49) hx hb dX0_isSign_49 (by decide) ?_
            exact rZ (pc := 53) E hr hlk hI (Or.inr rfl) hf dX0_isSign_53
          · have hf := hf.2 c5
            refine lv_iload_n (pc := 30) hx hb dX0_isSign_30 rfl (lv_at hl 0 rfl) ?_
            refine lv_bipush (v := 42) (pc := 31) hx hb dX0_isSign_31 rfl ?_
            refine lv_icmp_eq (tgt := 48) (pc := 33) hx hb dX0_isSign_33 (by decide) (fun c6 => ?_) (fun c6 => ?_)
            · have hf := hf.1 c6
              refine lv_iconst (v := 1) (pc := 48) hx hb dX0_isSign_48 rfl ?_
              refine lv_goto (tgt := 53) (pc := 49) hx hb dX0_isSign_49 (by decide) ?_
              exact rZ (pc := 53) E hr hlk hI (Or.inr rfl) hf dX0_isSign_53
            · have hf := hf.2 c6
              refine lv_iload_n (pc := 36) hx hb dX0_isSign_36 rfl (lv_at hl 0 rfl) ?_
              refine lv_bipush (v := 60) (pc := 37) hx hb dX0_isSign_37 rfl ?_
              refine lv_icmp_eq (tgt := 48) (pc := 39) hx hb dX0_isSign_39 (by decide) (fun c7 => ?_) (fun c7 => ?_)
              · have hf := hf.1 c7
                refine lv_iconst (v := 1) (pc := 48) hx hb dX0_isSign_48 rfl ?_
                refine lv_goto (tgt := 53) (pc := 49) hx hb dX0_isSign_49 (by decide) ?_
                exact rZ (pc := 53) E hr hlk hI (Or.inr rfl) hf dX0_isSign_53
              · have hf := hf.2 c7
                refine lv_iload_n (pc := 42) hx hb dX0_isSign_42 rfl (lv_at hl 0 rfl) ?_
                refine lv_bipush (v := 61) (pc := 43) hx hb dX0_isSign_43 rfl ?_
                refine lv_icmp_ne (tgt := 52) (pc := 45) hx hb dX0_isSign_45 (by decide) (fun c8 => ?_) (fun c8 => ?_)
                · have hf := hf.1 c8
                  refine lv_iconst (v := 0) (pc := 52) hx hb dX0_isSign_52 rfl ?_
                  exact rZ (pc := 53) E hr hlk hI (Or.inl rfl) hf dX0_isSign_53
                · have hf := hf.2 c8
                  refine lv_iconst (v := 1) (pc := 48) hx hb dX0_isSign_48 rfl ?_
                  refine lv_goto (tgt := 53) (pc := 49) hx hb dX0_isSign_49 (by decide) ?_
                  exact rZ (pc := 53) E hr hlk hI (Or.inr rfl) hf dX0_isSign_53
theorem tX0_isSign {l : Launch} {D : va_G} {z : Nat → Nat} {σ : St} {ad : Nat → Nat → Nat} {cy : Nat → ClassId} {Rr : va_W} {Q : Int32 → St → Prop} {p1 : Int32} (hf : wX0_isSign p1 σ Q) : CtI l yX0_isSign cX0_isSign 1 .boolean 0 (D, tysC cy, SF z) (LC ad cy Rr) [.int p1] σ Q := mkI (by decide) (Nat.le_of_ble_eq_true rfl) (fun p e s m below meth c A E hr hlk hI ls hl => bX0_isSign E hr hlk hf hI hl)

def wX1_ofOne (p1 : Int32) (p2 : Int32) (σ : St) (Q : Int32 → St → Prop) : Prop := ((¬ p1 = (-11) → ((¬ p2 = 0 → Q 0 σ) ∧ (p2 = 0 → Q 1 σ))) ∧ (p1 = (-11) → Q (-p2) σ))
set_option maxRecDepth 100000 in
set_option maxHeartbeats 4000000 in
theorem bX1_ofOne {p : Program} {l : Launch} {e : Env} {s : State} {m : MethodId} {args : Array Value} {below : List Frame} {meth : Method} {c : Code} {H : Heap} {locs : List Loc} {ls : Array Slot} {D : va_G} {z : Nat → Nat} {A : Nat → Prop} {σ : St} {ad : Nat → Nat → Nat} {cy : Nat → ClassId} {Rr : va_W} {Q : Int32 → St → Prop} {p1 : Int32} {p2 : Int32} (E : CallFix p m c cX1_ofOne 2 s args TB RX1) (hr : meth.sig.returnType = some .int) (hlk : meth.locks = false) (hf : wX1_ofOne p1 p2 σ Q) (hI : In (D, tysC cy, SF z) (LC ad cy Rr σ) A s H locs) (hl : lv_has ls 2 [(0, .int p1), (1, .int p2)]) : W p l e (rmD 0) s m args below meth c H locs 0 0 (PI below args s (D, tysC cy, SF z) A (LC ad cy Rr) Q) (F0 m 0 ls []) := by
  have hx := E.1
  have hb := E.2.1
  unfold wX1_ofOne at hf
  refine lv_iload_n (pc := 0) hx hb dX1_ofOne_0 rfl (lv_at hl 0 rfl) ?_
  refine lv_bipush (v := (-11)) (pc := 1) hx hb dX1_ofOne_1 rfl ?_
  refine lv_icmp_ne (tgt := 9) (pc := 3) hx hb dX1_ofOne_3 (by decide) (fun c1 => ?_) (fun c1 => ?_)
  · have hf := hf.1 c1
    refine lv_iload_n (pc := 9) hx hb dX1_ofOne_9 rfl (lv_at hl 1 rfl) ?_
    refine lv_if_ne (tgt := 17) (pc := 10) hx hb dX1_ofOne_10 (by decide) (fun c2 => ?_) (fun c2 => ?_)
    · have hf := hf.1 c2
      refine lv_iconst (v := 0) (pc := 17) hx hb dX1_ofOne_17 rfl ?_
      exact rI (pc := 18) E hr hlk hI hf dX1_ofOne_18
    · have hf := hf.2 c2
      refine lv_iconst (v := 1) (pc := 13) hx hb dX1_ofOne_13 rfl ?_
      refine lv_goto (tgt := 18) (pc := 14) hx hb dX1_ofOne_14 (by decide) ?_
      exact rI (pc := 18) E hr hlk hI hf dX1_ofOne_18
  · have hf := hf.2 c1
    refine lv_iload_n (pc := 6) hx hb dX1_ofOne_6 rfl (lv_at hl 1 rfl) ?_
    refine lv_ineg (pc := 7) hx hb dX1_ofOne_7 ?_
    exact rI (pc := 8) E hr hlk hI hf dX1_ofOne_8
theorem tX1_ofOne {l : Launch} {D : va_G} {z : Nat → Nat} {σ : St} {ad : Nat → Nat → Nat} {cy : Nat → ClassId} {Rr : va_W} {Q : Int32 → St → Prop} {p1 : Int32} {p2 : Int32} (hf : wX1_ofOne p1 p2 σ Q) : CtI l yX1_ofOne cX1_ofOne 2 .int 0 (D, tysC cy, SF z) (LC ad cy Rr) [.int p1, .int p2] σ Q := mkI (by decide) (Nat.le_of_ble_eq_true rfl) (fun p e s m below meth c A E hr hlk hI ls hl => bX1_ofOne E hr hlk hf hI hl)

def wX1_ofTwo (p1 : Int32) (p2 : Int32) (p3 : Int32) (σ : St) (Q : Int32 → St → Prop) : Prop := ((p1 = (-27) → Q (p2 * p3) σ) ∧ (p1 = (-26) → Q (p2 - p3) σ) ∧ (p1 = (-25) → Q (p2 + p3) σ) ∧ (p1 = (-24) → ((¬ p2 = p3 → Q 0 σ) ∧ (p2 = p3 → Q 1 σ))) ∧ (p1 = (-23) → ((p3 ≤ p2 → Q 0 σ) ∧ (¬ p3 ≤ p2 → Q 1 σ))) ∧ (p1 = (-22) → ((p2 = 0 → Q 0 σ) ∧ (¬ p2 = 0 → ((p3 = 0 → Q 0 σ) ∧ (¬ p3 = 0 → Q 1 σ))))) ∧ (p1 = (-21) → ((¬ p2 = 0 → Q 1 σ) ∧ (p2 = 0 → ((p3 = 0 → Q 0 σ) ∧ (¬ p3 = 0 → Q 1 σ))))) ∧ (¬ p1 = (-27) → ¬ p1 = (-26) → ¬ p1 = (-25) → ¬ p1 = (-24) → ¬ p1 = (-23) → ¬ p1 = (-22) → ¬ p1 = (-21) → Q 0 σ))
set_option maxRecDepth 100000 in
set_option maxHeartbeats 4000000 in
theorem bX1_ofTwo {p : Program} {l : Launch} {e : Env} {s : State} {m : MethodId} {args : Array Value} {below : List Frame} {meth : Method} {c : Code} {H : Heap} {locs : List Loc} {ls : Array Slot} {D : va_G} {z : Nat → Nat} {A : Nat → Prop} {σ : St} {ad : Nat → Nat → Nat} {cy : Nat → ClassId} {Rr : va_W} {Q : Int32 → St → Prop} {p1 : Int32} {p2 : Int32} {p3 : Int32} (E : CallFix p m c cX1_ofTwo 3 s args TB RX1) (hr : meth.sig.returnType = some .int) (hlk : meth.locks = false) (hf : wX1_ofTwo p1 p2 p3 σ Q) (hI : In (D, tysC cy, SF z) (LC ad cy Rr σ) A s H locs) (hl : lv_has ls 3 [(0, .int p1), (1, .int p2), (2, .int p3)]) : W p l e (rmD 0) s m args below meth c H locs 0 0 (PI below args s (D, tysC cy, SF z) A (LC ad cy Rr) Q) (F0 m 0 ls []) := by
  have hx := E.1
  have hb := E.2.1
  unfold wX1_ofTwo at hf
  refine lv_iload_n (pc := 0) hx hb dX1_ofTwo_0 rfl (lv_at hl 0 rfl) ?_
  by_cases c1 : p1 = (-27)
  · refine lv_tableIn (tgt := 102) (pc := 1) hx hb dX1_ofTwo_1 (by rw [c1]; decide) (by rw [c1]; decide) (by rw [c1]; rfl) (by decide) ?_
    have hf := hf.1 c1
    refine lv_iload_n (pc := 102) hx hb dX1_ofTwo_102 rfl (lv_at hl 1 rfl) ?_
    refine lv_iload_n (pc := 103) hx hb dX1_ofTwo_103 rfl (lv_at hl 2 rfl) ?_
    refine lv_imul (pc := 104) hx hb dX1_ofTwo_104 ?_
    exact rI (pc := 105) E hr hlk hI hf dX1_ofTwo_105
  have hf := hf.2
  by_cases c2 : p1 = (-26)
  · refine lv_tableIn (tgt := 98) (pc := 1) hx hb dX1_ofTwo_1 (by rw [c2]; decide) (by rw [c2]; decide) (by rw [c2]; rfl) (by decide) ?_
    have hf := hf.1 c2
    refine lv_iload_n (pc := 98) hx hb dX1_ofTwo_98 rfl (lv_at hl 1 rfl) ?_
    refine lv_iload_n (pc := 99) hx hb dX1_ofTwo_99 rfl (lv_at hl 2 rfl) ?_
    refine lv_isub (pc := 100) hx hb dX1_ofTwo_100 ?_
    exact rI (pc := 101) E hr hlk hI hf dX1_ofTwo_101
  have hf := hf.2
  by_cases c3 : p1 = (-25)
  · refine lv_tableIn (tgt := 94) (pc := 1) hx hb dX1_ofTwo_1 (by rw [c3]; decide) (by rw [c3]; decide) (by rw [c3]; rfl) (by decide) ?_
    have hf := hf.1 c3
    refine lv_iload_n (pc := 94) hx hb dX1_ofTwo_94 rfl (lv_at hl 1 rfl) ?_
    refine lv_iload_n (pc := 95) hx hb dX1_ofTwo_95 rfl (lv_at hl 2 rfl) ?_
    refine lv_iadd (pc := 96) hx hb dX1_ofTwo_96 ?_
    exact rI (pc := 97) E hr hlk hI hf dX1_ofTwo_97
  have hf := hf.2
  by_cases c4 : p1 = (-24)
  · refine lv_tableIn (tgt := 83) (pc := 1) hx hb dX1_ofTwo_1 (by rw [c4]; decide) (by rw [c4]; decide) (by rw [c4]; rfl) (by decide) ?_
    have hf := hf.1 c4
    refine lv_iload_n (pc := 83) hx hb dX1_ofTwo_83 rfl (lv_at hl 1 rfl) ?_
    refine lv_iload_n (pc := 84) hx hb dX1_ofTwo_84 rfl (lv_at hl 2 rfl) ?_
    refine lv_icmp_ne (tgt := 92) (pc := 85) hx hb dX1_ofTwo_85 (by decide) (fun c5 => ?_) (fun c5 => ?_)
    · have hf := hf.1 c5
      refine lv_iconst (v := 0) (pc := 92) hx hb dX1_ofTwo_92 rfl ?_
      exact rI (pc := 93) E hr hlk hI hf dX1_ofTwo_93
    · have hf := hf.2 c5
      refine lv_iconst (v := 1) (pc := 88) hx hb dX1_ofTwo_88 rfl ?_
      refine lv_goto (tgt := 93) (pc := 89) hx hb dX1_ofTwo_89 (by decide) ?_
      exact rI (pc := 93) E hr hlk hI hf dX1_ofTwo_93
  have hf := hf.2
  by_cases c6 : p1 = (-23)
  · refine lv_tableIn (tgt := 72) (pc := 1) hx hb dX1_ofTwo_1 (by rw [c6]; decide) (by rw [c6]; decide) (by rw [c6]; rfl) (by decide) ?_
    have hf := hf.1 c6
    refine lv_iload_n (pc := 72) hx hb dX1_ofTwo_72 rfl (lv_at hl 1 rfl) ?_
    refine lv_iload_n (pc := 73) hx hb dX1_ofTwo_73 rfl (lv_at hl 2 rfl) ?_
    refine lv_icmp_ge (tgt := 81) (pc := 74) hx hb dX1_ofTwo_74 (by decide) (fun c7 => ?_) (fun c7 => ?_)
    · have hf := hf.1 c7
      refine lv_iconst (v := 0) (pc := 81) hx hb dX1_ofTwo_81 rfl ?_
      exact rI (pc := 82) E hr hlk hI hf dX1_ofTwo_82
    · have hf := hf.2 c7
      refine lv_iconst (v := 1) (pc := 77) hx hb dX1_ofTwo_77 rfl ?_
      refine lv_goto (tgt := 82) (pc := 78) hx hb dX1_ofTwo_78 (by decide) ?_
      exact rI (pc := 82) E hr hlk hI hf dX1_ofTwo_82
  have hf := hf.2
  by_cases c8 : p1 = (-22)
  · refine lv_tableIn (tgt := 58) (pc := 1) hx hb dX1_ofTwo_1 (by rw [c8]; decide) (by rw [c8]; decide) (by rw [c8]; rfl) (by decide) ?_
    have hf := hf.1 c8
    refine lv_iload_n (pc := 58) hx hb dX1_ofTwo_58 rfl (lv_at hl 1 rfl) ?_
    refine lv_if_eq (tgt := 70) (pc := 59) hx hb dX1_ofTwo_59 (by decide) (fun c9 => ?_) (fun c9 => ?_)
    · have hf := hf.1 c9
      refine lv_iconst (v := 0) (pc := 70) hx hb dX1_ofTwo_70 rfl ?_
      exact rI (pc := 71) E hr hlk hI hf dX1_ofTwo_71
    · have hf := hf.2 c9
      refine lv_iload_n (pc := 62) hx hb dX1_ofTwo_62 rfl (lv_at hl 2 rfl) ?_
      refine lv_if_eq (tgt := 70) (pc := 63) hx hb dX1_ofTwo_63 (by decide) (fun c10 => ?_) (fun c10 => ?_)
      · have hf := hf.1 c10
        refine lv_iconst (v := 0) (pc := 70) hx hb dX1_ofTwo_70 rfl ?_
        exact rI (pc := 71) E hr hlk hI hf dX1_ofTwo_71
      · have hf := hf.2 c10
        refine lv_iconst (v := 1) (pc := 66) hx hb dX1_ofTwo_66 rfl ?_
        refine lv_goto (tgt := 71) (pc := 67) hx hb dX1_ofTwo_67 (by decide) ?_
        exact rI (pc := 71) E hr hlk hI hf dX1_ofTwo_71
  have hf := hf.2
  by_cases c11 : p1 = (-21)
  · refine lv_tableIn (tgt := 44) (pc := 1) hx hb dX1_ofTwo_1 (by rw [c11]; decide) (by rw [c11]; decide) (by rw [c11]; rfl) (by decide) ?_
    have hf := hf.1 c11
    refine lv_iload_n (pc := 44) hx hb dX1_ofTwo_44 rfl (lv_at hl 1 rfl) ?_
    refine lv_if_ne (tgt := 52) (pc := 45) hx hb dX1_ofTwo_45 (by decide) (fun c12 => ?_) (fun c12 => ?_)
    · have hf := hf.1 c12
      refine lv_iconst (v := 1) (pc := 52) hx hb dX1_ofTwo_52 rfl ?_
      refine lv_goto (tgt := 57) (pc := 53) hx hb dX1_ofTwo_53 (by decide) ?_
      exact rI (pc := 57) E hr hlk hI hf dX1_ofTwo_57
    · have hf := hf.2 c12
      refine lv_iload_n (pc := 48) hx hb dX1_ofTwo_48 rfl (lv_at hl 2 rfl) ?_
      refine lv_if_eq (tgt := 56) (pc := 49) hx hb dX1_ofTwo_49 (by decide) (fun c13 => ?_) (fun c13 => ?_)
      · have hf := hf.1 c13
        refine lv_iconst (v := 0) (pc := 56) hx hb dX1_ofTwo_56 rfl ?_
        exact rI (pc := 57) E hr hlk hI hf dX1_ofTwo_57
      · have hf := hf.2 c13
        refine lv_iconst (v := 1) (pc := 52) hx hb dX1_ofTwo_52 rfl ?_
        refine lv_goto (tgt := 57) (pc := 53) hx hb dX1_ofTwo_53 (by decide) ?_
        exact rI (pc := 57) E hr hlk hI hf dX1_ofTwo_57
  have hf := hf.2
  have hf := hf c1 c2 c3 c4 c6 c8 c11
  refine lv_tableOut (tgt := 106) (pc := 1) hx hb dX1_ofTwo_1 (by have := neI (k := -27) c1 rfl; have := neI (k := -26) c2 rfl; have := neI (k := -25) c3 rfl; have := neI (k := -24) c4 rfl; have := neI (k := -23) c6 rfl; have := neI (k := -22) c8 rfl; have := neI (k := -21) c11 rfl; omega) (by decide) ?_
  refine lv_iconst (v := 0) (pc := 106) hx hb dX1_ofTwo_106 rfl ?_
  exact rI (pc := 107) E hr hlk hI hf dX1_ofTwo_107
theorem tX1_ofTwo {l : Launch} {D : va_G} {z : Nat → Nat} {σ : St} {ad : Nat → Nat → Nat} {cy : Nat → ClassId} {Rr : va_W} {Q : Int32 → St → Prop} {p1 : Int32} {p2 : Int32} {p3 : Int32} (hf : wX1_ofTwo p1 p2 p3 σ Q) : CtI l yX1_ofTwo cX1_ofTwo 3 .int 0 (D, tysC cy, SF z) (LC ad cy Rr) [.int p1, .int p2, .int p3] σ Q := mkI (by decide) (Nat.le_of_ble_eq_true rfl) (fun p e s m below meth c A E hr hlk hI ls hl => bX1_ofTwo E hr hlk hf hI hl)

def wX2_isMissing (o : Nat) (σ : St) (Q : Int32 → St → Prop) : Prop := ((¬ (gI σ o 2) = (-1) → Q 0 σ) ∧ ((gI σ o 2) = (-1) → Q 1 σ))
set_option maxRecDepth 100000 in
set_option maxHeartbeats 4000000 in
theorem bX2_isMissing {p : Program} {l : Launch} {e : Env} {s : State} {m : MethodId} {args : Array Value} {below : List Frame} {meth : Method} {c : Code} {H : Heap} {locs : List Loc} {ls : Array Slot} {D : va_G} {z : Nat → Nat} {A : Nat → Prop} {σ : St} {ad : Nat → Nat → Nat} {cy : Nat → ClassId} {Rr : va_W} {Q : Int32 → St → Prop} {o : Nat} (E : CallFix p m c cX2_isMissing 1 s args TB RX2) (hr : meth.sig.returnType = some .boolean) (hlk : meth.locks = false) (ho : kd o = 2) (hf : wX2_isMissing o σ Q) (hI : In (D, tysC cy, SF z) (LC ad cy Rr σ) A s H locs) (hl : lv_has ls 1 [(0, .ref (ad o 99))]) : W p l e (rmD 0) s m args below meth c H locs 0 0 (PI below args s (D, tysC cy, SF z) A (LC ad cy Rr) Q) (F0 m 0 ls []) := by
  have hx := E.1
  have hb := E.2.1
  unfold wX2_isMissing at hf
  refine lv_aload_n (pc := 0) hx hb dX2_isMissing_0 rfl (lv_at hl 0 rfl) ?_
  refine g2_2 (pc := 1) E hI ho lkX2_19 dX2_isMissing_1 ?_
  refine lv_iconst (v := (-1)) (pc := 4) hx hb dX2_isMissing_4 rfl ?_
  refine lv_icmp_ne (tgt := 12) (pc := 5) hx hb dX2_isMissing_5 (by decide) (fun c1 => ?_) (fun c1 => ?_)
  · have hf := hf.1 c1
    refine lv_iconst (v := 0) (pc := 12) hx hb dX2_isMissing_12 rfl ?_
    exact rZ (pc := 13) E hr hlk hI (Or.inl rfl) hf dX2_isMissing_13
  · have hf := hf.2 c1
    refine lv_iconst (v := 1) (pc := 8) hx hb dX2_isMissing_8 rfl ?_
    refine lv_goto (tgt := 13) (pc := 9) hx hb dX2_isMissing_9 (by decide) ?_
    exact rZ (pc := 13) E hr hlk hI (Or.inr rfl) hf dX2_isMissing_13
theorem tX2_isMissing {l : Launch} {D : va_G} {z : Nat → Nat} {σ : St} {ad : Nat → Nat → Nat} {cy : Nat → ClassId} {Rr : va_W} {Q : Int32 → St → Prop} {o : Nat} (ho : kd o = 2) (hf : wX2_isMissing o σ Q) : CtI l yX2_isMissing cX2_isMissing 1 .boolean 0 (D, tysC cy, SF z) (LC ad cy Rr) [.ref (ad o 99)] σ Q := mkI (by decide) (Nat.le_of_ble_eq_true rfl) (fun p e s m below meth c A E hr hlk hI ls hl => bX2_isMissing E hr hlk ho hf hI hl)

def wX2_become_l12s (ih : Nat → Int32 → St → Prop) (q0 : Nat) (a3 : Int32) (σ : St) (Q : St → Prop) : Prop := ((40 ≤ a3 → Q σ) ∧ (¬ 40 ≤ a3 → vp_in a3 40 ∧ ∀ σ5 : St, σ5 = sA σ q0 0 a3.toNatClampNeg 0 → ∀ x6 : Int32, x6 = a3 + 1 → (ih q0 x6 σ5)))
def wX2_become_l12 (n : Nat) : Nat → Int32 → St → (St → Prop) → Prop := @Nat.rec (fun _ => Nat → Int32 → St → (St → Prop) → Prop) (fun _ _ _ _ => False) (fun _ ih q0 a3 σ Q => wX2_become_l12s (fun q0 a3 σ => ih q0 a3 σ Q) q0 a3 σ Q) n
set_option maxRecDepth 100000 in
set_option maxHeartbeats 4000000 in
theorem bX2_become_12 {p : Program} {l : Launch} {e : Env} {s : State} {m : MethodId} {args : Array Value} {below : List Frame} {meth : Method} {c : Code} {D : va_G} {z : Nat → Nat} {A : Nat → Prop} {ad : Nat → Nat → Nat} {cy : Nat → ClassId} {Rr : va_W} {Q : St → Prop} (E : CallFix p m c cX2_become 4 s args TB RX2) (hr : meth.sig.returnType = none) (hlk : meth.locks = false) : ∀ (n : Nat) {q0 : Nat} {a3 : Int32} (hq0 : kd q0 = 2) {σ : St} {H : Heap} {locs : List Loc} {ls : Array Slot}, wX2_become_l12 n q0 a3 σ Q → In (D, tysC cy, SF z) (LC ad cy Rr σ) A s H locs → lv_has ls 4 [(0, .ref (ad q0 99)), (3, .int a3)] → W p l e (rmD 0) s m args below meth c H locs 0 0 (PV below args s (D, tysC cy, SF z) A (LC ad cy Rr) Q) (F0 m 12 ls []) := by
  have hx := E.1
  have hb := E.2.1
  intro n
  induction n with
  | zero => intro q0 a3 hq0 σ H locs ls hf hI hl; exact False.elim hf
  | succ n ih =>
    intro q0 a3 hq0 σ H locs ls hf hI hl
    have hf : wX2_become_l12s (fun q0 a3 σ => wX2_become_l12 n q0 a3 σ Q) q0 a3 σ Q := hf
    unfold wX2_become_l12s at hf
    refine lv_iload_n (pc := 12) hx hb dX2_become_12 rfl (lv_at hl 1 rfl) ?_
    refine lv_bipush (v := 40) (pc := 13) hx hb dX2_become_13 rfl ?_
    refine lv_icmp_ge (tgt := 31) (pc := 15) hx hb dX2_become_15 (by decide) (fun c3 => ?_) (fun c3 => ?_)
    · have hf := hf.1 c3
      exact rV (pc := 31) E hr hlk hI hf dX2_become_31
    · have hf := hf.2 c3
      refine lv_aload_n (pc := 18) hx hb dX2_become_18 rfl (lv_at hl 0 rfl) ?_
      refine g2_0 (pc := 19) E hI hq0 lkX2_9 dX2_become_19 ?_
      refine lv_iload_n (pc := 22) hx hb dX2_become_22 rfl (lv_at hl 1 rfl) ?_
      refine lv_iconst (v := 0) (pc := 23) hx hb dX2_become_23 rfl ?_
      have g4 := hf.1
      have hf := hf.2
      refine s2_0 (pc := 24) E hI hq0 g4 dX2_become_24 (fun H locs σ5 eσ5 hI => ?_)
      have hf := hf σ5 eσ5
      obtain ⟨x6, ex6⟩ : ∃ y : Int32, y = a3 + 1 := ⟨_, rfl⟩
      have hf := hf x6 ex6
      refine lv_iinc (v := x6) (lv' := [(3, .int x6), (0, .ref (ad q0 99))]) (pc := 25) hx hb dX2_become_25 hl (k := 1) rfl (by rw [ex6]; rfl) (by decide) rfl (fun ls hl => ?_)
      refine lv_goto (tgt := 12) (pc := 28) hx hb dX2_become_28 (by decide) ?_
      exact ih hq0 hf hI (lv_sub hl [1, 0] rfl)
def wX2_become (o : Nat) (p1 : Int32) (p2 : Int32) (σ : St) (Q : St → Prop) : Prop := ∀ σ1 : St, σ1 = sI σ o 2 p1 → ∀ σ2 : St, σ2 = sI σ1 o 1 p2 → ∃ n7 : Nat, wX2_become_l12 n7 o 0 σ2 Q
set_option maxRecDepth 100000 in
set_option maxHeartbeats 4000000 in
theorem bX2_become {p : Program} {l : Launch} {e : Env} {s : State} {m : MethodId} {args : Array Value} {below : List Frame} {meth : Method} {c : Code} {H : Heap} {locs : List Loc} {ls : Array Slot} {D : va_G} {z : Nat → Nat} {A : Nat → Prop} {σ : St} {ad : Nat → Nat → Nat} {cy : Nat → ClassId} {Rr : va_W} {Q : St → Prop} {o : Nat} {p1 : Int32} {p2 : Int32} (E : CallFix p m c cX2_become 4 s args TB RX2) (hr : meth.sig.returnType = none) (hlk : meth.locks = false) (ho : kd o = 2) (hf : wX2_become o p1 p2 σ Q) (hI : In (D, tysC cy, SF z) (LC ad cy Rr σ) A s H locs) (hl : lv_has ls 4 [(0, .ref (ad o 99)), (1, .int p1), (2, .int p2)]) : W p l e (rmD 0) s m args below meth c H locs 0 0 (PV below args s (D, tysC cy, SF z) A (LC ad cy Rr) Q) (F0 m 0 ls []) := by
  have hx := E.1
  have hb := E.2.1
  unfold wX2_become at hf
  refine lv_aload_n (pc := 0) hx hb dX2_become_0 rfl (lv_at hl 0 rfl) ?_
  refine lv_iload_n (pc := 1) hx hb dX2_become_1 rfl (lv_at hl 1 rfl) ?_
  refine p2_2 (pc := 2) E hI ho lkX2_19 dX2_become_2 (fun H locs σ1 eσ1 hI => ?_)
  have hf := hf σ1 eσ1
  refine lv_aload_n (pc := 5) hx hb dX2_become_5 rfl (lv_at hl 0 rfl) ?_
  refine lv_iload_n (pc := 6) hx hb dX2_become_6 rfl (lv_at hl 2 rfl) ?_
  refine p2_1 (pc := 7) E hI ho lkX2_15 dX2_become_7 (fun H locs σ2 eσ2 hI => ?_)
  have hf := hf σ2 eσ2
  refine lv_iconst (v := 0) (pc := 10) hx hb dX2_become_10 rfl ?_
  refine lv_istore_n (lv' := [(3, .int 0), (0, .ref (ad o 99)), (1, .int p1), (2, .int p2)]) (pc := 11) hx hb dX2_become_11 rfl hl (by decide) rfl (fun ls hl => ?_)
  obtain ⟨n7, hf⟩ := hf
  exact bX2_become_12 E hr hlk n7 ho hf hI (lv_sub hl [1, 0] rfl)
theorem tX2_become {l : Launch} {D : va_G} {z : Nat → Nat} {σ : St} {ad : Nat → Nat → Nat} {cy : Nat → ClassId} {Rr : va_W} {Q : St → Prop} {o : Nat} {p1 : Int32} {p2 : Int32} (ho : kd o = 2) (hf : wX2_become o p1 p2 σ Q) : CtV l yX2_become cX2_become 4 0 (D, tysC cy, SF z) (LC ad cy Rr) [.ref (ad o 99), .int p1, .int p2] σ Q := mkV (by decide) (Nat.le_of_ble_eq_true rfl) (fun p e s m below meth c A E hr hlk hI ls hl => bX2_become E hr hlk ho hf hI hl)

def wX2_put (o : Nat) (p1 : Int32) (p2 : Int32) (σ : St) (Q : St → Prop) : Prop := ((¬ (gI σ o 2) = 0 → ((¬ (gI σ o 2) = 1 → vp_in p1 40 ∧ ∀ σ4 : St, σ4 = sA σ o 0 p1.toNatClampNeg p2 → Q σ4) ∧ ((gI σ o 2) = 1 → vp_in p1 40 ∧ ∀ σ6 : St, σ6 = sA σ o 0 p1.toNatClampNeg ((p2).toInt16.toInt32) → Q σ6))) ∧ ((gI σ o 2) = 0 → vp_in p1 40 ∧ ∀ σ8 : St, σ8 = sA σ o 0 p1.toNatClampNeg ((p2).toInt8.toInt32) → Q σ8))
set_option maxRecDepth 100000 in
set_option maxHeartbeats 4000000 in
theorem bX2_put {p : Program} {l : Launch} {e : Env} {s : State} {m : MethodId} {args : Array Value} {below : List Frame} {meth : Method} {c : Code} {H : Heap} {locs : List Loc} {ls : Array Slot} {D : va_G} {z : Nat → Nat} {A : Nat → Prop} {σ : St} {ad : Nat → Nat → Nat} {cy : Nat → ClassId} {Rr : va_W} {Q : St → Prop} {o : Nat} {p1 : Int32} {p2 : Int32} (E : CallFix p m c cX2_put 3 s args TB RX2) (hr : meth.sig.returnType = none) (hlk : meth.locks = false) (ho : kd o = 2) (hf : wX2_put o p1 p2 σ Q) (hI : In (D, tysC cy, SF z) (LC ad cy Rr σ) A s H locs) (hl : lv_has ls 3 [(0, .ref (ad o 99)), (1, .int p1), (2, .int p2)]) : W p l e (rmD 0) s m args below meth c H locs 0 0 (PV below args s (D, tysC cy, SF z) A (LC ad cy Rr) Q) (F0 m 0 ls []) := by
  have hx := E.1
  have hb := E.2.1
  unfold wX2_put at hf
  refine lv_aload_n (pc := 0) hx hb dX2_put_0 rfl (lv_at hl 0 rfl) ?_
  refine g2_2 (pc := 1) E hI ho lkX2_19 dX2_put_1 ?_
  refine lv_if_ne (tgt := 18) (pc := 4) hx hb dX2_put_4 (by decide) (fun c1 => ?_) (fun c1 => ?_)
  · have hf := hf.1 c1
    refine lv_aload_n (pc := 18) hx hb dX2_put_18 rfl (lv_at hl 0 rfl) ?_
    refine g2_2 (pc := 19) E hI ho lkX2_19 dX2_put_19 ?_
    refine lv_iconst (v := 1) (pc := 22) hx hb dX2_put_22 rfl ?_
    refine lv_icmp_ne (tgt := 37) (pc := 23) hx hb dX2_put_23 (by decide) (fun c2 => ?_) (fun c2 => ?_)
    · have hf := hf.1 c2
      refine lv_aload_n (pc := 37) hx hb dX2_put_37 rfl (lv_at hl 0 rfl) ?_
      refine g2_0 (pc := 38) E hI ho lkX2_9 dX2_put_38 ?_
      refine lv_iload_n (pc := 41) hx hb dX2_put_41 rfl (lv_at hl 1 rfl) ?_
      refine lv_iload_n (pc := 42) hx hb dX2_put_42 rfl (lv_at hl 2 rfl) ?_
      have g3 := hf.1
      have hf := hf.2
      refine s2_0 (pc := 43) E hI ho g3 dX2_put_43 (fun H locs σ4 eσ4 hI => ?_)
      have hf := hf σ4 eσ4
      exact rV (pc := 44) E hr hlk hI hf dX2_put_44
    · have hf := hf.2 c2
      refine lv_aload_n (pc := 26) hx hb dX2_put_26 rfl (lv_at hl 0 rfl) ?_
      refine g2_0 (pc := 27) E hI ho lkX2_9 dX2_put_27 ?_
      refine lv_iload_n (pc := 30) hx hb dX2_put_30 rfl (lv_at hl 1 rfl) ?_
      refine lv_iload_n (pc := 31) hx hb dX2_put_31 rfl (lv_at hl 2 rfl) ?_
      refine lv_i2s (v := ((p2).toInt16.toInt32)) (pc := 32) hx hb dX2_put_32 rfl ?_
      have g5 := hf.1
      have hf := hf.2
      refine s2_0 (pc := 33) E hI ho g5 dX2_put_33 (fun H locs σ6 eσ6 hI => ?_)
      have hf := hf σ6 eσ6
      refine lv_goto (tgt := 44) (pc := 34) hx hb dX2_put_34 (by decide) ?_
      exact rV (pc := 44) E hr hlk hI hf dX2_put_44
  · have hf := hf.2 c1
    refine lv_aload_n (pc := 7) hx hb dX2_put_7 rfl (lv_at hl 0 rfl) ?_
    refine g2_0 (pc := 8) E hI ho lkX2_9 dX2_put_8 ?_
    refine lv_iload_n (pc := 11) hx hb dX2_put_11 rfl (lv_at hl 1 rfl) ?_
    refine lv_iload_n (pc := 12) hx hb dX2_put_12 rfl (lv_at hl 2 rfl) ?_
    refine lv_i2b (v := ((p2).toInt8.toInt32)) (pc := 13) hx hb dX2_put_13 rfl ?_
    have g7 := hf.1
    have hf := hf.2
    refine s2_0 (pc := 14) E hI ho g7 dX2_put_14 (fun H locs σ8 eσ8 hI => ?_)
    have hf := hf σ8 eσ8
    refine lv_goto (tgt := 44) (pc := 15) hx hb dX2_put_15 (by decide) ?_
    exact rV (pc := 44) E hr hlk hI hf dX2_put_44
theorem tX2_put {l : Launch} {D : va_G} {z : Nat → Nat} {σ : St} {ad : Nat → Nat → Nat} {cy : Nat → ClassId} {Rr : va_W} {Q : St → Prop} {o : Nat} {p1 : Int32} {p2 : Int32} (ho : kd o = 2) (hf : wX2_put o p1 p2 σ Q) : CtV l yX2_put cX2_put 3 0 (D, tysC cy, SF z) (LC ad cy Rr) [.ref (ad o 99), .int p1, .int p2] σ Q := mkV (by decide) (Nat.le_of_ble_eq_true rfl) (fun p e s m below meth c A E hr hlk hI ls hl => bX2_put E hr hlk ho hf hI hl)

def wX2_hasRow (o : Nat) (p1 : Int32) (p2 : Int32) (σ : St) (Q : Int32 → St → Prop) : Prop := ((p1 < 0 → Q 0 σ) ∧ (¬ p1 < 0 → ((p2 < 0 → Q 0 σ) ∧ (¬ p2 < 0 → (((gI σ o 1) < p2 → Q 0 σ) ∧ (¬ (gI σ o 1) < p2 → ((((gI σ o 1) - p2) < p1 → Q 0 σ) ∧ (¬ ((gI σ o 1) - p2) < p1 → Q 1 σ))))))))
set_option maxRecDepth 100000 in
set_option maxHeartbeats 4000000 in
theorem bX2_hasRow {p : Program} {l : Launch} {e : Env} {s : State} {m : MethodId} {args : Array Value} {below : List Frame} {meth : Method} {c : Code} {H : Heap} {locs : List Loc} {ls : Array Slot} {D : va_G} {z : Nat → Nat} {A : Nat → Prop} {σ : St} {ad : Nat → Nat → Nat} {cy : Nat → ClassId} {Rr : va_W} {Q : Int32 → St → Prop} {o : Nat} {p1 : Int32} {p2 : Int32} (E : CallFix p m c cX2_hasRow 3 s args TB RX2) (hr : meth.sig.returnType = some .boolean) (hlk : meth.locks = false) (ho : kd o = 2) (hf : wX2_hasRow o p1 p2 σ Q) (hI : In (D, tysC cy, SF z) (LC ad cy Rr σ) A s H locs) (hl : lv_has ls 3 [(0, .ref (ad o 99)), (1, .int p1), (2, .int p2)]) : W p l e (rmD 0) s m args below meth c H locs 0 0 (PI below args s (D, tysC cy, SF z) A (LC ad cy Rr) Q) (F0 m 0 ls []) := by
  have hx := E.1
  have hb := E.2.1
  unfold wX2_hasRow at hf
  refine lv_iload_n (pc := 0) hx hb dX2_hasRow_0 rfl (lv_at hl 1 rfl) ?_
  refine lv_if_lt (tgt := 30) (pc := 1) hx hb dX2_hasRow_1 (by decide) (fun c1 => ?_) (fun c1 => ?_)
  · have hf := hf.1 c1
    refine lv_iconst (v := 0) (pc := 30) hx hb dX2_hasRow_30 rfl ?_
    exact rZ (pc := 31) E hr hlk hI (Or.inl rfl) hf dX2_hasRow_31
  · have hf := hf.2 c1
    refine lv_iload_n (pc := 4) hx hb dX2_hasRow_4 rfl (lv_at hl 2 rfl) ?_
    refine lv_if_lt (tgt := 30) (pc := 5) hx hb dX2_hasRow_5 (by decide) (fun c2 => ?_) (fun c2 => ?_)
    · have hf := hf.1 c2
      refine lv_iconst (v := 0) (pc := 30) hx hb dX2_hasRow_30 rfl ?_
      exact rZ (pc := 31) E hr hlk hI (Or.inl rfl) hf dX2_hasRow_31
    · have hf := hf.2 c2
      refine lv_iload_n (pc := 8) hx hb dX2_hasRow_8 rfl (lv_at hl 2 rfl) ?_
      refine lv_aload_n (pc := 9) hx hb dX2_hasRow_9 rfl (lv_at hl 0 rfl) ?_
      refine g2_1 (pc := 10) E hI ho lkX2_15 dX2_hasRow_10 ?_
      refine lv_icmp_gt (tgt := 30) (pc := 13) hx hb dX2_hasRow_13 (by decide) (fun c3 => ?_) (fun c3 => ?_)
      · have hf := hf.1 c3
        refine lv_iconst (v := 0) (pc := 30) hx hb dX2_hasRow_30 rfl ?_
        exact rZ (pc := 31) E hr hlk hI (Or.inl rfl) hf dX2_hasRow_31
      · have hf := hf.2 c3
        refine lv_iload_n (pc := 16) hx hb dX2_hasRow_16 rfl (lv_at hl 1 rfl) ?_
        refine lv_aload_n (pc := 17) hx hb dX2_hasRow_17 rfl (lv_at hl 0 rfl) ?_
        refine g2_1 (pc := 18) E hI ho lkX2_15 dX2_hasRow_18 ?_
        refine lv_iload_n (pc := 21) hx hb dX2_hasRow_21 rfl (lv_at hl 2 rfl) ?_
        refine lv_isub (pc := 22) hx hb dX2_hasRow_22 ?_
        refine lv_icmp_gt (tgt := 30) (pc := 23) hx hb dX2_hasRow_23 (by decide) (fun c4 => ?_) (fun c4 => ?_)
        · have hf := hf.1 c4
          refine lv_iconst (v := 0) (pc := 30) hx hb dX2_hasRow_30 rfl ?_
          exact rZ (pc := 31) E hr hlk hI (Or.inl rfl) hf dX2_hasRow_31
        · have hf := hf.2 c4
          refine lv_iconst (v := 1) (pc := 26) hx hb dX2_hasRow_26 rfl ?_
          refine lv_goto (tgt := 31) (pc := 27) hx hb dX2_hasRow_27 (by decide) ?_
          exact rZ (pc := 31) E hr hlk hI (Or.inr rfl) hf dX2_hasRow_31
theorem tX2_hasRow {l : Launch} {D : va_G} {z : Nat → Nat} {σ : St} {ad : Nat → Nat → Nat} {cy : Nat → ClassId} {Rr : va_W} {Q : Int32 → St → Prop} {o : Nat} {p1 : Int32} {p2 : Int32} (ho : kd o = 2) (hf : wX2_hasRow o p1 p2 σ Q) : CtI l yX2_hasRow cX2_hasRow 3 .boolean 0 (D, tysC cy, SF z) (LC ad cy Rr) [.ref (ad o 99), .int p1, .int p2] σ Q := mkI (by decide) (Nat.le_of_ble_eq_true rfl) (fun p e s m below meth c A E hr hlk hI ls hl => bX2_hasRow E hr hlk ho hf hI hl)

def wX3_clear (o : Nat) (σ : St) (Q : St → Prop) : Prop := ∀ σ1 : St, σ1 = sI σ o 2 0 → Q σ1
set_option maxRecDepth 100000 in
set_option maxHeartbeats 4000000 in
theorem bX3_clear {p : Program} {l : Launch} {e : Env} {s : State} {m : MethodId} {args : Array Value} {below : List Frame} {meth : Method} {c : Code} {H : Heap} {locs : List Loc} {ls : Array Slot} {D : va_G} {z : Nat → Nat} {A : Nat → Prop} {σ : St} {ad : Nat → Nat → Nat} {cy : Nat → ClassId} {Rr : va_W} {Q : St → Prop} {o : Nat} (E : CallFix p m c cX3_clear 1 s args TB RX3) (hr : meth.sig.returnType = none) (hlk : meth.locks = false) (ho : kd o = 3) (hf : wX3_clear o σ Q) (hI : In (D, tysC cy, SF z) (LC ad cy Rr σ) A s H locs) (hl : lv_has ls 1 [(0, .ref (ad o 99))]) : W p l e (rmD 0) s m args below meth c H locs 0 0 (PV below args s (D, tysC cy, SF z) A (LC ad cy Rr) Q) (F0 m 0 ls []) := by
  have hx := E.1
  have hb := E.2.1
  unfold wX3_clear at hf
  refine lv_aload_n (pc := 0) hx hb dX3_clear_0 rfl (lv_at hl 0 rfl) ?_
  refine lv_iconst (v := 0) (pc := 1) hx hb dX3_clear_1 rfl ?_
  refine p3_2 (pc := 2) E hI ho lkX3_18 dX3_clear_2 (fun H locs σ1 eσ1 hI => ?_)
  have hf := hf σ1 eσ1
  exact rV (pc := 5) E hr hlk hI hf dX3_clear_5
theorem tX3_clear {l : Launch} {D : va_G} {z : Nat → Nat} {σ : St} {ad : Nat → Nat → Nat} {cy : Nat → ClassId} {Rr : va_W} {Q : St → Prop} {o : Nat} (ho : kd o = 3) (hf : wX3_clear o σ Q) : CtV l yX3_clear cX3_clear 1 0 (D, tysC cy, SF z) (LC ad cy Rr) [.ref (ad o 99)] σ Q := mkV (by decide) (Nat.le_of_ble_eq_true rfl) (fun p e s m below meth c A E hr hlk hI ls hl => bX3_clear E hr hlk ho hf hI hl)

def wX3_add (o : Nat) (p1 : Int32) (σ : St) (Q : St → Prop) : Prop := ((160 ≤ (gI σ o 2) → Q σ) ∧ (¬ 160 ≤ (gI σ o 2) → vp_in (gI σ o 2) 160 ∧ ∀ σ3 : St, σ3 = sA σ o 0 (gI σ o 2).toNatClampNeg p1 → ∀ σ4 : St, σ4 = sI σ3 o 2 ((gI σ3 o 2) + 1) → Q σ4))
set_option maxRecDepth 100000 in
set_option maxHeartbeats 4000000 in
theorem bX3_add {p : Program} {l : Launch} {e : Env} {s : State} {m : MethodId} {args : Array Value} {below : List Frame} {meth : Method} {c : Code} {H : Heap} {locs : List Loc} {ls : Array Slot} {D : va_G} {z : Nat → Nat} {A : Nat → Prop} {σ : St} {ad : Nat → Nat → Nat} {cy : Nat → ClassId} {Rr : va_W} {Q : St → Prop} {o : Nat} {p1 : Int32} (E : CallFix p m c cX3_add 2 s args TB RX3) (hr : meth.sig.returnType = none) (hlk : meth.locks = false) (ho : kd o = 3) (hf : wX3_add o p1 σ Q) (hI : In (D, tysC cy, SF z) (LC ad cy Rr σ) A s H locs) (hl : lv_has ls 2 [(0, .ref (ad o 99)), (1, .int p1)]) : W p l e (rmD 0) s m args below meth c H locs 0 0 (PV below args s (D, tysC cy, SF z) A (LC ad cy Rr) Q) (F0 m 0 ls []) := by
  have hx := E.1
  have hb := E.2.1
  unfold wX3_add at hf
  refine lv_aload_n (pc := 0) hx hb dX3_add_0 rfl (lv_at hl 0 rfl) ?_
  refine g3_2 (pc := 1) E hI ho lkX3_18 dX3_add_1 ?_
  refine lv_aload_n (pc := 4) hx hb dX3_add_4 rfl (lv_at hl 0 rfl) ?_
  refine g3_0 (pc := 5) E hI ho lkX3_9 dX3_add_5 ?_
  refine n3_0 (pc := 8) E hI ho dX3_add_8 ?_
  refine lv_icmp_ge (tgt := 32) (pc := 9) hx hb dX3_add_9 (by decide) (fun c1 => ?_) (fun c1 => ?_)
  · have hf := hf.1 c1
    exact rV (pc := 32) E hr hlk hI hf dX3_add_32
  · have hf := hf.2 c1
    refine lv_aload_n (pc := 12) hx hb dX3_add_12 rfl (lv_at hl 0 rfl) ?_
    refine g3_0 (pc := 13) E hI ho lkX3_9 dX3_add_13 ?_
    refine lv_aload_n (pc := 16) hx hb dX3_add_16 rfl (lv_at hl 0 rfl) ?_
    refine g3_2 (pc := 17) E hI ho lkX3_18 dX3_add_17 ?_
    refine lv_iload_n (pc := 20) hx hb dX3_add_20 rfl (lv_at hl 1 rfl) ?_
    have g2 := hf.1
    have hf := hf.2
    refine s3_0 (pc := 21) E hI ho g2 dX3_add_21 (fun H locs σ3 eσ3 hI => ?_)
    have hf := hf σ3 eσ3
    refine lv_aload_n (pc := 22) hx hb dX3_add_22 rfl (lv_at hl 0 rfl) ?_
    refine lv_dup (pc := 23) hx hb dX3_add_23 rfl ?_
    refine g3_2 (pc := 24) E hI ho lkX3_18 dX3_add_24 ?_
    refine lv_iconst (v := 1) (pc := 27) hx hb dX3_add_27 rfl ?_
    refine lv_iadd (pc := 28) hx hb dX3_add_28 ?_
    refine p3_2 (pc := 29) E hI ho lkX3_18 dX3_add_29 (fun H locs σ4 eσ4 hI => ?_)
    have hf := hf σ4 eσ4
    exact rV (pc := 32) E hr hlk hI hf dX3_add_32
theorem tX3_add {l : Launch} {D : va_G} {z : Nat → Nat} {σ : St} {ad : Nat → Nat → Nat} {cy : Nat → ClassId} {Rr : va_W} {Q : St → Prop} {o : Nat} {p1 : Int32} (ho : kd o = 3) (hf : wX3_add o p1 σ Q) : CtV l yX3_add cX3_add 2 0 (D, tysC cy, SF z) (LC ad cy Rr) [.ref (ad o 99), .int p1] σ Q := mkV (by decide) (Nat.le_of_ble_eq_true rfl) (fun p e s m below meth c A E hr hlk hI ls hl => bX3_add E hr hlk ho hf hI hl)

def wX3_endPart (o : Nat) (p1 : Int32) (σ : St) (Q : St → Prop) : Prop := vp_in p1 3 ∧ ∀ σ2 : St, σ2 = sA σ o 1 p1.toNatClampNeg (gI σ o 2) → Q σ2
set_option maxRecDepth 100000 in
set_option maxHeartbeats 4000000 in
theorem bX3_endPart {p : Program} {l : Launch} {e : Env} {s : State} {m : MethodId} {args : Array Value} {below : List Frame} {meth : Method} {c : Code} {H : Heap} {locs : List Loc} {ls : Array Slot} {D : va_G} {z : Nat → Nat} {A : Nat → Prop} {σ : St} {ad : Nat → Nat → Nat} {cy : Nat → ClassId} {Rr : va_W} {Q : St → Prop} {o : Nat} {p1 : Int32} (E : CallFix p m c cX3_endPart 2 s args TB RX3) (hr : meth.sig.returnType = none) (hlk : meth.locks = false) (ho : kd o = 3) (hf : wX3_endPart o p1 σ Q) (hI : In (D, tysC cy, SF z) (LC ad cy Rr σ) A s H locs) (hl : lv_has ls 2 [(0, .ref (ad o 99)), (1, .int p1)]) : W p l e (rmD 0) s m args below meth c H locs 0 0 (PV below args s (D, tysC cy, SF z) A (LC ad cy Rr) Q) (F0 m 0 ls []) := by
  have hx := E.1
  have hb := E.2.1
  unfold wX3_endPart at hf
  refine lv_aload_n (pc := 0) hx hb dX3_endPart_0 rfl (lv_at hl 0 rfl) ?_
  refine g3_1 (pc := 1) E hI ho lkX3_15 dX3_endPart_1 ?_
  refine lv_iload_n (pc := 4) hx hb dX3_endPart_4 rfl (lv_at hl 1 rfl) ?_
  refine lv_aload_n (pc := 5) hx hb dX3_endPart_5 rfl (lv_at hl 0 rfl) ?_
  refine g3_2 (pc := 6) E hI ho lkX3_18 dX3_endPart_6 ?_
  have g1 := hf.1
  have hf := hf.2
  refine s3_1 (pc := 9) E hI ho g1 dX3_endPart_9 (fun H locs σ2 eσ2 hI => ?_)
  have hf := hf σ2 eσ2
  exact rV (pc := 10) E hr hlk hI hf dX3_endPart_10
theorem tX3_endPart {l : Launch} {D : va_G} {z : Nat → Nat} {σ : St} {ad : Nat → Nat → Nat} {cy : Nat → ClassId} {Rr : va_W} {Q : St → Prop} {o : Nat} {p1 : Int32} (ho : kd o = 3) (hf : wX3_endPart o p1 σ Q) : CtV l yX3_endPart cX3_endPart 2 0 (D, tysC cy, SF z) (LC ad cy Rr) [.ref (ad o 99), .int p1] σ Q := mkV (by decide) (Nat.le_of_ble_eq_true rfl) (fun p e s m below meth c A E hr hlk hI ls hl => bX3_endPart E hr hlk ho hf hI hl)

def wX4_become_l71s (ih : Nat → Nat → Int32 → St → Prop) (q0 : Nat) (q1 : Nat) (a2 : Int32) (σ : St) (Q : St → Prop) : Prop := ((5 ≤ a2 → Q σ) ∧ (¬ 5 ≤ a2 → vp_in a2 5 ∧ vp_in a2 5 ∧ ∀ σ9 : St, σ9 = sA σ q0 6 a2.toNatClampNeg (gA σ q1 6 a2.toNatClampNeg) → vp_in a2 5 ∧ vp_in a2 5 ∧ ∀ σ12 : St, σ12 = sA σ9 q0 7 a2.toNatClampNeg (gA σ9 q1 7 a2.toNatClampNeg) → vp_in a2 5 ∧ vp_in a2 5 ∧ ∀ σ15 : St, σ15 = sA σ12 q0 8 a2.toNatClampNeg (gA σ12 q1 8 a2.toNatClampNeg) → vp_in a2 5 ∧ vp_in a2 5 ∧ ∀ σ18 : St, σ18 = sA σ15 q0 9 a2.toNatClampNeg (gA σ15 q1 9 a2.toNatClampNeg) → vp_in a2 5 ∧ vp_in a2 5 ∧ ∀ σ21 : St, σ21 = sA σ18 q0 10 a2.toNatClampNeg (gA σ18 q1 10 a2.toNatClampNeg) → ∀ x22 : Int32, x22 = a2 + 1 → (ih q0 q1 x22 σ21)))
def wX4_become_l71 (n : Nat) : Nat → Nat → Int32 → St → (St → Prop) → Prop := @Nat.rec (fun _ => Nat → Nat → Int32 → St → (St → Prop) → Prop) (fun _ _ _ _ _ => False) (fun _ ih q0 q1 a2 σ Q => wX4_become_l71s (fun q0 q1 a2 σ => ih q0 q1 a2 σ Q) q0 q1 a2 σ Q) n
set_option maxRecDepth 100000 in
set_option maxHeartbeats 4000000 in
theorem bX4_become_71 {p : Program} {l : Launch} {e : Env} {s : State} {m : MethodId} {args : Array Value} {below : List Frame} {meth : Method} {c : Code} {D : va_G} {z : Nat → Nat} {A : Nat → Prop} {ad : Nat → Nat → Nat} {cy : Nat → ClassId} {Rr : va_W} {Q : St → Prop} (E : CallFix p m c cX4_become 3 s args TB RX4) (hr : meth.sig.returnType = none) (hlk : meth.locks = false) : ∀ (n : Nat) {q0 : Nat} {q1 : Nat} {a2 : Int32} (hq0 : kd q0 = 4) (hq1 : kd q1 = 4) {σ : St} {H : Heap} {locs : List Loc} {ls : Array Slot}, wX4_become_l71 n q0 q1 a2 σ Q → In (D, tysC cy, SF z) (LC ad cy Rr σ) A s H locs → lv_has ls 3 [(0, .ref (ad q0 99)), (1, .ref (ad q1 99)), (2, .int a2)] → W p l e (rmD 0) s m args below meth c H locs 0 0 (PV below args s (D, tysC cy, SF z) A (LC ad cy Rr) Q) (F0 m 71 ls []) := by
  have hx := E.1
  have hb := E.2.1
  intro n
  induction n with
  | zero => intro q0 q1 a2 hq0 hq1 σ H locs ls hf hI hl; exact False.elim hf
  | succ n ih =>
    intro q0 q1 a2 hq0 hq1 σ H locs ls hf hI hl
    have hf : wX4_become_l71s (fun q0 q1 a2 σ => wX4_become_l71 n q0 q1 a2 σ Q) q0 q1 a2 σ Q := hf
    unfold wX4_become_l71s at hf
    refine lv_iload_n (pc := 71) hx hb dX4_become_71 rfl (lv_at hl 2 rfl) ?_
    refine lv_iconst (v := 5) (pc := 72) hx hb dX4_become_72 rfl ?_
    refine lv_icmp_ge (tgt := 142) (pc := 73) hx hb dX4_become_73 (by decide) (fun c6 => ?_) (fun c6 => ?_)
    · have hf := hf.1 c6
      exact rV (pc := 142) E hr hlk hI hf dX4_become_142
    · have hf := hf.2 c6
      refine lv_aload_n (pc := 76) hx hb dX4_become_76 rfl (lv_at hl 0 rfl) ?_
      refine g4_6 (pc := 77) E hI hq0 lkX4_33 dX4_become_77 ?_
      refine lv_iload_n (pc := 80) hx hb dX4_become_80 rfl (lv_at hl 2 rfl) ?_
      refine lv_aload_n (pc := 81) hx hb dX4_become_81 rfl (lv_at hl 1 rfl) ?_
      refine g4_6 (pc := 82) E hI hq1 lkX4_33 dX4_become_82 ?_
      refine lv_iload_n (pc := 85) hx hb dX4_become_85 rfl (lv_at hl 2 rfl) ?_
      have g7 := hf.1
      have hf := hf.2
      refine a4_6 (pc := 86) E hI hq1 g7 dX4_become_86 ?_
      have g8 := hf.1
      have hf := hf.2
      refine s4_6 (pc := 87) E hI hq0 g8 dX4_become_87 (fun H locs σ9 eσ9 hI => ?_)
      have hf := hf σ9 eσ9
      refine lv_aload_n (pc := 88) hx hb dX4_become_88 rfl (lv_at hl 0 rfl) ?_
      refine g4_7 (pc := 89) E hI hq0 lkX4_36 dX4_become_89 ?_
      refine lv_iload_n (pc := 92) hx hb dX4_become_92 rfl (lv_at hl 2 rfl) ?_
      refine lv_aload_n (pc := 93) hx hb dX4_become_93 rfl (lv_at hl 1 rfl) ?_
      refine g4_7 (pc := 94) E hI hq1 lkX4_36 dX4_become_94 ?_
      refine lv_iload_n (pc := 97) hx hb dX4_become_97 rfl (lv_at hl 2 rfl) ?_
      have g10 := hf.1
      have hf := hf.2
      refine a4_7 (pc := 98) E hI hq1 g10 dX4_become_98 ?_
      have g11 := hf.1
      have hf := hf.2
      refine s4_7 (pc := 99) E hI hq0 g11 dX4_become_99 (fun H locs σ12 eσ12 hI => ?_)
      have hf := hf σ12 eσ12
      refine lv_aload_n (pc := 100) hx hb dX4_become_100 rfl (lv_at hl 0 rfl) ?_
      refine g4_8 (pc := 101) E hI hq0 lkX4_39 dX4_become_101 ?_
      refine lv_iload_n (pc := 104) hx hb dX4_become_104 rfl (lv_at hl 2 rfl) ?_
      refine lv_aload_n (pc := 105) hx hb dX4_become_105 rfl (lv_at hl 1 rfl) ?_
      refine g4_8 (pc := 106) E hI hq1 lkX4_39 dX4_become_106 ?_
      refine lv_iload_n (pc := 109) hx hb dX4_become_109 rfl (lv_at hl 2 rfl) ?_
      have g13 := hf.1
      have hf := hf.2
      refine a4_8 (pc := 110) E hI hq1 g13 dX4_become_110 ?_
      have g14 := hf.1
      have hf := hf.2
      refine s4_8 (pc := 111) E hI hq0 g14 dX4_become_111 (fun H locs σ15 eσ15 hI => ?_)
      have hf := hf σ15 eσ15
      refine lv_aload_n (pc := 112) hx hb dX4_become_112 rfl (lv_at hl 0 rfl) ?_
      refine g4_9 (pc := 113) E hI hq0 lkX4_42 dX4_become_113 ?_
      refine lv_iload_n (pc := 116) hx hb dX4_become_116 rfl (lv_at hl 2 rfl) ?_
      refine lv_aload_n (pc := 117) hx hb dX4_become_117 rfl (lv_at hl 1 rfl) ?_
      refine g4_9 (pc := 118) E hI hq1 lkX4_42 dX4_become_118 ?_
      refine lv_iload_n (pc := 121) hx hb dX4_become_121 rfl (lv_at hl 2 rfl) ?_
      have g16 := hf.1
      have hf := hf.2
      refine a4_9 (pc := 122) E hI hq1 g16 dX4_become_122 ?_
      have g17 := hf.1
      have hf := hf.2
      refine s4_9 (pc := 123) E hI hq0 g17 dX4_become_123 (fun H locs σ18 eσ18 hI => ?_)
      have hf := hf σ18 eσ18
      refine lv_aload_n (pc := 124) hx hb dX4_become_124 rfl (lv_at hl 0 rfl) ?_
      refine g4_10 (pc := 125) E hI hq0 lkX4_45 dX4_become_125 ?_
      refine lv_iload_n (pc := 128) hx hb dX4_become_128 rfl (lv_at hl 2 rfl) ?_
      refine lv_aload_n (pc := 129) hx hb dX4_become_129 rfl (lv_at hl 1 rfl) ?_
      refine g4_10 (pc := 130) E hI hq1 lkX4_45 dX4_become_130 ?_
      refine lv_iload_n (pc := 133) hx hb dX4_become_133 rfl (lv_at hl 2 rfl) ?_
      have g19 := hf.1
      have hf := hf.2
      refine a4_10 (pc := 134) E hI hq1 g19 dX4_become_134 ?_
      have g20 := hf.1
      have hf := hf.2
      refine s4_10 (pc := 135) E hI hq0 g20 dX4_become_135 (fun H locs σ21 eσ21 hI => ?_)
      have hf := hf σ21 eσ21
      obtain ⟨x22, ex22⟩ : ∃ y : Int32, y = a2 + 1 := ⟨_, rfl⟩
      have hf := hf x22 ex22
      refine lv_iinc (v := x22) (lv' := [(2, .int x22), (0, .ref (ad q0 99)), (1, .ref (ad q1 99))]) (pc := 136) hx hb dX4_become_136 hl (k := 2) rfl (by rw [ex22]; rfl) (by decide) rfl (fun ls hl => ?_)
      refine lv_goto (tgt := 71) (pc := 139) hx hb dX4_become_139 (by decide) ?_
      exact ih hq0 hq1 hf hI (lv_sub hl [1, 2, 0] rfl)
def wX4_become_l34s (ih : Nat → Nat → Int32 → St → Prop) (q0 : Nat) (q1 : Nat) (a2 : Int32) (σ : St) (Q : St → Prop) : Prop := ((4 ≤ a2 → ∃ n23 : Nat, wX4_become_l71 n23 q0 q1 0 σ Q) ∧ (¬ 4 ≤ a2 → vp_in a2 4 ∧ vp_in a2 4 ∧ ∀ σ26 : St, σ26 = sB σ q0 0 a2.toNatClampNeg (gB σ q1 0 a2.toNatClampNeg) → vp_in a2 4 ∧ vp_in a2 4 ∧ ∀ σ29 : St, σ29 = sA σ26 q0 4 a2.toNatClampNeg (gA σ26 q1 4 a2.toNatClampNeg) → ∀ x30 : Int32, x30 = a2 + 1 → (ih q0 q1 x30 σ29)))
def wX4_become_l34 (n : Nat) : Nat → Nat → Int32 → St → (St → Prop) → Prop := @Nat.rec (fun _ => Nat → Nat → Int32 → St → (St → Prop) → Prop) (fun _ _ _ _ _ => False) (fun _ ih q0 q1 a2 σ Q => wX4_become_l34s (fun q0 q1 a2 σ => ih q0 q1 a2 σ Q) q0 q1 a2 σ Q) n
set_option maxRecDepth 100000 in
set_option maxHeartbeats 4000000 in
theorem bX4_become_34 {p : Program} {l : Launch} {e : Env} {s : State} {m : MethodId} {args : Array Value} {below : List Frame} {meth : Method} {c : Code} {D : va_G} {z : Nat → Nat} {A : Nat → Prop} {ad : Nat → Nat → Nat} {cy : Nat → ClassId} {Rr : va_W} {Q : St → Prop} (E : CallFix p m c cX4_become 3 s args TB RX4) (hr : meth.sig.returnType = none) (hlk : meth.locks = false) : ∀ (n : Nat) {q0 : Nat} {q1 : Nat} {a2 : Int32} (hq0 : kd q0 = 4) (hq1 : kd q1 = 4) {σ : St} {H : Heap} {locs : List Loc} {ls : Array Slot}, wX4_become_l34 n q0 q1 a2 σ Q → In (D, tysC cy, SF z) (LC ad cy Rr σ) A s H locs → lv_has ls 3 [(0, .ref (ad q0 99)), (1, .ref (ad q1 99)), (2, .int a2)] → W p l e (rmD 0) s m args below meth c H locs 0 0 (PV below args s (D, tysC cy, SF z) A (LC ad cy Rr) Q) (F0 m 34 ls []) := by
  have hx := E.1
  have hb := E.2.1
  intro n
  induction n with
  | zero => intro q0 q1 a2 hq0 hq1 σ H locs ls hf hI hl; exact False.elim hf
  | succ n ih =>
    intro q0 q1 a2 hq0 hq1 σ H locs ls hf hI hl
    have hf : wX4_become_l34s (fun q0 q1 a2 σ => wX4_become_l34 n q0 q1 a2 σ Q) q0 q1 a2 σ Q := hf
    unfold wX4_become_l34s at hf
    refine lv_iload_n (pc := 34) hx hb dX4_become_34 rfl (lv_at hl 2 rfl) ?_
    refine lv_iconst (v := 4) (pc := 35) hx hb dX4_become_35 rfl ?_
    refine lv_icmp_ge (tgt := 69) (pc := 36) hx hb dX4_become_36 (by decide) (fun c5 => ?_) (fun c5 => ?_)
    · have hf := hf.1 c5
      refine lv_iconst (v := 0) (pc := 69) hx hb dX4_become_69 rfl ?_
      refine lv_istore_n (lv' := [(2, .int 0), (0, .ref (ad q0 99)), (1, .ref (ad q1 99))]) (pc := 70) hx hb dX4_become_70 rfl hl (by decide) rfl (fun ls hl => ?_)
      obtain ⟨n23, hf⟩ := hf
      exact bX4_become_71 E hr hlk n23 hq0 hq1 hf hI (lv_sub hl [1, 2, 0] rfl)
    · have hf := hf.2 c5
      refine lv_aload_n (pc := 39) hx hb dX4_become_39 rfl (lv_at hl 0 rfl) ?_
      refine g4_0 (pc := 40) E hI hq0 lkX4_9 dX4_become_40 ?_
      refine lv_iload_n (pc := 43) hx hb dX4_become_43 rfl (lv_at hl 2 rfl) ?_
      refine lv_aload_n (pc := 44) hx hb dX4_become_44 rfl (lv_at hl 1 rfl) ?_
      refine g4_0 (pc := 45) E hI hq1 lkX4_9 dX4_become_45 ?_
      refine lv_iload_n (pc := 48) hx hb dX4_become_48 rfl (lv_at hl 2 rfl) ?_
      have g24 := hf.1
      have hf := hf.2
      refine a4_0 (pc := 49) E hI hq1 g24 dX4_become_49 ?_
      have g25 := hf.1
      have hf := hf.2
      refine s4_0 (pc := 50) E hI hq0 g25 dX4_become_50 (fun H locs σ26 eσ26 hI => ?_)
      have hf := hf σ26 eσ26
      refine lv_aload_n (pc := 51) hx hb dX4_become_51 rfl (lv_at hl 0 rfl) ?_
      refine g4_4 (pc := 52) E hI hq0 lkX4_26 dX4_become_52 ?_
      refine lv_iload_n (pc := 55) hx hb dX4_become_55 rfl (lv_at hl 2 rfl) ?_
      refine lv_aload_n (pc := 56) hx hb dX4_become_56 rfl (lv_at hl 1 rfl) ?_
      refine g4_4 (pc := 57) E hI hq1 lkX4_26 dX4_become_57 ?_
      refine lv_iload_n (pc := 60) hx hb dX4_become_60 rfl (lv_at hl 2 rfl) ?_
      have g27 := hf.1
      have hf := hf.2
      refine a4_4 (pc := 61) E hI hq1 g27 dX4_become_61 ?_
      have g28 := hf.1
      have hf := hf.2
      refine s4_4 (pc := 62) E hI hq0 g28 dX4_become_62 (fun H locs σ29 eσ29 hI => ?_)
      have hf := hf σ29 eσ29
      obtain ⟨x30, ex30⟩ : ∃ y : Int32, y = a2 + 1 := ⟨_, rfl⟩
      have hf := hf x30 ex30
      refine lv_iinc (v := x30) (lv' := [(2, .int x30), (0, .ref (ad q0 99)), (1, .ref (ad q1 99))]) (pc := 63) hx hb dX4_become_63 hl (k := 2) rfl (by rw [ex30]; rfl) (by decide) rfl (fun ls hl => ?_)
      refine lv_goto (tgt := 34) (pc := 66) hx hb dX4_become_66 (by decide) ?_
      exact ih hq0 hq1 hf hI (lv_sub hl [1, 2, 0] rfl)
def wX4_become (o : Nat) (oa : Nat) (σ : St) (Q : St → Prop) : Prop := ∀ σ1 : St, σ1 = sJ σ o 1 (gJ σ oa 1) → ∀ σ2 : St, σ2 = sI σ1 o 2 (gI σ1 oa 2) → ∀ σ3 : St, σ3 = sI σ2 o 3 (gI σ2 oa 3) → ∀ σ4 : St, σ4 = sI σ3 o 5 (gI σ3 oa 5) → ∃ n31 : Nat, wX4_become_l34 n31 o oa 0 σ4 Q
set_option maxRecDepth 100000 in
set_option maxHeartbeats 4000000 in
theorem bX4_become {p : Program} {l : Launch} {e : Env} {s : State} {m : MethodId} {args : Array Value} {below : List Frame} {meth : Method} {c : Code} {H : Heap} {locs : List Loc} {ls : Array Slot} {D : va_G} {z : Nat → Nat} {A : Nat → Prop} {σ : St} {ad : Nat → Nat → Nat} {cy : Nat → ClassId} {Rr : va_W} {Q : St → Prop} {o : Nat} {oa : Nat} (E : CallFix p m c cX4_become 3 s args TB RX4) (hr : meth.sig.returnType = none) (hlk : meth.locks = false) (ho : kd o = 4) (hoa : kd oa = 4) (hf : wX4_become o oa σ Q) (hI : In (D, tysC cy, SF z) (LC ad cy Rr σ) A s H locs) (hl : lv_has ls 3 [(0, .ref (ad o 99)), (1, .ref (ad oa 99))]) : W p l e (rmD 0) s m args below meth c H locs 0 0 (PV below args s (D, tysC cy, SF z) A (LC ad cy Rr) Q) (F0 m 0 ls []) := by
  have hx := E.1
  have hb := E.2.1
  unfold wX4_become at hf
  refine lv_aload_n (pc := 0) hx hb dX4_become_0 rfl (lv_at hl 0 rfl) ?_
  refine lv_aload_n (pc := 1) hx hb dX4_become_1 rfl (lv_at hl 1 rfl) ?_
  refine g4_1 (pc := 2) E hI hoa lkX4_15 dX4_become_2 ?_
  refine p4_1 (pc := 5) E hI ho lkX4_15 dX4_become_5 (fun H locs σ1 eσ1 hI => ?_)
  have hf := hf σ1 eσ1
  refine lv_aload_n (pc := 8) hx hb dX4_become_8 rfl (lv_at hl 0 rfl) ?_
  refine lv_aload_n (pc := 9) hx hb dX4_become_9 rfl (lv_at hl 1 rfl) ?_
  refine g4_2 (pc := 10) E hI hoa lkX4_19 dX4_become_10 ?_
  refine p4_2 (pc := 13) E hI ho lkX4_19 dX4_become_13 (fun H locs σ2 eσ2 hI => ?_)
  have hf := hf σ2 eσ2
  refine lv_aload_n (pc := 16) hx hb dX4_become_16 rfl (lv_at hl 0 rfl) ?_
  refine lv_aload_n (pc := 17) hx hb dX4_become_17 rfl (lv_at hl 1 rfl) ?_
  refine g4_3 (pc := 18) E hI hoa lkX4_23 dX4_become_18 ?_
  refine p4_3 (pc := 21) E hI ho lkX4_23 dX4_become_21 (fun H locs σ3 eσ3 hI => ?_)
  have hf := hf σ3 eσ3
  refine lv_aload_n (pc := 24) hx hb dX4_become_24 rfl (lv_at hl 0 rfl) ?_
  refine lv_aload_n (pc := 25) hx hb dX4_become_25 rfl (lv_at hl 1 rfl) ?_
  refine g4_5 (pc := 26) E hI hoa lkX4_30 dX4_become_26 ?_
  refine p4_5 (pc := 29) E hI ho lkX4_30 dX4_become_29 (fun H locs σ4 eσ4 hI => ?_)
  have hf := hf σ4 eσ4
  refine lv_iconst (v := 0) (pc := 32) hx hb dX4_become_32 rfl ?_
  refine lv_istore_n (lv' := [(2, .int 0), (0, .ref (ad o 99)), (1, .ref (ad oa 99))]) (pc := 33) hx hb dX4_become_33 rfl hl (by decide) rfl (fun ls hl => ?_)
  obtain ⟨n31, hf⟩ := hf
  exact bX4_become_34 E hr hlk n31 ho hoa hf hI (lv_sub hl [1, 2, 0] rfl)
theorem tX4_become {l : Launch} {D : va_G} {z : Nat → Nat} {σ : St} {ad : Nat → Nat → Nat} {cy : Nat → ClassId} {Rr : va_W} {Q : St → Prop} {o : Nat} {oa : Nat} (ho : kd o = 4) (hoa : kd oa = 4) (hf : wX4_become o oa σ Q) : CtV l yX4_become cX4_become 3 0 (D, tysC cy, SF z) (LC ad cy Rr) [.ref (ad o 99), .ref (ad oa 99)] σ Q := mkV (by decide) (Nat.le_of_ble_eq_true rfl) (fun p e s m below meth c A E hr hlk hI ls hl => bX4_become E hr hlk ho hoa hf hI hl)

def wX4_welcome (o : Nat) (p1 : Int32) (p2 : Int32) (p3 : Int32) (σ : St) (Q : Int32 → St → Prop) : Prop := (((gI σ o 5) < 5 → ∀ x2 : Int32, x2 = (gI σ o 5) → vp_in x2 5 ∧ ∀ σ4 : St, σ4 = sA σ o 6 x2.toNatClampNeg p1 → vp_in x2 5 ∧ ∀ σ6 : St, σ6 = sA σ4 o 7 x2.toNatClampNeg p2 → vp_in x2 5 ∧ ∀ σ8 : St, σ8 = sA σ6 o 8 x2.toNatClampNeg p3 → vp_in x2 5 ∧ ∀ σ10 : St, σ10 = sA σ8 o 9 x2.toNatClampNeg 0 → vp_in x2 5 ∧ ∀ σ12 : St, σ12 = sA σ10 o 10 x2.toNatClampNeg 0 → ∀ σ13 : St, σ13 = sI σ12 o 5 ((gI σ12 o 5) + 1) → Q x2 σ13) ∧ (¬ (gI σ o 5) < 5 → Q (-4) σ))
set_option maxRecDepth 100000 in
set_option maxHeartbeats 4000000 in
theorem bX4_welcome {p : Program} {l : Launch} {e : Env} {s : State} {m : MethodId} {args : Array Value} {below : List Frame} {meth : Method} {c : Code} {H : Heap} {locs : List Loc} {ls : Array Slot} {D : va_G} {z : Nat → Nat} {A : Nat → Prop} {σ : St} {ad : Nat → Nat → Nat} {cy : Nat → ClassId} {Rr : va_W} {Q : Int32 → St → Prop} {o : Nat} {p1 : Int32} {p2 : Int32} {p3 : Int32} (E : CallFix p m c cX4_welcome 5 s args TB RX4) (hr : meth.sig.returnType = some .int) (hlk : meth.locks = false) (ho : kd o = 4) (hf : wX4_welcome o p1 p2 p3 σ Q) (hI : In (D, tysC cy, SF z) (LC ad cy Rr σ) A s H locs) (hl : lv_has ls 5 [(0, .ref (ad o 99)), (1, .int p1), (2, .int p2), (3, .int p3)]) : W p l e (rmD 0) s m args below meth c H locs 0 0 (PI below args s (D, tysC cy, SF z) A (LC ad cy Rr) Q) (F0 m 0 ls []) := by
  have hx := E.1
  have hb := E.2.1
  unfold wX4_welcome at hf
  refine lv_aload_n (pc := 0) hx hb dX4_welcome_0 rfl (lv_at hl 0 rfl) ?_
  refine g4_5 (pc := 1) E hI ho lkX4_30 dX4_welcome_1 ?_
  refine lv_iconst (v := 5) (pc := 4) hx hb dX4_welcome_4 rfl ?_
  refine lv_icmp_lt (tgt := 11) (pc := 5) hx hb dX4_welcome_5 (by decide) (fun c1 => ?_) (fun c1 => ?_)
  · have hf := hf.1 c1
    refine lv_aload_n (pc := 11) hx hb dX4_welcome_11 rfl (lv_at hl 0 rfl) ?_
    refine g4_5 (pc := 12) E hI ho lkX4_30 dX4_welcome_12 ?_
    refine lv_topi (fun x2 ex2 => ?_)
    have hf := hf x2 ex2
    refine lv_istore (lv' := [(4, .int x2), (0, .ref (ad o 99)), (1, .int p1), (2, .int p2), (3, .int p3)]) (pc := 15) hx hb dX4_welcome_15 hl (by decide) rfl (fun ls hl => ?_)
    refine lv_aload_n (pc := 17) hx hb dX4_welcome_17 rfl (lv_at hl 1 rfl) ?_
    refine g4_6 (pc := 18) E hI ho lkX4_33 dX4_welcome_18 ?_
    refine lv_iload (pc := 21) hx hb dX4_welcome_21 (lv_at hl 0 rfl) ?_
    refine lv_iload_n (pc := 23) hx hb dX4_welcome_23 rfl (lv_at hl 2 rfl) ?_
    have g3 := hf.1
    have hf := hf.2
    refine s4_6 (pc := 24) E hI ho g3 dX4_welcome_24 (fun H locs σ4 eσ4 hI => ?_)
    have hf := hf σ4 eσ4
    refine lv_aload_n (pc := 25) hx hb dX4_welcome_25 rfl (lv_at hl 1 rfl) ?_
    refine g4_7 (pc := 26) E hI ho lkX4_36 dX4_welcome_26 ?_
    refine lv_iload (pc := 29) hx hb dX4_welcome_29 (lv_at hl 0 rfl) ?_
    refine lv_iload_n (pc := 31) hx hb dX4_welcome_31 rfl (lv_at hl 3 rfl) ?_
    have g5 := hf.1
    have hf := hf.2
    refine s4_7 (pc := 32) E hI ho g5 dX4_welcome_32 (fun H locs σ6 eσ6 hI => ?_)
    have hf := hf σ6 eσ6
    refine lv_aload_n (pc := 33) hx hb dX4_welcome_33 rfl (lv_at hl 1 rfl) ?_
    refine g4_8 (pc := 34) E hI ho lkX4_39 dX4_welcome_34 ?_
    refine lv_iload (pc := 37) hx hb dX4_welcome_37 (lv_at hl 0 rfl) ?_
    refine lv_iload_n (pc := 39) hx hb dX4_welcome_39 rfl (lv_at hl 4 rfl) ?_
    have g7 := hf.1
    have hf := hf.2
    refine s4_8 (pc := 40) E hI ho g7 dX4_welcome_40 (fun H locs σ8 eσ8 hI => ?_)
    have hf := hf σ8 eσ8
    refine lv_aload_n (pc := 41) hx hb dX4_welcome_41 rfl (lv_at hl 1 rfl) ?_
    refine g4_9 (pc := 42) E hI ho lkX4_42 dX4_welcome_42 ?_
    refine lv_iload (pc := 45) hx hb dX4_welcome_45 (lv_at hl 0 rfl) ?_
    refine lv_iconst (v := 0) (pc := 47) hx hb dX4_welcome_47 rfl ?_
    have g9 := hf.1
    have hf := hf.2
    refine s4_9 (pc := 48) E hI ho g9 dX4_welcome_48 (fun H locs σ10 eσ10 hI => ?_)
    have hf := hf σ10 eσ10
    refine lv_aload_n (pc := 49) hx hb dX4_welcome_49 rfl (lv_at hl 1 rfl) ?_
    refine g4_10 (pc := 50) E hI ho lkX4_45 dX4_welcome_50 ?_
    refine lv_iload (pc := 53) hx hb dX4_welcome_53 (lv_at hl 0 rfl) ?_
    refine lv_iconst (v := 0) (pc := 55) hx hb dX4_welcome_55 rfl ?_
    have g11 := hf.1
    have hf := hf.2
    refine s4_10 (pc := 56) E hI ho g11 dX4_welcome_56 (fun H locs σ12 eσ12 hI => ?_)
    have hf := hf σ12 eσ12
    refine lv_aload_n (pc := 57) hx hb dX4_welcome_57 rfl (lv_at hl 1 rfl) ?_
    refine lv_dup (pc := 58) hx hb dX4_welcome_58 rfl ?_
    refine g4_5 (pc := 59) E hI ho lkX4_30 dX4_welcome_59 ?_
    refine lv_iconst (v := 1) (pc := 62) hx hb dX4_welcome_62 rfl ?_
    refine lv_iadd (pc := 63) hx hb dX4_welcome_63 ?_
    refine p4_5 (pc := 64) E hI ho lkX4_30 dX4_welcome_64 (fun H locs σ13 eσ13 hI => ?_)
    have hf := hf σ13 eσ13
    refine lv_iload (pc := 67) hx hb dX4_welcome_67 (lv_at hl 0 rfl) ?_
    exact rI (pc := 69) E hr hlk hI hf dX4_welcome_69
  · have hf := hf.2 c1
    refine lv_bipush (v := (-4)) (pc := 8) hx hb dX4_welcome_8 rfl ?_
    exact rI (pc := 10) E hr hlk hI hf dX4_welcome_10
theorem tX4_welcome {l : Launch} {D : va_G} {z : Nat → Nat} {σ : St} {ad : Nat → Nat → Nat} {cy : Nat → ClassId} {Rr : va_W} {Q : Int32 → St → Prop} {o : Nat} {p1 : Int32} {p2 : Int32} {p3 : Int32} (ho : kd o = 4) (hf : wX4_welcome o p1 p2 p3 σ Q) : CtI l yX4_welcome cX4_welcome 5 .int 0 (D, tysC cy, SF z) (LC ad cy Rr) [.ref (ad o 99), .int p1, .int p2, .int p3] σ Q := mkI (by decide) (Nat.le_of_ble_eq_true rfl) (fun p e s m below meth c A E hr hlk hI ls hl => bX4_welcome E hr hlk ho hf hI hl)

def wX4_isFilled (o : Nat) (p1 : Int32) (σ : St) (Q : Int32 → St → Prop) : Prop := (((lg_cmp ((gJ σ o 1) &&& (lsh 1 p1)) 0) = 0 → Q 0 σ) ∧ (¬ (lg_cmp ((gJ σ o 1) &&& (lsh 1 p1)) 0) = 0 → Q 1 σ))
set_option maxRecDepth 100000 in
set_option maxHeartbeats 4000000 in
theorem bX4_isFilled {p : Program} {l : Launch} {e : Env} {s : State} {m : MethodId} {args : Array Value} {below : List Frame} {meth : Method} {c : Code} {H : Heap} {locs : List Loc} {ls : Array Slot} {D : va_G} {z : Nat → Nat} {A : Nat → Prop} {σ : St} {ad : Nat → Nat → Nat} {cy : Nat → ClassId} {Rr : va_W} {Q : Int32 → St → Prop} {o : Nat} {p1 : Int32} (E : CallFix p m c cX4_isFilled 2 s args TB RX4) (hr : meth.sig.returnType = some .boolean) (hlk : meth.locks = false) (ho : kd o = 4) (hf : wX4_isFilled o p1 σ Q) (hI : In (D, tysC cy, SF z) (LC ad cy Rr σ) A s H locs) (hl : lv_has ls 2 [(0, .ref (ad o 99)), (1, .int p1)]) : W p l e (rmD 0) s m args below meth c H locs 0 0 (PI below args s (D, tysC cy, SF z) A (LC ad cy Rr) Q) (F0 m 0 ls []) := by
  have hx := E.1
  have hb := E.2.1
  unfold wX4_isFilled at hf
  refine lv_aload_n (pc := 0) hx hb dX4_isFilled_0 rfl (lv_at hl 0 rfl) ?_
  refine g4_1 (pc := 1) E hI ho lkX4_15 dX4_isFilled_1 ?_
  refine lv_lconst (v := 1) (pc := 4) hx hb dX4_isFilled_4 rfl ?_
  refine lv_iload_n (pc := 5) hx hb dX4_isFilled_5 rfl (lv_at hl 1 rfl) ?_
  refine lv_lshl (v := (lsh 1 p1)) (pc := 6) hx hb dX4_isFilled_6 rfl ?_
  refine lv_land (pc := 7) hx hb dX4_isFilled_7 ?_
  refine lv_lconst (v := 0) (pc := 8) hx hb dX4_isFilled_8 rfl ?_
  refine W.lcmp (pc := 9) hx hb dX4_isFilled_9 ?_
  refine lv_if_eq (tgt := 17) (pc := 10) hx hb dX4_isFilled_10 (by decide) (fun c1 => ?_) (fun c1 => ?_)
  · have hf := hf.1 c1
    refine lv_iconst (v := 0) (pc := 17) hx hb dX4_isFilled_17 rfl ?_
    exact rZ (pc := 18) E hr hlk hI (Or.inl rfl) hf dX4_isFilled_18
  · have hf := hf.2 c1
    refine lv_iconst (v := 1) (pc := 13) hx hb dX4_isFilled_13 rfl ?_
    refine lv_goto (tgt := 18) (pc := 14) hx hb dX4_isFilled_14 (by decide) ?_
    exact rZ (pc := 18) E hr hlk hI (Or.inr rfl) hf dX4_isFilled_18
theorem tX4_isFilled {l : Launch} {D : va_G} {z : Nat → Nat} {σ : St} {ad : Nat → Nat → Nat} {cy : Nat → ClassId} {Rr : va_W} {Q : Int32 → St → Prop} {o : Nat} {p1 : Int32} (ho : kd o = 4) (hf : wX4_isFilled o p1 σ Q) : CtI l yX4_isFilled cX4_isFilled 2 .boolean 0 (D, tysC cy, SF z) (LC ad cy Rr) [.ref (ad o 99), .int p1] σ Q := mkI (by decide) (Nat.le_of_ble_eq_true rfl) (fun p e s m below meth c A E hr hlk hI ls hl => bX4_isFilled E hr hlk ho hf hI hl)

def wX4_colourOf_l2s (ih : Nat → Int64 → Int32 → St → Prop) (q0 : Nat) (a1 : Int64) (a3 : Int32) (σ : St) (Q : Int32 → St → Prop) : Prop := ((3 ≤ a3 → Q a3 σ) ∧ (¬ 3 ≤ a3 → vp_in a3 4 ∧ ((¬ (lg_cmp ((gB σ q0 0 a3.toNatClampNeg) &&& a1) 0) = 0 → Q a3 σ) ∧ ((lg_cmp ((gB σ q0 0 a3.toNatClampNeg) &&& a1) 0) = 0 → ∀ x4 : Int32, x4 = a3 + 1 → (ih q0 a1 x4 σ)))))
def wX4_colourOf_l2 (n : Nat) : Nat → Int64 → Int32 → St → (Int32 → St → Prop) → Prop := @Nat.rec (fun _ => Nat → Int64 → Int32 → St → (Int32 → St → Prop) → Prop) (fun _ _ _ _ _ => False) (fun _ ih q0 a1 a3 σ Q => wX4_colourOf_l2s (fun q0 a1 a3 σ => ih q0 a1 a3 σ Q) q0 a1 a3 σ Q) n
set_option maxRecDepth 100000 in
set_option maxHeartbeats 4000000 in
theorem bX4_colourOf_2 {p : Program} {l : Launch} {e : Env} {s : State} {m : MethodId} {args : Array Value} {below : List Frame} {meth : Method} {c : Code} {D : va_G} {z : Nat → Nat} {A : Nat → Prop} {ad : Nat → Nat → Nat} {cy : Nat → ClassId} {Rr : va_W} {Q : Int32 → St → Prop} (E : CallFix p m c cX4_colourOf 4 s args TB RX4) (hr : meth.sig.returnType = some .int) (hlk : meth.locks = false) : ∀ (n : Nat) {q0 : Nat} {a1 : Int64} {a3 : Int32} (hq0 : kd q0 = 4) {σ : St} {H : Heap} {locs : List Loc} {ls : Array Slot}, wX4_colourOf_l2 n q0 a1 a3 σ Q → In (D, tysC cy, SF z) (LC ad cy Rr σ) A s H locs → lv_has ls 4 [(0, .ref (ad q0 99)), (1, .long a1), (3, .int a3)] → W p l e (rmD 0) s m args below meth c H locs 0 0 (PI below args s (D, tysC cy, SF z) A (LC ad cy Rr) Q) (F0 m 2 ls []) := by
  have hx := E.1
  have hb := E.2.1
  intro n
  induction n with
  | zero => intro q0 a1 a3 hq0 σ H locs ls hf hI hl; exact False.elim hf
  | succ n ih =>
    intro q0 a1 a3 hq0 σ H locs ls hf hI hl
    have hf : wX4_colourOf_l2s (fun q0 a1 a3 σ => wX4_colourOf_l2 n q0 a1 a3 σ Q) q0 a1 a3 σ Q := hf
    unfold wX4_colourOf_l2s at hf
    refine lv_iload_n (pc := 2) hx hb dX4_colourOf_2 rfl (lv_at hl 2 rfl) ?_
    refine lv_iconst (v := 3) (pc := 3) hx hb dX4_colourOf_3 rfl ?_
    refine lv_icmp_ge (tgt := 26) (pc := 4) hx hb dX4_colourOf_4 (by decide) (fun c1 => ?_) (fun c1 => ?_)
    · have hf := hf.1 c1
      refine lv_iload_n (pc := 26) hx hb dX4_colourOf_26 rfl (lv_at hl 2 rfl) ?_
      exact rI (pc := 27) E hr hlk hI hf dX4_colourOf_27
    · have hf := hf.2 c1
      refine lv_aload_n (pc := 7) hx hb dX4_colourOf_7 rfl (lv_at hl 0 rfl) ?_
      refine g4_0 (pc := 8) E hI hq0 lkX4_9 dX4_colourOf_8 ?_
      refine lv_iload_n (pc := 11) hx hb dX4_colourOf_11 rfl (lv_at hl 2 rfl) ?_
      have g2 := hf.1
      have hf := hf.2
      refine a4_0 (pc := 12) E hI hq0 g2 dX4_colourOf_12 ?_
      refine lv_lload_n (pc := 13) hx hb dX4_colourOf_13 rfl (lv_at hl 1 rfl) ?_
      refine lv_land (pc := 14) hx hb dX4_colourOf_14 ?_
      refine lv_lconst (v := 0) (pc := 15) hx hb dX4_colourOf_15 rfl ?_
      refine W.lcmp (pc := 16) hx hb dX4_colourOf_16 ?_
      refine lv_if_ne (tgt := 26) (pc := 17) hx hb dX4_colourOf_17 (by decide) (fun c3 => ?_) (fun c3 => ?_)
      · have hf := hf.1 c3
        refine lv_iload_n (pc := 26) hx hb dX4_colourOf_26 rfl (lv_at hl 2 rfl) ?_
        exact rI (pc := 27) E hr hlk hI hf dX4_colourOf_27
      · have hf := hf.2 c3
        obtain ⟨x4, ex4⟩ : ∃ y : Int32, y = a3 + 1 := ⟨_, rfl⟩
        have hf := hf x4 ex4
        refine lv_iinc (v := x4) (lv' := [(3, .int x4), (0, .ref (ad q0 99)), (1, .long a1)]) (pc := 20) hx hb dX4_colourOf_20 hl (k := 2) rfl (by rw [ex4]; rfl) (by decide) rfl (fun ls hl => ?_)
        refine lv_goto (tgt := 2) (pc := 23) hx hb dX4_colourOf_23 (by decide) ?_
        exact ih hq0 hf hI (lv_sub hl [1, 2, 0] rfl)
def wX4_colourOf (o : Nat) (p1 : Int64) (σ : St) (Q : Int32 → St → Prop) : Prop := ∃ n5 : Nat, wX4_colourOf_l2 n5 o p1 0 σ Q
set_option maxRecDepth 100000 in
set_option maxHeartbeats 4000000 in
theorem bX4_colourOf {p : Program} {l : Launch} {e : Env} {s : State} {m : MethodId} {args : Array Value} {below : List Frame} {meth : Method} {c : Code} {H : Heap} {locs : List Loc} {ls : Array Slot} {D : va_G} {z : Nat → Nat} {A : Nat → Prop} {σ : St} {ad : Nat → Nat → Nat} {cy : Nat → ClassId} {Rr : va_W} {Q : Int32 → St → Prop} {o : Nat} {p1 : Int64} (E : CallFix p m c cX4_colourOf 4 s args TB RX4) (hr : meth.sig.returnType = some .int) (hlk : meth.locks = false) (ho : kd o = 4) (hf : wX4_colourOf o p1 σ Q) (hI : In (D, tysC cy, SF z) (LC ad cy Rr σ) A s H locs) (hl : lv_has ls 4 [(0, .ref (ad o 99)), (1, .long p1)]) : W p l e (rmD 0) s m args below meth c H locs 0 0 (PI below args s (D, tysC cy, SF z) A (LC ad cy Rr) Q) (F0 m 0 ls []) := by
  have hx := E.1
  have hb := E.2.1
  unfold wX4_colourOf at hf
  refine lv_iconst (v := 0) (pc := 0) hx hb dX4_colourOf_0 rfl ?_
  refine lv_istore_n (lv' := [(3, .int 0), (0, .ref (ad o 99)), (1, .long p1)]) (pc := 1) hx hb dX4_colourOf_1 rfl hl (by decide) rfl (fun ls hl => ?_)
  obtain ⟨n5, hf⟩ := hf
  exact bX4_colourOf_2 E hr hlk n5 ho hf hI (lv_sub hl [1, 2, 0] rfl)
theorem tX4_colourOf {l : Launch} {D : va_G} {z : Nat → Nat} {σ : St} {ad : Nat → Nat → Nat} {cy : Nat → ClassId} {Rr : va_W} {Q : Int32 → St → Prop} {o : Nat} {p1 : Int64} (ho : kd o = 4) (hf : wX4_colourOf o p1 σ Q) : CtI l yX4_colourOf cX4_colourOf 4 .int 0 (D, tysC cy, SF z) (LC ad cy Rr) [.ref (ad o 99), .long p1] σ Q := mkI (by decide) (Nat.le_of_ble_eq_true rfl) (fun p e s m below meth c A E hr hlk hI ls hl => bX4_colourOf E hr hlk ho hf hI hl)

def wX4_wish_l2s (ih : Nat → Int32 → Int32 → Int32 → St → Prop) (q0 : Nat) (a1 : Int32) (a2 : Int32) (a3 : Int32) (σ : St) (Q : St → Prop) : Prop := ((4 ≤ a3 → vp_in a2 4 ∧ vp_in a2 4 ∧ ∀ σ4 : St, σ4 = sB σ q0 0 a2.toNatClampNeg ((gB σ q0 0 a2.toNatClampNeg) ||| (lsh 1 a1)) → Q σ4) ∧ (¬ 4 ≤ a3 → vp_in a3 4 ∧ vp_in a3 4 ∧ ∀ σ7 : St, σ7 = sB σ q0 0 a3.toNatClampNeg ((gB σ q0 0 a3.toNatClampNeg) &&& ((lsh 1 a1) ^^^ (-1))) → ∀ x8 : Int32, x8 = a3 + 1 → (ih q0 a1 a2 x8 σ7)))
def wX4_wish_l2 (n : Nat) : Nat → Int32 → Int32 → Int32 → St → (St → Prop) → Prop := @Nat.rec (fun _ => Nat → Int32 → Int32 → Int32 → St → (St → Prop) → Prop) (fun _ _ _ _ _ _ => False) (fun _ ih q0 a1 a2 a3 σ Q => wX4_wish_l2s (fun q0 a1 a2 a3 σ => ih q0 a1 a2 a3 σ Q) q0 a1 a2 a3 σ Q) n
set_option maxRecDepth 100000 in
set_option maxHeartbeats 4000000 in
theorem bX4_wish_2 {p : Program} {l : Launch} {e : Env} {s : State} {m : MethodId} {args : Array Value} {below : List Frame} {meth : Method} {c : Code} {D : va_G} {z : Nat → Nat} {A : Nat → Prop} {ad : Nat → Nat → Nat} {cy : Nat → ClassId} {Rr : va_W} {Q : St → Prop} (E : CallFix p m c cX4_wish 4 s args TB RX4) (hr : meth.sig.returnType = none) (hlk : meth.locks = false) : ∀ (n : Nat) {q0 : Nat} {a1 : Int32} {a2 : Int32} {a3 : Int32} (hq0 : kd q0 = 4) {σ : St} {H : Heap} {locs : List Loc} {ls : Array Slot}, wX4_wish_l2 n q0 a1 a2 a3 σ Q → In (D, tysC cy, SF z) (LC ad cy Rr σ) A s H locs → lv_has ls 4 [(0, .ref (ad q0 99)), (1, .int a1), (2, .int a2), (3, .int a3)] → W p l e (rmD 0) s m args below meth c H locs 0 0 (PV below args s (D, tysC cy, SF z) A (LC ad cy Rr) Q) (F0 m 2 ls []) := by
  have hx := E.1
  have hb := E.2.1
  intro n
  induction n with
  | zero => intro q0 a1 a2 a3 hq0 σ H locs ls hf hI hl; exact False.elim hf
  | succ n ih =>
    intro q0 a1 a2 a3 hq0 σ H locs ls hf hI hl
    have hf : wX4_wish_l2s (fun q0 a1 a2 a3 σ => wX4_wish_l2 n q0 a1 a2 a3 σ Q) q0 a1 a2 a3 σ Q := hf
    unfold wX4_wish_l2s at hf
    refine lv_iload_n (pc := 2) hx hb dX4_wish_2 rfl (lv_at hl 3 rfl) ?_
    refine lv_iconst (v := 4) (pc := 3) hx hb dX4_wish_3 rfl ?_
    refine lv_icmp_ge (tgt := 29) (pc := 4) hx hb dX4_wish_4 (by decide) (fun c1 => ?_) (fun c1 => ?_)
    · have hf := hf.1 c1
      refine lv_aload_n (pc := 29) hx hb dX4_wish_29 rfl (lv_at hl 0 rfl) ?_
      refine g4_0 (pc := 30) E hI hq0 lkX4_9 dX4_wish_30 ?_
      refine lv_iload_n (pc := 33) hx hb dX4_wish_33 rfl (lv_at hl 2 rfl) ?_
      refine lv_dup2_11 (pc := 34) hx hb dX4_wish_34 rfl rfl ?_
      have g2 := hf.1
      have hf := hf.2
      refine a4_0 (pc := 35) E hI hq0 g2 dX4_wish_35 ?_
      refine lv_lconst (v := 1) (pc := 36) hx hb dX4_wish_36 rfl ?_
      refine lv_iload_n (pc := 37) hx hb dX4_wish_37 rfl (lv_at hl 1 rfl) ?_
      refine lv_lshl (v := (lsh 1 a1)) (pc := 38) hx hb dX4_wish_38 rfl ?_
      refine lv_lor (pc := 39) hx hb dX4_wish_39 ?_
      have g3 := hf.1
      have hf := hf.2
      refine s4_0 (pc := 40) E hI hq0 g3 dX4_wish_40 (fun H locs σ4 eσ4 hI => ?_)
      have hf := hf σ4 eσ4
      exact rV (pc := 41) E hr hlk hI hf dX4_wish_41
    · have hf := hf.2 c1
      refine lv_aload_n (pc := 7) hx hb dX4_wish_7 rfl (lv_at hl 0 rfl) ?_
      refine g4_0 (pc := 8) E hI hq0 lkX4_9 dX4_wish_8 ?_
      refine lv_iload_n (pc := 11) hx hb dX4_wish_11 rfl (lv_at hl 3 rfl) ?_
      refine lv_dup2_11 (pc := 12) hx hb dX4_wish_12 rfl rfl ?_
      have g5 := hf.1
      have hf := hf.2
      refine a4_0 (pc := 13) E hI hq0 g5 dX4_wish_13 ?_
      refine lv_lconst (v := 1) (pc := 14) hx hb dX4_wish_14 rfl ?_
      refine lv_iload_n (pc := 15) hx hb dX4_wish_15 rfl (lv_at hl 1 rfl) ?_
      refine lv_lshl (v := (lsh 1 a1)) (pc := 16) hx hb dX4_wish_16 rfl ?_
      refine lv_ldc2 (pc := 17) E.1 E.2.1 E.2.2.2.1 (E.2.2.2.2 _ kcX4_60) dX4_wish_17 ?_
      refine lv_lxor (pc := 20) hx hb dX4_wish_20 ?_
      refine lv_land (pc := 21) hx hb dX4_wish_21 ?_
      have g6 := hf.1
      have hf := hf.2
      refine s4_0 (pc := 22) E hI hq0 g6 dX4_wish_22 (fun H locs σ7 eσ7 hI => ?_)
      have hf := hf σ7 eσ7
      obtain ⟨x8, ex8⟩ : ∃ y : Int32, y = a3 + 1 := ⟨_, rfl⟩
      have hf := hf x8 ex8
      refine lv_iinc (v := x8) (lv' := [(3, .int x8), (0, .ref (ad q0 99)), (1, .int a1), (2, .int a2)]) (pc := 23) hx hb dX4_wish_23 hl (k := 3) rfl (by rw [ex8]; rfl) (by decide) rfl (fun ls hl => ?_)
      refine lv_goto (tgt := 2) (pc := 26) hx hb dX4_wish_26 (by decide) ?_
      exact ih hq0 hf hI (lv_sub hl [1, 2, 3, 0] rfl)
def wX4_wish (o : Nat) (p1 : Int32) (p2 : Int32) (σ : St) (Q : St → Prop) : Prop := ∃ n9 : Nat, wX4_wish_l2 n9 o p1 p2 0 σ Q
set_option maxRecDepth 100000 in
set_option maxHeartbeats 4000000 in
theorem bX4_wish {p : Program} {l : Launch} {e : Env} {s : State} {m : MethodId} {args : Array Value} {below : List Frame} {meth : Method} {c : Code} {H : Heap} {locs : List Loc} {ls : Array Slot} {D : va_G} {z : Nat → Nat} {A : Nat → Prop} {σ : St} {ad : Nat → Nat → Nat} {cy : Nat → ClassId} {Rr : va_W} {Q : St → Prop} {o : Nat} {p1 : Int32} {p2 : Int32} (E : CallFix p m c cX4_wish 4 s args TB RX4) (hr : meth.sig.returnType = none) (hlk : meth.locks = false) (ho : kd o = 4) (hf : wX4_wish o p1 p2 σ Q) (hI : In (D, tysC cy, SF z) (LC ad cy Rr σ) A s H locs) (hl : lv_has ls 4 [(0, .ref (ad o 99)), (1, .int p1), (2, .int p2)]) : W p l e (rmD 0) s m args below meth c H locs 0 0 (PV below args s (D, tysC cy, SF z) A (LC ad cy Rr) Q) (F0 m 0 ls []) := by
  have hx := E.1
  have hb := E.2.1
  unfold wX4_wish at hf
  refine lv_iconst (v := 0) (pc := 0) hx hb dX4_wish_0 rfl ?_
  refine lv_istore_n (lv' := [(3, .int 0), (0, .ref (ad o 99)), (1, .int p1), (2, .int p2)]) (pc := 1) hx hb dX4_wish_1 rfl hl (by decide) rfl (fun ls hl => ?_)
  obtain ⟨n9, hf⟩ := hf
  exact bX4_wish_2 E hr hlk n9 ho hf hI (lv_sub hl [1, 2, 3, 0] rfl)
theorem tX4_wish {l : Launch} {D : va_G} {z : Nat → Nat} {σ : St} {ad : Nat → Nat → Nat} {cy : Nat → ClassId} {Rr : va_W} {Q : St → Prop} {o : Nat} {p1 : Int32} {p2 : Int32} (ho : kd o = 4) (hf : wX4_wish o p1 p2 σ Q) : CtV l yX4_wish cX4_wish 4 0 (D, tysC cy, SF z) (LC ad cy Rr) [.ref (ad o 99), .int p1, .int p2] σ Q := mkV (by decide) (Nat.le_of_ble_eq_true rfl) (fun p e s m below meth c A E hr hlk hI ls hl => bX4_wish E hr hlk ho hf hI hl)

def wX4_squaresInBox_l4s (ih : Nat → Int32 → Int32 → St → Prop) (q0 : Nat) (a1 : Int32) (a2 : Int32) (σ : St) (Q : Int32 → St → Prop) : Prop := ((4 ≤ a2 → Q a1 σ) ∧ (¬ 4 ≤ a2 → vp_in a2 4 ∧ ∀ x3 : Int32, x3 = (a1 + (gA σ q0 4 a2.toNatClampNeg)) → ∀ x4 : Int32, x4 = a2 + 1 → (ih q0 x3 x4 σ)))
def wX4_squaresInBox_l4 (n : Nat) : Nat → Int32 → Int32 → St → (Int32 → St → Prop) → Prop := @Nat.rec (fun _ => Nat → Int32 → Int32 → St → (Int32 → St → Prop) → Prop) (fun _ _ _ _ _ => False) (fun _ ih q0 a1 a2 σ Q => wX4_squaresInBox_l4s (fun q0 a1 a2 σ => ih q0 a1 a2 σ Q) q0 a1 a2 σ Q) n
set_option maxRecDepth 100000 in
set_option maxHeartbeats 4000000 in
theorem bX4_squaresInBox_4 {p : Program} {l : Launch} {e : Env} {s : State} {m : MethodId} {args : Array Value} {below : List Frame} {meth : Method} {c : Code} {D : va_G} {z : Nat → Nat} {A : Nat → Prop} {ad : Nat → Nat → Nat} {cy : Nat → ClassId} {Rr : va_W} {Q : Int32 → St → Prop} (E : CallFix p m c cX4_squaresInBox 3 s args TB RX4) (hr : meth.sig.returnType = some .int) (hlk : meth.locks = false) : ∀ (n : Nat) {q0 : Nat} {a1 : Int32} {a2 : Int32} (hq0 : kd q0 = 4) {σ : St} {H : Heap} {locs : List Loc} {ls : Array Slot}, wX4_squaresInBox_l4 n q0 a1 a2 σ Q → In (D, tysC cy, SF z) (LC ad cy Rr σ) A s H locs → lv_has ls 3 [(0, .ref (ad q0 99)), (1, .int a1), (2, .int a2)] → W p l e (rmD 0) s m args below meth c H locs 0 0 (PI below args s (D, tysC cy, SF z) A (LC ad cy Rr) Q) (F0 m 4 ls []) := by
  have hx := E.1
  have hb := E.2.1
  intro n
  induction n with
  | zero => intro q0 a1 a2 hq0 σ H locs ls hf hI hl; exact False.elim hf
  | succ n ih =>
    intro q0 a1 a2 hq0 σ H locs ls hf hI hl
    have hf : wX4_squaresInBox_l4s (fun q0 a1 a2 σ => wX4_squaresInBox_l4 n q0 a1 a2 σ Q) q0 a1 a2 σ Q := hf
    unfold wX4_squaresInBox_l4s at hf
    refine lv_iload_n (pc := 4) hx hb dX4_squaresInBox_4 rfl (lv_at hl 2 rfl) ?_
    refine lv_iconst (v := 4) (pc := 5) hx hb dX4_squaresInBox_5 rfl ?_
    refine lv_icmp_ge (tgt := 24) (pc := 6) hx hb dX4_squaresInBox_6 (by decide) (fun c1 => ?_) (fun c1 => ?_)
    · have hf := hf.1 c1
      refine lv_iload_n (pc := 24) hx hb dX4_squaresInBox_24 rfl (lv_at hl 1 rfl) ?_
      exact rI (pc := 25) E hr hlk hI hf dX4_squaresInBox_25
    · have hf := hf.2 c1
      refine lv_iload_n (pc := 9) hx hb dX4_squaresInBox_9 rfl (lv_at hl 1 rfl) ?_
      refine lv_aload_n (pc := 10) hx hb dX4_squaresInBox_10 rfl (lv_at hl 0 rfl) ?_
      refine g4_4 (pc := 11) E hI hq0 lkX4_26 dX4_squaresInBox_11 ?_
      refine lv_iload_n (pc := 14) hx hb dX4_squaresInBox_14 rfl (lv_at hl 2 rfl) ?_
      have g2 := hf.1
      have hf := hf.2
      refine a4_4 (pc := 15) E hI hq0 g2 dX4_squaresInBox_15 ?_
      refine lv_iadd (pc := 16) hx hb dX4_squaresInBox_16 ?_
      refine lv_topi (fun x3 ex3 => ?_)
      have hf := hf x3 ex3
      refine lv_istore_n (lv' := [(1, .int x3), (0, .ref (ad q0 99)), (2, .int a2)]) (pc := 17) hx hb dX4_squaresInBox_17 rfl hl (by decide) rfl (fun ls hl => ?_)
      obtain ⟨x4, ex4⟩ : ∃ y : Int32, y = a2 + 1 := ⟨_, rfl⟩
      have hf := hf x4 ex4
      refine lv_iinc (v := x4) (lv' := [(2, .int x4), (1, .int x3), (0, .ref (ad q0 99))]) (pc := 18) hx hb dX4_squaresInBox_18 hl (k := 2) rfl (by rw [ex4]; rfl) (by decide) rfl (fun ls hl => ?_)
      refine lv_goto (tgt := 4) (pc := 21) hx hb dX4_squaresInBox_21 (by decide) ?_
      exact ih hq0 hf hI (lv_sub hl [2, 1, 0] rfl)
def wX4_squaresInBox (o : Nat) (σ : St) (Q : Int32 → St → Prop) : Prop := ∃ n5 : Nat, wX4_squaresInBox_l4 n5 o 0 0 σ Q
set_option maxRecDepth 100000 in
set_option maxHeartbeats 4000000 in
theorem bX4_squaresInBox {p : Program} {l : Launch} {e : Env} {s : State} {m : MethodId} {args : Array Value} {below : List Frame} {meth : Method} {c : Code} {H : Heap} {locs : List Loc} {ls : Array Slot} {D : va_G} {z : Nat → Nat} {A : Nat → Prop} {σ : St} {ad : Nat → Nat → Nat} {cy : Nat → ClassId} {Rr : va_W} {Q : Int32 → St → Prop} {o : Nat} (E : CallFix p m c cX4_squaresInBox 3 s args TB RX4) (hr : meth.sig.returnType = some .int) (hlk : meth.locks = false) (ho : kd o = 4) (hf : wX4_squaresInBox o σ Q) (hI : In (D, tysC cy, SF z) (LC ad cy Rr σ) A s H locs) (hl : lv_has ls 3 [(0, .ref (ad o 99))]) : W p l e (rmD 0) s m args below meth c H locs 0 0 (PI below args s (D, tysC cy, SF z) A (LC ad cy Rr) Q) (F0 m 0 ls []) := by
  have hx := E.1
  have hb := E.2.1
  unfold wX4_squaresInBox at hf
  refine lv_iconst (v := 0) (pc := 0) hx hb dX4_squaresInBox_0 rfl ?_
  refine lv_istore_n (lv' := [(1, .int 0), (0, .ref (ad o 99))]) (pc := 1) hx hb dX4_squaresInBox_1 rfl hl (by decide) rfl (fun ls hl => ?_)
  refine lv_iconst (v := 0) (pc := 2) hx hb dX4_squaresInBox_2 rfl ?_
  refine lv_istore_n (lv' := [(2, .int 0), (1, .int 0), (0, .ref (ad o 99))]) (pc := 3) hx hb dX4_squaresInBox_3 rfl hl (by decide) rfl (fun ls hl => ?_)
  obtain ⟨n5, hf⟩ := hf
  exact bX4_squaresInBox_4 E hr hlk n5 ho hf hI (lv_sub hl [2, 1, 0] rfl)
theorem tX4_squaresInBox {l : Launch} {D : va_G} {z : Nat → Nat} {σ : St} {ad : Nat → Nat → Nat} {cy : Nat → ClassId} {Rr : va_W} {Q : Int32 → St → Prop} {o : Nat} (ho : kd o = 4) (hf : wX4_squaresInBox o σ Q) : CtI l yX4_squaresInBox cX4_squaresInBox 3 .int 0 (D, tysC cy, SF z) (LC ad cy Rr) [.ref (ad o 99)] σ Q := mkI (by decide) (Nat.le_of_ble_eq_true rfl) (fun p e s m below meth c A E hr hlk hI ls hl => bX4_squaresInBox E hr hlk ho hf hI hl)

def wX4_squaresGiven_l4s (ih : Nat → Int32 → Int32 → St → Prop) (q0 : Nat) (a1 : Int32) (a2 : Int32) (σ : St) (Q : Int32 → St → Prop) : Prop := (((gI σ q0 5) ≤ a2 → Q a1 σ) ∧ (¬ (gI σ q0 5) ≤ a2 → vp_in a2 5 ∧ ∀ x3 : Int32, x3 = (a1 + (gA σ q0 10 a2.toNatClampNeg)) → ∀ x4 : Int32, x4 = a2 + 1 → (ih q0 x3 x4 σ)))
def wX4_squaresGiven_l4 (n : Nat) : Nat → Int32 → Int32 → St → (Int32 → St → Prop) → Prop := @Nat.rec (fun _ => Nat → Int32 → Int32 → St → (Int32 → St → Prop) → Prop) (fun _ _ _ _ _ => False) (fun _ ih q0 a1 a2 σ Q => wX4_squaresGiven_l4s (fun q0 a1 a2 σ => ih q0 a1 a2 σ Q) q0 a1 a2 σ Q) n
set_option maxRecDepth 100000 in
set_option maxHeartbeats 4000000 in
theorem bX4_squaresGiven_4 {p : Program} {l : Launch} {e : Env} {s : State} {m : MethodId} {args : Array Value} {below : List Frame} {meth : Method} {c : Code} {D : va_G} {z : Nat → Nat} {A : Nat → Prop} {ad : Nat → Nat → Nat} {cy : Nat → ClassId} {Rr : va_W} {Q : Int32 → St → Prop} (E : CallFix p m c cX4_squaresGiven 3 s args TB RX4) (hr : meth.sig.returnType = some .int) (hlk : meth.locks = false) : ∀ (n : Nat) {q0 : Nat} {a1 : Int32} {a2 : Int32} (hq0 : kd q0 = 4) {σ : St} {H : Heap} {locs : List Loc} {ls : Array Slot}, wX4_squaresGiven_l4 n q0 a1 a2 σ Q → In (D, tysC cy, SF z) (LC ad cy Rr σ) A s H locs → lv_has ls 3 [(0, .ref (ad q0 99)), (1, .int a1), (2, .int a2)] → W p l e (rmD 0) s m args below meth c H locs 0 0 (PI below args s (D, tysC cy, SF z) A (LC ad cy Rr) Q) (F0 m 4 ls []) := by
  have hx := E.1
  have hb := E.2.1
  intro n
  induction n with
  | zero => intro q0 a1 a2 hq0 σ H locs ls hf hI hl; exact False.elim hf
  | succ n ih =>
    intro q0 a1 a2 hq0 σ H locs ls hf hI hl
    have hf : wX4_squaresGiven_l4s (fun q0 a1 a2 σ => wX4_squaresGiven_l4 n q0 a1 a2 σ Q) q0 a1 a2 σ Q := hf
    unfold wX4_squaresGiven_l4s at hf
    refine lv_iload_n (pc := 4) hx hb dX4_squaresGiven_4 rfl (lv_at hl 2 rfl) ?_
    refine lv_aload_n (pc := 5) hx hb dX4_squaresGiven_5 rfl (lv_at hl 0 rfl) ?_
    refine g4_5 (pc := 6) E hI hq0 lkX4_30 dX4_squaresGiven_6 ?_
    refine lv_icmp_ge (tgt := 27) (pc := 9) hx hb dX4_squaresGiven_9 (by decide) (fun c1 => ?_) (fun c1 => ?_)
    · have hf := hf.1 c1
      refine lv_iload_n (pc := 27) hx hb dX4_squaresGiven_27 rfl (lv_at hl 1 rfl) ?_
      exact rI (pc := 28) E hr hlk hI hf dX4_squaresGiven_28
    · have hf := hf.2 c1
      refine lv_iload_n (pc := 12) hx hb dX4_squaresGiven_12 rfl (lv_at hl 1 rfl) ?_
      refine lv_aload_n (pc := 13) hx hb dX4_squaresGiven_13 rfl (lv_at hl 0 rfl) ?_
      refine g4_10 (pc := 14) E hI hq0 lkX4_45 dX4_squaresGiven_14 ?_
      refine lv_iload_n (pc := 17) hx hb dX4_squaresGiven_17 rfl (lv_at hl 2 rfl) ?_
      have g2 := hf.1
      have hf := hf.2
      refine a4_10 (pc := 18) E hI hq0 g2 dX4_squaresGiven_18 ?_
      refine lv_iadd (pc := 19) hx hb dX4_squaresGiven_19 ?_
      refine lv_topi (fun x3 ex3 => ?_)
      have hf := hf x3 ex3
      refine lv_istore_n (lv' := [(1, .int x3), (0, .ref (ad q0 99)), (2, .int a2)]) (pc := 20) hx hb dX4_squaresGiven_20 rfl hl (by decide) rfl (fun ls hl => ?_)
      obtain ⟨x4, ex4⟩ : ∃ y : Int32, y = a2 + 1 := ⟨_, rfl⟩
      have hf := hf x4 ex4
      refine lv_iinc (v := x4) (lv' := [(2, .int x4), (1, .int x3), (0, .ref (ad q0 99))]) (pc := 21) hx hb dX4_squaresGiven_21 hl (k := 2) rfl (by rw [ex4]; rfl) (by decide) rfl (fun ls hl => ?_)
      refine lv_goto (tgt := 4) (pc := 24) hx hb dX4_squaresGiven_24 (by decide) ?_
      exact ih hq0 hf hI (lv_sub hl [2, 1, 0] rfl)
def wX4_squaresGiven (o : Nat) (σ : St) (Q : Int32 → St → Prop) : Prop := ∃ n5 : Nat, wX4_squaresGiven_l4 n5 o 0 0 σ Q
set_option maxRecDepth 100000 in
set_option maxHeartbeats 4000000 in
theorem bX4_squaresGiven {p : Program} {l : Launch} {e : Env} {s : State} {m : MethodId} {args : Array Value} {below : List Frame} {meth : Method} {c : Code} {H : Heap} {locs : List Loc} {ls : Array Slot} {D : va_G} {z : Nat → Nat} {A : Nat → Prop} {σ : St} {ad : Nat → Nat → Nat} {cy : Nat → ClassId} {Rr : va_W} {Q : Int32 → St → Prop} {o : Nat} (E : CallFix p m c cX4_squaresGiven 3 s args TB RX4) (hr : meth.sig.returnType = some .int) (hlk : meth.locks = false) (ho : kd o = 4) (hf : wX4_squaresGiven o σ Q) (hI : In (D, tysC cy, SF z) (LC ad cy Rr σ) A s H locs) (hl : lv_has ls 3 [(0, .ref (ad o 99))]) : W p l e (rmD 0) s m args below meth c H locs 0 0 (PI below args s (D, tysC cy, SF z) A (LC ad cy Rr) Q) (F0 m 0 ls []) := by
  have hx := E.1
  have hb := E.2.1
  unfold wX4_squaresGiven at hf
  refine lv_iconst (v := 0) (pc := 0) hx hb dX4_squaresGiven_0 rfl ?_
  refine lv_istore_n (lv' := [(1, .int 0), (0, .ref (ad o 99))]) (pc := 1) hx hb dX4_squaresGiven_1 rfl hl (by decide) rfl (fun ls hl => ?_)
  refine lv_iconst (v := 0) (pc := 2) hx hb dX4_squaresGiven_2 rfl ?_
  refine lv_istore_n (lv' := [(2, .int 0), (1, .int 0), (0, .ref (ad o 99))]) (pc := 3) hx hb dX4_squaresGiven_3 rfl hl (by decide) rfl (fun ls hl => ?_)
  obtain ⟨n5, hf⟩ := hf
  exact bX4_squaresGiven_4 E hr hlk n5 ho hf hI (lv_sub hl [2, 1, 0] rfl)
theorem tX4_squaresGiven {l : Launch} {D : va_G} {z : Nat → Nat} {σ : St} {ad : Nat → Nat → Nat} {cy : Nat → ClassId} {Rr : va_W} {Q : Int32 → St → Prop} {o : Nat} (ho : kd o = 4) (hf : wX4_squaresGiven o σ Q) : CtI l yX4_squaresGiven cX4_squaresGiven 3 .int 0 (D, tysC cy, SF z) (LC ad cy Rr) [.ref (ad o 99)] σ Q := mkI (by decide) (Nat.le_of_ble_eq_true rfl) (fun p e s m below meth c A E hr hlk hI ls hl => bX4_squaresGiven E hr hlk ho hf hI hl)

def wX4_lay (o : Nat) (p1 : Int32) (σ : St) (Q : St → Prop) : Prop := vp_in p1 4 ∧ ∀ x2 : Int64, x2 = ((gB σ o 0 p1.toNatClampNeg) &&& ((gJ σ o 1) ^^^ (-1))) → (((lg_cmp x2 0) = 0 → vp_in p1 4 ∧ ((99 ≤ (gA σ o 4 p1.toNatClampNeg) → Q σ) ∧ (¬ 99 ≤ (gA σ o 4 p1.toNatClampNeg) → vp_in p1 4 ∧ vp_in p1 4 ∧ ∀ σ8 : St, σ8 = sA σ o 4 p1.toNatClampNeg ((gA σ o 4 p1.toNatClampNeg) + 1) → Q σ8))) ∧ (¬ (lg_cmp x2 0) = 0 → ∀ σ9 : St, σ9 = sJ σ o 1 ((gJ σ o 1) ||| (x2 &&& (-x2))) → Q σ9))
set_option maxRecDepth 100000 in
set_option maxHeartbeats 4000000 in
theorem bX4_lay {p : Program} {l : Launch} {e : Env} {s : State} {m : MethodId} {args : Array Value} {below : List Frame} {meth : Method} {c : Code} {H : Heap} {locs : List Loc} {ls : Array Slot} {D : va_G} {z : Nat → Nat} {A : Nat → Prop} {σ : St} {ad : Nat → Nat → Nat} {cy : Nat → ClassId} {Rr : va_W} {Q : St → Prop} {o : Nat} {p1 : Int32} (E : CallFix p m c cX4_lay 4 s args TB RX4) (hr : meth.sig.returnType = none) (hlk : meth.locks = false) (ho : kd o = 4) (hf : wX4_lay o p1 σ Q) (hI : In (D, tysC cy, SF z) (LC ad cy Rr σ) A s H locs) (hl : lv_has ls 4 [(0, .ref (ad o 99)), (1, .int p1)]) : W p l e (rmD 0) s m args below meth c H locs 0 0 (PV below args s (D, tysC cy, SF z) A (LC ad cy Rr) Q) (F0 m 0 ls []) := by
  have hx := E.1
  have hb := E.2.1
  unfold wX4_lay at hf
  refine lv_aload_n (pc := 0) hx hb dX4_lay_0 rfl (lv_at hl 0 rfl) ?_
  refine g4_0 (pc := 1) E hI ho lkX4_9 dX4_lay_1 ?_
  refine lv_iload_n (pc := 4) hx hb dX4_lay_4 rfl (lv_at hl 1 rfl) ?_
  have g1 := hf.1
  have hf := hf.2
  refine a4_0 (pc := 5) E hI ho g1 dX4_lay_5 ?_
  refine lv_aload_n (pc := 6) hx hb dX4_lay_6 rfl (lv_at hl 0 rfl) ?_
  refine g4_1 (pc := 7) E hI ho lkX4_15 dX4_lay_7 ?_
  refine lv_ldc2 (pc := 10) E.1 E.2.1 E.2.2.2.1 (E.2.2.2.2 _ kcX4_60) dX4_lay_10 ?_
  refine lv_lxor (pc := 13) hx hb dX4_lay_13 ?_
  refine lv_land (pc := 14) hx hb dX4_lay_14 ?_
  refine lv_topl (fun x2 ex2 => ?_)
  have hf := hf x2 ex2
  refine lv_lstore_n (lv' := [(2, .long x2), (0, .ref (ad o 99)), (1, .int p1)]) (pc := 15) hx hb dX4_lay_15 rfl hl (by decide) rfl (fun ls hl => ?_)
  refine lv_lload_n (pc := 16) hx hb dX4_lay_16 rfl (lv_at hl 0 rfl) ?_
  refine lv_lconst (v := 0) (pc := 17) hx hb dX4_lay_17 rfl ?_
  refine W.lcmp (pc := 18) hx hb dX4_lay_18 ?_
  refine lv_if_eq (tgt := 38) (pc := 19) hx hb dX4_lay_19 (by decide) (fun c3 => ?_) (fun c3 => ?_)
  · have hf := hf.1 c3
    refine lv_aload_n (pc := 38) hx hb dX4_lay_38 rfl (lv_at hl 1 rfl) ?_
    refine g4_4 (pc := 39) E hI ho lkX4_26 dX4_lay_39 ?_
    refine lv_iload_n (pc := 42) hx hb dX4_lay_42 rfl (lv_at hl 2 rfl) ?_
    have g4 := hf.1
    have hf := hf.2
    refine a4_4 (pc := 43) E hI ho g4 dX4_lay_43 ?_
    refine lv_bipush (v := 99) (pc := 44) hx hb dX4_lay_44 rfl ?_
    refine lv_icmp_ge (tgt := 59) (pc := 46) hx hb dX4_lay_46 (by decide) (fun c5 => ?_) (fun c5 => ?_)
    · have hf := hf.1 c5
      exact rV (pc := 59) E hr hlk hI hf dX4_lay_59
    · have hf := hf.2 c5
      refine lv_aload_n (pc := 49) hx hb dX4_lay_49 rfl (lv_at hl 1 rfl) ?_
      refine g4_4 (pc := 50) E hI ho lkX4_26 dX4_lay_50 ?_
      refine lv_iload_n (pc := 53) hx hb dX4_lay_53 rfl (lv_at hl 2 rfl) ?_
      refine lv_dup2_11 (pc := 54) hx hb dX4_lay_54 rfl rfl ?_
      have g6 := hf.1
      have hf := hf.2
      refine a4_4 (pc := 55) E hI ho g6 dX4_lay_55 ?_
      refine lv_iconst (v := 1) (pc := 56) hx hb dX4_lay_56 rfl ?_
      refine lv_iadd (pc := 57) hx hb dX4_lay_57 ?_
      have g7 := hf.1
      have hf := hf.2
      refine s4_4 (pc := 58) E hI ho g7 dX4_lay_58 (fun H locs σ8 eσ8 hI => ?_)
      have hf := hf σ8 eσ8
      exact rV (pc := 59) E hr hlk hI hf dX4_lay_59
  · have hf := hf.2 c3
    refine lv_aload_n (pc := 22) hx hb dX4_lay_22 rfl (lv_at hl 1 rfl) ?_
    refine lv_dup (pc := 23) hx hb dX4_lay_23 rfl ?_
    refine g4_1 (pc := 24) E hI ho lkX4_15 dX4_lay_24 ?_
    refine lv_lload_n (pc := 27) hx hb dX4_lay_27 rfl (lv_at hl 0 rfl) ?_
    refine lv_lload_n (pc := 28) hx hb dX4_lay_28 rfl (lv_at hl 0 rfl) ?_
    refine lv_lneg (pc := 29) hx hb dX4_lay_29 ?_
    refine lv_land (pc := 30) hx hb dX4_lay_30 ?_
    refine lv_lor (pc := 31) hx hb dX4_lay_31 ?_
    refine p4_1 (pc := 32) E hI ho lkX4_15 dX4_lay_32 (fun H locs σ9 eσ9 hI => ?_)
    have hf := hf σ9 eσ9
    refine lv_goto (tgt := 59) (pc := 35) hx hb dX4_lay_35 (by decide) ?_
    exact rV (pc := 59) E hr hlk hI hf dX4_lay_59
theorem tX4_lay {l : Launch} {D : va_G} {z : Nat → Nat} {σ : St} {ad : Nat → Nat → Nat} {cy : Nat → ClassId} {Rr : va_W} {Q : St → Prop} {o : Nat} {p1 : Int32} (ho : kd o = 4) (hf : wX4_lay o p1 σ Q) : CtV l yX4_lay cX4_lay 4 0 (D, tysC cy, SF z) (LC ad cy Rr) [.ref (ad o 99), .int p1] σ Q := mkV (by decide) (Nat.le_of_ble_eq_true rfl) (fun p e s m below meth c A E hr hlk hI ls hl => bX4_lay E hr hlk ho hf hI hl)

def wX4_coloursUnwanted_j35 (q0 : Nat) (a1 : Int32) (a2 : Int32) (σ : St) (K : Nat → Int32 → Int32 → St → Prop) (Q : Int32 → St → Prop) : Prop := ∀ x4 : Int32, x4 = a2 + 1 → (K q0 a1 x4 σ)
set_option maxRecDepth 100000 in
set_option maxHeartbeats 4000000 in
theorem bX4_coloursUnwanted_35 {p : Program} {l : Launch} {e : Env} {s : State} {m : MethodId} {args : Array Value} {below : List Frame} {meth : Method} {c : Code} {H : Heap} {locs : List Loc} {ls : Array Slot} {D : va_G} {z : Nat → Nat} {A : Nat → Prop} {σ : St} {ad : Nat → Nat → Nat} {cy : Nat → ClassId} {Rr : va_W} {Q : Int32 → St → Prop} {q0 : Nat} {a1 : Int32} {a2 : Int32} {K : Nat → Int32 → Int32 → St → Prop} (E : CallFix p m c cX4_coloursUnwanted 3 s args TB RX4) (hr : meth.sig.returnType = some .int) (hlk : meth.locks = false) (hq0 : kd q0 = 4) (hK : ∀ (q0 : Nat) (a1 : Int32) (a2 : Int32) (_ : kd q0 = 4) (σ : St) (H : Heap) (locs : List Loc) (ls : Array Slot), K q0 a1 a2 σ → In (D, tysC cy, SF z) (LC ad cy Rr σ) A s H locs → lv_has ls 3 [(0, .ref (ad q0 99)), (1, .int a1), (2, .int a2)] → W p l e (rmD 0) s m args below meth c H locs 0 0 (PI below args s (D, tysC cy, SF z) A (LC ad cy Rr) Q) (F0 m 4 ls [])) (hf : wX4_coloursUnwanted_j35 q0 a1 a2 σ K Q) (hI : In (D, tysC cy, SF z) (LC ad cy Rr σ) A s H locs) (hl : lv_has ls 3 [(0, .ref (ad q0 99)), (1, .int a1), (2, .int a2)]) : W p l e (rmD 0) s m args below meth c H locs 0 0 (PI below args s (D, tysC cy, SF z) A (LC ad cy Rr) Q) (F0 m 35 ls []) := by
  have hx := E.1
  have hb := E.2.1
  unfold wX4_coloursUnwanted_j35 at hf
  obtain ⟨x4, ex4⟩ : ∃ y : Int32, y = a2 + 1 := ⟨_, rfl⟩
  have hf := hf x4 ex4
  refine lv_iinc (v := x4) (lv' := [(2, .int x4), (0, .ref (ad q0 99)), (1, .int a1)]) (pc := 35) hx hb dX4_coloursUnwanted_35 hl (k := 2) rfl (by rw [ex4]; rfl) (by decide) rfl (fun ls hl => ?_)
  refine lv_goto (tgt := 4) (pc := 38) hx hb dX4_coloursUnwanted_38 (by decide) ?_
  exact hK _ _ _ hq0 _ _ _ _ hf hI (lv_sub hl [1, 2, 0] rfl)
def wX4_coloursUnwanted_l4s (ih : Nat → Int32 → Int32 → St → Prop) (q0 : Nat) (a1 : Int32) (a2 : Int32) (σ : St) (Q : Int32 → St → Prop) : Prop := ((4 ≤ a2 → Q a1 σ) ∧ (¬ 4 ≤ a2 → vp_in a2 4 ∧ ((¬ (lg_cmp ((gB σ q0 0 a2.toNatClampNeg) &&& ((gJ σ q0 1) ^^^ (-1))) 0) = 0 → (wX4_coloursUnwanted_j35 q0 a1 a2 σ ih Q)) ∧ ((lg_cmp ((gB σ q0 0 a2.toNatClampNeg) &&& ((gJ σ q0 1) ^^^ (-1))) 0) = 0 → ∀ x5 : Int32, x5 = (a1 ||| (ish 1 a2)) → (wX4_coloursUnwanted_j35 q0 x5 a2 σ ih Q)))))
def wX4_coloursUnwanted_l4 (n : Nat) : Nat → Int32 → Int32 → St → (Int32 → St → Prop) → Prop := @Nat.rec (fun _ => Nat → Int32 → Int32 → St → (Int32 → St → Prop) → Prop) (fun _ _ _ _ _ => False) (fun _ ih q0 a1 a2 σ Q => wX4_coloursUnwanted_l4s (fun q0 a1 a2 σ => ih q0 a1 a2 σ Q) q0 a1 a2 σ Q) n
set_option maxRecDepth 100000 in
set_option maxHeartbeats 4000000 in
theorem bX4_coloursUnwanted_4 {p : Program} {l : Launch} {e : Env} {s : State} {m : MethodId} {args : Array Value} {below : List Frame} {meth : Method} {c : Code} {D : va_G} {z : Nat → Nat} {A : Nat → Prop} {ad : Nat → Nat → Nat} {cy : Nat → ClassId} {Rr : va_W} {Q : Int32 → St → Prop} (E : CallFix p m c cX4_coloursUnwanted 3 s args TB RX4) (hr : meth.sig.returnType = some .int) (hlk : meth.locks = false) : ∀ (n : Nat) {q0 : Nat} {a1 : Int32} {a2 : Int32} (hq0 : kd q0 = 4) {σ : St} {H : Heap} {locs : List Loc} {ls : Array Slot}, wX4_coloursUnwanted_l4 n q0 a1 a2 σ Q → In (D, tysC cy, SF z) (LC ad cy Rr σ) A s H locs → lv_has ls 3 [(0, .ref (ad q0 99)), (1, .int a1), (2, .int a2)] → W p l e (rmD 0) s m args below meth c H locs 0 0 (PI below args s (D, tysC cy, SF z) A (LC ad cy Rr) Q) (F0 m 4 ls []) := by
  have hx := E.1
  have hb := E.2.1
  intro n
  induction n with
  | zero => intro q0 a1 a2 hq0 σ H locs ls hf hI hl; exact False.elim hf
  | succ n ih =>
    intro q0 a1 a2 hq0 σ H locs ls hf hI hl
    have hf : wX4_coloursUnwanted_l4s (fun q0 a1 a2 σ => wX4_coloursUnwanted_l4 n q0 a1 a2 σ Q) q0 a1 a2 σ Q := hf
    unfold wX4_coloursUnwanted_l4s at hf
    refine lv_iload_n (pc := 4) hx hb dX4_coloursUnwanted_4 rfl (lv_at hl 2 rfl) ?_
    refine lv_iconst (v := 4) (pc := 5) hx hb dX4_coloursUnwanted_5 rfl ?_
    refine lv_icmp_ge (tgt := 41) (pc := 6) hx hb dX4_coloursUnwanted_6 (by decide) (fun c1 => ?_) (fun c1 => ?_)
    · have hf := hf.1 c1
      refine lv_iload_n (pc := 41) hx hb dX4_coloursUnwanted_41 rfl (lv_at hl 1 rfl) ?_
      exact rI (pc := 42) E hr hlk hI hf dX4_coloursUnwanted_42
    · have hf := hf.2 c1
      refine lv_aload_n (pc := 9) hx hb dX4_coloursUnwanted_9 rfl (lv_at hl 0 rfl) ?_
      refine g4_0 (pc := 10) E hI hq0 lkX4_9 dX4_coloursUnwanted_10 ?_
      refine lv_iload_n (pc := 13) hx hb dX4_coloursUnwanted_13 rfl (lv_at hl 2 rfl) ?_
      have g2 := hf.1
      have hf := hf.2
      refine a4_0 (pc := 14) E hI hq0 g2 dX4_coloursUnwanted_14 ?_
      refine lv_aload_n (pc := 15) hx hb dX4_coloursUnwanted_15 rfl (lv_at hl 0 rfl) ?_
      refine g4_1 (pc := 16) E hI hq0 lkX4_15 dX4_coloursUnwanted_16 ?_
      refine lv_ldc2 (pc := 19) E.1 E.2.1 E.2.2.2.1 (E.2.2.2.2 _ kcX4_60) dX4_coloursUnwanted_19 ?_
      refine lv_lxor (pc := 22) hx hb dX4_coloursUnwanted_22 ?_
      refine lv_land (pc := 23) hx hb dX4_coloursUnwanted_23 ?_
      refine lv_lconst (v := 0) (pc := 24) hx hb dX4_coloursUnwanted_24 rfl ?_
      refine W.lcmp (pc := 25) hx hb dX4_coloursUnwanted_25 ?_
      refine lv_if_ne (tgt := 35) (pc := 26) hx hb dX4_coloursUnwanted_26 (by decide) (fun c3 => ?_) (fun c3 => ?_)
      · have hf := hf.1 c3
        exact bX4_coloursUnwanted_35 E hr hlk hq0 (fun _ _ _ hq0 _ _ _ _ hf hI hl => ih hq0 hf hI hl) hf hI (lv_sub hl [0, 1, 2] rfl)
      · have hf := hf.2 c3
        refine lv_iload_n (pc := 29) hx hb dX4_coloursUnwanted_29 rfl (lv_at hl 1 rfl) ?_
        refine lv_iconst (v := 1) (pc := 30) hx hb dX4_coloursUnwanted_30 rfl ?_
        refine lv_iload_n (pc := 31) hx hb dX4_coloursUnwanted_31 rfl (lv_at hl 2 rfl) ?_
        refine lv_ishl1 (pc := 32) hx hb dX4_coloursUnwanted_32 ?_
        refine lv_ior (pc := 33) hx hb dX4_coloursUnwanted_33 ?_
        refine lv_topi (fun x5 ex5 => ?_)
        have hf := hf x5 ex5
        refine lv_istore_n (lv' := [(1, .int x5), (0, .ref (ad q0 99)), (2, .int a2)]) (pc := 34) hx hb dX4_coloursUnwanted_34 rfl hl (by decide) rfl (fun ls hl => ?_)
        exact bX4_coloursUnwanted_35 E hr hlk hq0 (fun _ _ _ hq0 _ _ _ _ hf hI hl => ih hq0 hf hI hl) hf hI (lv_sub hl [1, 0, 2] rfl)
def wX4_coloursUnwanted (o : Nat) (σ : St) (Q : Int32 → St → Prop) : Prop := ∃ n6 : Nat, wX4_coloursUnwanted_l4 n6 o 0 0 σ Q
set_option maxRecDepth 100000 in
set_option maxHeartbeats 4000000 in
theorem bX4_coloursUnwanted {p : Program} {l : Launch} {e : Env} {s : State} {m : MethodId} {args : Array Value} {below : List Frame} {meth : Method} {c : Code} {H : Heap} {locs : List Loc} {ls : Array Slot} {D : va_G} {z : Nat → Nat} {A : Nat → Prop} {σ : St} {ad : Nat → Nat → Nat} {cy : Nat → ClassId} {Rr : va_W} {Q : Int32 → St → Prop} {o : Nat} (E : CallFix p m c cX4_coloursUnwanted 3 s args TB RX4) (hr : meth.sig.returnType = some .int) (hlk : meth.locks = false) (ho : kd o = 4) (hf : wX4_coloursUnwanted o σ Q) (hI : In (D, tysC cy, SF z) (LC ad cy Rr σ) A s H locs) (hl : lv_has ls 3 [(0, .ref (ad o 99))]) : W p l e (rmD 0) s m args below meth c H locs 0 0 (PI below args s (D, tysC cy, SF z) A (LC ad cy Rr) Q) (F0 m 0 ls []) := by
  have hx := E.1
  have hb := E.2.1
  unfold wX4_coloursUnwanted at hf
  refine lv_iconst (v := 0) (pc := 0) hx hb dX4_coloursUnwanted_0 rfl ?_
  refine lv_istore_n (lv' := [(1, .int 0), (0, .ref (ad o 99))]) (pc := 1) hx hb dX4_coloursUnwanted_1 rfl hl (by decide) rfl (fun ls hl => ?_)
  refine lv_iconst (v := 0) (pc := 2) hx hb dX4_coloursUnwanted_2 rfl ?_
  refine lv_istore_n (lv' := [(2, .int 0), (1, .int 0), (0, .ref (ad o 99))]) (pc := 3) hx hb dX4_coloursUnwanted_3 rfl hl (by decide) rfl (fun ls hl => ?_)
  obtain ⟨n6, hf⟩ := hf
  exact bX4_coloursUnwanted_4 E hr hlk n6 ho hf hI (lv_sub hl [2, 1, 0] rfl)
theorem tX4_coloursUnwanted {l : Launch} {D : va_G} {z : Nat → Nat} {σ : St} {ad : Nat → Nat → Nat} {cy : Nat → ClassId} {Rr : va_W} {Q : Int32 → St → Prop} {o : Nat} (ho : kd o = 4) (hf : wX4_coloursUnwanted o σ Q) : CtI l yX4_coloursUnwanted cX4_coloursUnwanted 3 .int 0 (D, tysC cy, SF z) (LC ad cy Rr) [.ref (ad o 99)] σ Q := mkI (by decide) (Nat.le_of_ble_eq_true rfl) (fun p e s m below meth c A E hr hlk hI ls hl => bX4_coloursUnwanted E hr hlk ho hf hI hl)

def wX5_isIn (p1 : Int32) (p2 : Int32) (σ : St) (Q : Int32 → St → Prop) : Prop := ((p1 < 0 → Q 0 σ) ∧ (¬ p1 < 0 → ((p2 ≤ p1 → Q 0 σ) ∧ (¬ p2 ≤ p1 → Q 1 σ))))
set_option maxRecDepth 100000 in
set_option maxHeartbeats 4000000 in
theorem bX5_isIn {p : Program} {l : Launch} {e : Env} {s : State} {m : MethodId} {args : Array Value} {below : List Frame} {meth : Method} {c : Code} {H : Heap} {locs : List Loc} {ls : Array Slot} {D : va_G} {z : Nat → Nat} {A : Nat → Prop} {σ : St} {ad : Nat → Nat → Nat} {cy : Nat → ClassId} {Rr : va_W} {Q : Int32 → St → Prop} {p1 : Int32} {p2 : Int32} (E : CallFix p m c cX5_isIn 2 s args TB RX5) (hr : meth.sig.returnType = some .boolean) (hlk : meth.locks = false) (hf : wX5_isIn p1 p2 σ Q) (hI : In (D, tysC cy, SF z) (LC ad cy Rr σ) A s H locs) (hl : lv_has ls 2 [(0, .int p1), (1, .int p2)]) : W p l e (rmD 0) s m args below meth c H locs 0 0 (PI below args s (D, tysC cy, SF z) A (LC ad cy Rr) Q) (F0 m 0 ls []) := by
  have hx := E.1
  have hb := E.2.1
  unfold wX5_isIn at hf
  refine lv_iload_n (pc := 0) hx hb dX5_isIn_0 rfl (lv_at hl 0 rfl) ?_
  refine lv_if_lt (tgt := 13) (pc := 1) hx hb dX5_isIn_1 (by decide) (fun c1 => ?_) (fun c1 => ?_)
  · have hf := hf.1 c1
    refine lv_iconst (v := 0) (pc := 13) hx hb dX5_isIn_13 rfl ?_
    exact rZ (pc := 14) E hr hlk hI (Or.inl rfl) hf dX5_isIn_14
  · have hf := hf.2 c1
    refine lv_iload_n (pc := 4) hx hb dX5_isIn_4 rfl (lv_at hl 0 rfl) ?_
    refine lv_iload_n (pc := 5) hx hb dX5_isIn_5 rfl (lv_at hl 1 rfl) ?_
    refine lv_icmp_ge (tgt := 13) (pc := 6) hx hb dX5_isIn_6 (by decide) (fun c2 => ?_) (fun c2 => ?_)
    · have hf := hf.1 c2
      refine lv_iconst (v := 0) (pc := 13) hx hb dX5_isIn_13 rfl ?_
      exact rZ (pc := 14) E hr hlk hI (Or.inl rfl) hf dX5_isIn_14
    · have hf := hf.2 c2
      refine lv_iconst (v := 1) (pc := 9) hx hb dX5_isIn_9 rfl ?_
      refine lv_goto (tgt := 14) (pc := 10) hx hb dX5_isIn_10 (by decide) ?_
      exact rZ (pc := 14) E hr hlk hI (Or.inr rfl) hf dX5_isIn_14
theorem tX5_isIn {l : Launch} {D : va_G} {z : Nat → Nat} {σ : St} {ad : Nat → Nat → Nat} {cy : Nat → ClassId} {Rr : va_W} {Q : Int32 → St → Prop} {p1 : Int32} {p2 : Int32} (hf : wX5_isIn p1 p2 σ Q) : CtI l yX5_isIn cX5_isIn 2 .boolean 0 (D, tysC cy, SF z) (LC ad cy Rr) [.int p1, .int p2] σ Q := mkI (by decide) (Nat.le_of_ble_eq_true rfl) (fun p e s m below meth c A E hr hlk hI ls hl => bX5_isIn E hr hlk hf hI hl)

def wX5_choicesOf (p1 : Int32) (σ : St) (Q : Int32 → St → Prop) : Prop := ((p1 = 1 → Q 6 σ) ∧ (p1 = 2 → Q 10 σ) ∧ (p1 = 3 → Q 4 σ) ∧ (p1 = 4 → Q 100 σ) ∧ (p1 = 5 → Q 100 σ) ∧ (p1 = 6 → Q (gI σ 4 1) σ) ∧ (¬ p1 = 1 → ¬ p1 = 2 → ¬ p1 = 3 → ¬ p1 = 4 → ¬ p1 = 5 → ¬ p1 = 6 → Q 100 σ))
set_option maxRecDepth 100000 in
set_option maxHeartbeats 4000000 in
theorem bX5_choicesOf {p : Program} {l : Launch} {e : Env} {s : State} {m : MethodId} {args : Array Value} {below : List Frame} {meth : Method} {c : Code} {H : Heap} {locs : List Loc} {ls : Array Slot} {D : va_G} {z : Nat → Nat} {A : Nat → Prop} {σ : St} {ad : Nat → Nat → Nat} {cy : Nat → ClassId} {Rr : va_W} {Q : Int32 → St → Prop} {p1 : Int32} (E : CallFix p m c cX5_choicesOf 2 s args TB RX5) (hr : meth.sig.returnType = some .int) (hlk : meth.locks = false) (hf : wX5_choicesOf p1 σ Q) (hI : In (D, tysC cy, SF z) (LC ad cy Rr σ) A s H locs) (hl : lv_has ls 2 [(0, .ref (ad 0 99)), (1, .int p1)]) : W p l e (rmD 0) s m args below meth c H locs 0 0 (PI below args s (D, tysC cy, SF z) A (LC ad cy Rr) Q) (F0 m 0 ls []) := by
  have hx := E.1
  have hb := E.2.1
  unfold wX5_choicesOf at hf
  refine lv_iload_n (pc := 0) hx hb dX5_choicesOf_0 rfl (lv_at hl 1 rfl) ?_
  by_cases c1 : p1 = 1
  · refine lv_tableIn (tgt := 40) (pc := 1) hx hb dX5_choicesOf_1 (by rw [c1]; decide) (by rw [c1]; decide) (by rw [c1]; rfl) (by decide) ?_
    have hf := hf.1 c1
    refine lv_bipush (v := 6) (pc := 40) hx hb dX5_choicesOf_40 rfl ?_
    exact rI (pc := 42) E hr hlk hI hf dX5_choicesOf_42
  have hf := hf.2
  by_cases c2 : p1 = 2
  · refine lv_tableIn (tgt := 43) (pc := 1) hx hb dX5_choicesOf_1 (by rw [c2]; decide) (by rw [c2]; decide) (by rw [c2]; rfl) (by decide) ?_
    have hf := hf.1 c2
    refine lv_bipush (v := 10) (pc := 43) hx hb dX5_choicesOf_43 rfl ?_
    exact rI (pc := 45) E hr hlk hI hf dX5_choicesOf_45
  have hf := hf.2
  by_cases c3 : p1 = 3
  · refine lv_tableIn (tgt := 46) (pc := 1) hx hb dX5_choicesOf_1 (by rw [c3]; decide) (by rw [c3]; decide) (by rw [c3]; rfl) (by decide) ?_
    have hf := hf.1 c3
    refine lv_iconst (v := 4) (pc := 46) hx hb dX5_choicesOf_46 rfl ?_
    exact rI (pc := 47) E hr hlk hI hf dX5_choicesOf_47
  have hf := hf.2
  by_cases c4 : p1 = 4
  · refine lv_tableIn (tgt := 56) (pc := 1) hx hb dX5_choicesOf_1 (by rw [c4]; decide) (by rw [c4]; decide) (by rw [c4]; rfl) (by decide) ?_
    have hf := hf.1 c4
    refine lv_bipush (v := 100) (pc := 56) hx hb dX5_choicesOf_56 rfl ?_
    exact rI (pc := 58) E hr hlk hI hf dX5_choicesOf_58
  have hf := hf.2
  by_cases c5 : p1 = 5
  · refine lv_tableIn (tgt := 56) (pc := 1) hx hb dX5_choicesOf_1 (by rw [c5]; decide) (by rw [c5]; decide) (by rw [c5]; rfl) (by decide) ?_
    have hf := hf.1 c5
    refine lv_bipush (v := 100) (pc := 56) hx hb dX5_choicesOf_56 rfl ?_
    exact rI (pc := 58) E hr hlk hI hf dX5_choicesOf_58
  have hf := hf.2
  by_cases c6 : p1 = 6
  · refine lv_tableIn (tgt := 48) (pc := 1) hx hb dX5_choicesOf_1 (by rw [c6]; decide) (by rw [c6]; decide) (by rw [c6]; rfl) (by decide) ?_
    have hf := hf.1 c6
    refine lv_aload_n (pc := 48) hx hb dX5_choicesOf_48 rfl (lv_at hl 0 rfl) ?_
    refine g5_4 (pc := 49) E hI rfl lkX5_29 dX5_choicesOf_49 ?_
    refine g1_1 (pc := 52) E hI rfl lkX5_74 dX5_choicesOf_52 ?_
    exact rI (pc := 55) E hr hlk hI hf dX5_choicesOf_55
  have hf := hf.2
  have hf := hf c1 c2 c3 c4 c5 c6
  refine lv_tableOut (tgt := 56) (pc := 1) hx hb dX5_choicesOf_1 (by have := neI (k := 1) c1 rfl; have := neI (k := 2) c2 rfl; have := neI (k := 3) c3 rfl; have := neI (k := 4) c4 rfl; have := neI (k := 5) c5 rfl; have := neI (k := 6) c6 rfl; omega) (by decide) ?_
  refine lv_bipush (v := 100) (pc := 56) hx hb dX5_choicesOf_56 rfl ?_
  exact rI (pc := 58) E hr hlk hI hf dX5_choicesOf_58
theorem tX5_choicesOf {l : Launch} {D : va_G} {z : Nat → Nat} {σ : St} {ad : Nat → Nat → Nat} {cy : Nat → ClassId} {Rr : va_W} {Q : Int32 → St → Prop} {p1 : Int32} (hf : wX5_choicesOf p1 σ Q) : CtI l yX5_choicesOf cX5_choicesOf 2 .int 0 (D, tysC cy, SF z) (LC ad cy Rr) [.ref (ad 0 99), .int p1] σ Q := mkI (by decide) (Nat.le_of_ble_eq_true rfl) (fun p e s m below meth c A E hr hlk hI ls hl => bX5_choicesOf E hr hlk hf hI hl)

def wX5_suppose (p1 : Int32) (p2 : Int32) (p3 : Int32) (σ : St) (Q : St → Prop) : Prop := ((p2 = 1 → vp_in p1 5 ∧ ∀ σ3 : St, σ3 = sA σ 2 6 p1.toNatClampNeg p3 → Q σ3) ∧ (p2 = 2 → vp_in p1 5 ∧ ∀ σ6 : St, σ6 = sA σ 2 7 p1.toNatClampNeg p3 → Q σ6) ∧ (p2 = 3 → vp_in p1 5 ∧ ∀ σ9 : St, σ9 = sA σ 2 8 p1.toNatClampNeg p3 → Q σ9) ∧ (p2 = 4 → vp_in p1 5 ∧ ∀ σ12 : St, σ12 = sA σ 2 9 p1.toNatClampNeg p3 → Q σ12) ∧ (p2 = 5 → vp_in p1 5 ∧ ∀ σ15 : St, σ15 = sA σ 2 9 p1.toNatClampNeg p3 → Q σ15) ∧ (p2 = 6 → ∀ σ17 : St, σ17 = sI σ 2 3 p3 → Q σ17) ∧ (¬ p2 = 1 → ¬ p2 = 2 → ¬ p2 = 3 → ¬ p2 = 4 → ¬ p2 = 5 → ¬ p2 = 6 → vp_in p1 5 ∧ ∀ σ19 : St, σ19 = sA σ 2 9 p1.toNatClampNeg p3 → Q σ19))
set_option maxRecDepth 100000 in
set_option maxHeartbeats 4000000 in
theorem bX5_suppose {p : Program} {l : Launch} {e : Env} {s : State} {m : MethodId} {args : Array Value} {below : List Frame} {meth : Method} {c : Code} {H : Heap} {locs : List Loc} {ls : Array Slot} {D : va_G} {z : Nat → Nat} {A : Nat → Prop} {σ : St} {ad : Nat → Nat → Nat} {cy : Nat → ClassId} {Rr : va_W} {Q : St → Prop} {p1 : Int32} {p2 : Int32} {p3 : Int32} (E : CallFix p m c cX5_suppose 4 s args TB RX5) (hr : meth.sig.returnType = none) (hlk : meth.locks = false) (hf : wX5_suppose p1 p2 p3 σ Q) (hI : In (D, tysC cy, SF z) (LC ad cy Rr σ) A s H locs) (hl : lv_has ls 4 [(0, .ref (ad 0 99)), (1, .int p1), (2, .int p2), (3, .int p3)]) : W p l e (rmD 0) s m args below meth c H locs 0 0 (PV below args s (D, tysC cy, SF z) A (LC ad cy Rr) Q) (F0 m 0 ls []) := by
  have hx := E.1
  have hb := E.2.1
  unfold wX5_suppose at hf
  refine lv_iload_n (pc := 0) hx hb dX5_suppose_0 rfl (lv_at hl 2 rfl) ?_
  by_cases c1 : p2 = 1
  · refine lv_tableIn (tgt := 40) (pc := 1) hx hb dX5_suppose_1 (by rw [c1]; decide) (by rw [c1]; decide) (by rw [c1]; rfl) (by decide) ?_
    have hf := hf.1 c1
    refine lv_aload_n (pc := 40) hx hb dX5_suppose_40 rfl (lv_at hl 0 rfl) ?_
    refine g5_1 (pc := 41) E hI rfl lkX5_16 dX5_suppose_41 ?_
    refine g4_6 (pc := 44) E hI rfl lkX5_242 dX5_suppose_44 ?_
    refine lv_iload_n (pc := 47) hx hb dX5_suppose_47 rfl (lv_at hl 1 rfl) ?_
    refine lv_iload_n (pc := 48) hx hb dX5_suppose_48 rfl (lv_at hl 3 rfl) ?_
    have g2 := hf.1
    have hf := hf.2
    refine s4_6 (pc := 49) E hI rfl g2 dX5_suppose_49 (fun H locs σ3 eσ3 hI => ?_)
    have hf := hf σ3 eσ3
    refine lv_goto (tgt := 100) (pc := 50) hx hb dX5_suppose_50 (by decide) ?_
    exact rV (pc := 100) E hr hlk hI hf dX5_suppose_100
  have hf := hf.2
  by_cases c4 : p2 = 2
  · refine lv_tableIn (tgt := 53) (pc := 1) hx hb dX5_suppose_1 (by rw [c4]; decide) (by rw [c4]; decide) (by rw [c4]; rfl) (by decide) ?_
    have hf := hf.1 c4
    refine lv_aload_n (pc := 53) hx hb dX5_suppose_53 rfl (lv_at hl 0 rfl) ?_
    refine g5_1 (pc := 54) E hI rfl lkX5_16 dX5_suppose_54 ?_
    refine g4_7 (pc := 57) E hI rfl lkX5_248 dX5_suppose_57 ?_
    refine lv_iload_n (pc := 60) hx hb dX5_suppose_60 rfl (lv_at hl 1 rfl) ?_
    refine lv_iload_n (pc := 61) hx hb dX5_suppose_61 rfl (lv_at hl 3 rfl) ?_
    have g5 := hf.1
    have hf := hf.2
    refine s4_7 (pc := 62) E hI rfl g5 dX5_suppose_62 (fun H locs σ6 eσ6 hI => ?_)
    have hf := hf σ6 eσ6
    refine lv_goto (tgt := 100) (pc := 63) hx hb dX5_suppose_63 (by decide) ?_
    exact rV (pc := 100) E hr hlk hI hf dX5_suppose_100
  have hf := hf.2
  by_cases c7 : p2 = 3
  · refine lv_tableIn (tgt := 66) (pc := 1) hx hb dX5_suppose_1 (by rw [c7]; decide) (by rw [c7]; decide) (by rw [c7]; rfl) (by decide) ?_
    have hf := hf.1 c7
    refine lv_aload_n (pc := 66) hx hb dX5_suppose_66 rfl (lv_at hl 0 rfl) ?_
    refine g5_1 (pc := 67) E hI rfl lkX5_16 dX5_suppose_67 ?_
    refine g4_8 (pc := 70) E hI rfl lkX5_147 dX5_suppose_70 ?_
    refine lv_iload_n (pc := 73) hx hb dX5_suppose_73 rfl (lv_at hl 1 rfl) ?_
    refine lv_iload_n (pc := 74) hx hb dX5_suppose_74 rfl (lv_at hl 3 rfl) ?_
    have g8 := hf.1
    have hf := hf.2
    refine s4_8 (pc := 75) E hI rfl g8 dX5_suppose_75 (fun H locs σ9 eσ9 hI => ?_)
    have hf := hf σ9 eσ9
    refine lv_goto (tgt := 100) (pc := 76) hx hb dX5_suppose_76 (by decide) ?_
    exact rV (pc := 100) E hr hlk hI hf dX5_suppose_100
  have hf := hf.2
  by_cases c10 : p2 = 4
  · refine lv_tableIn (tgt := 90) (pc := 1) hx hb dX5_suppose_1 (by rw [c10]; decide) (by rw [c10]; decide) (by rw [c10]; rfl) (by decide) ?_
    have hf := hf.1 c10
    refine lv_aload_n (pc := 90) hx hb dX5_suppose_90 rfl (lv_at hl 0 rfl) ?_
    refine g5_1 (pc := 91) E hI rfl lkX5_16 dX5_suppose_91 ?_
    refine g4_9 (pc := 94) E hI rfl lkX5_150 dX5_suppose_94 ?_
    refine lv_iload_n (pc := 97) hx hb dX5_suppose_97 rfl (lv_at hl 1 rfl) ?_
    refine lv_iload_n (pc := 98) hx hb dX5_suppose_98 rfl (lv_at hl 3 rfl) ?_
    have g11 := hf.1
    have hf := hf.2
    refine s4_9 (pc := 99) E hI rfl g11 dX5_suppose_99 (fun H locs σ12 eσ12 hI => ?_)
    have hf := hf σ12 eσ12
    exact rV (pc := 100) E hr hlk hI hf dX5_suppose_100
  have hf := hf.2
  by_cases c13 : p2 = 5
  · refine lv_tableIn (tgt := 90) (pc := 1) hx hb dX5_suppose_1 (by rw [c13]; decide) (by rw [c13]; decide) (by rw [c13]; rfl) (by decide) ?_
    have hf := hf.1 c13
    refine lv_aload_n (pc := 90) hx hb dX5_suppose_90 rfl (lv_at hl 0 rfl) ?_
    refine g5_1 (pc := 91) E hI rfl lkX5_16 dX5_suppose_91 ?_
    refine g4_9 (pc := 94) E hI rfl lkX5_150 dX5_suppose_94 ?_
    refine lv_iload_n (pc := 97) hx hb dX5_suppose_97 rfl (lv_at hl 1 rfl) ?_
    refine lv_iload_n (pc := 98) hx hb dX5_suppose_98 rfl (lv_at hl 3 rfl) ?_
    have g14 := hf.1
    have hf := hf.2
    refine s4_9 (pc := 99) E hI rfl g14 dX5_suppose_99 (fun H locs σ15 eσ15 hI => ?_)
    have hf := hf σ15 eσ15
    exact rV (pc := 100) E hr hlk hI hf dX5_suppose_100
  have hf := hf.2
  by_cases c16 : p2 = 6
  · refine lv_tableIn (tgt := 79) (pc := 1) hx hb dX5_suppose_1 (by rw [c16]; decide) (by rw [c16]; decide) (by rw [c16]; rfl) (by decide) ?_
    have hf := hf.1 c16
    refine lv_aload_n (pc := 79) hx hb dX5_suppose_79 rfl (lv_at hl 0 rfl) ?_
    refine g5_1 (pc := 80) E hI rfl lkX5_16 dX5_suppose_80 ?_
    refine lv_iload_n (pc := 83) hx hb dX5_suppose_83 rfl (lv_at hl 3 rfl) ?_
    refine p4_3 (pc := 84) E hI rfl lkX5_121 dX5_suppose_84 (fun H locs σ17 eσ17 hI => ?_)
    have hf := hf σ17 eσ17
    refine lv_goto (tgt := 100) (pc := 87) hx hb dX5_suppose_87 (by decide) ?_
    exact rV (pc := 100) E hr hlk hI hf dX5_suppose_100
  have hf := hf.2
  have hf := hf c1 c4 c7 c10 c13 c16
  refine lv_tableOut (tgt := 90) (pc := 1) hx hb dX5_suppose_1 (by have := neI (k := 1) c1 rfl; have := neI (k := 2) c4 rfl; have := neI (k := 3) c7 rfl; have := neI (k := 4) c10 rfl; have := neI (k := 5) c13 rfl; have := neI (k := 6) c16 rfl; omega) (by decide) ?_
  refine lv_aload_n (pc := 90) hx hb dX5_suppose_90 rfl (lv_at hl 0 rfl) ?_
  refine g5_1 (pc := 91) E hI rfl lkX5_16 dX5_suppose_91 ?_
  refine g4_9 (pc := 94) E hI rfl lkX5_150 dX5_suppose_94 ?_
  refine lv_iload_n (pc := 97) hx hb dX5_suppose_97 rfl (lv_at hl 1 rfl) ?_
  refine lv_iload_n (pc := 98) hx hb dX5_suppose_98 rfl (lv_at hl 3 rfl) ?_
  have g18 := hf.1
  have hf := hf.2
  refine s4_9 (pc := 99) E hI rfl g18 dX5_suppose_99 (fun H locs σ19 eσ19 hI => ?_)
  have hf := hf σ19 eσ19
  exact rV (pc := 100) E hr hlk hI hf dX5_suppose_100
theorem tX5_suppose {l : Launch} {D : va_G} {z : Nat → Nat} {σ : St} {ad : Nat → Nat → Nat} {cy : Nat → ClassId} {Rr : va_W} {Q : St → Prop} {p1 : Int32} {p2 : Int32} {p3 : Int32} (hf : wX5_suppose p1 p2 p3 σ Q) : CtV l yX5_suppose cX5_suppose 4 0 (D, tysC cy, SF z) (LC ad cy Rr) [.ref (ad 0 99), .int p1, .int p2, .int p3] σ Q := mkV (by decide) (Nat.le_of_ble_eq_true rfl) (fun p e s m below meth c A E hr hlk hI ls hl => bX5_suppose E hr hlk hf hI hl)

def wX5_lowest_j39 (a0 : Int32) (a1 : Int32) (a2 : Int32) (a3 : Int32) (σ : St) (Q : Int64 → St → Prop) : Prop := ((¬ a3 = 0 → ((¬ a2 = 0 → (¬ a3 = 0) ∧ Q (((a1 / a3)).toInt64) σ) ∧ (a2 = 0 → (¬ a3 = 0) ∧ Q (((a0 / a3)).toInt64) σ))) ∧ (a3 = 0 → Q (-4611686018427387904) σ))
set_option maxRecDepth 100000 in
set_option maxHeartbeats 4000000 in
theorem bX5_lowest_39 {p : Program} {l : Launch} {e : Env} {s : State} {m : MethodId} {args : Array Value} {below : List Frame} {meth : Method} {c : Code} {H : Heap} {locs : List Loc} {ls : Array Slot} {D : va_G} {z : Nat → Nat} {A : Nat → Prop} {σ : St} {ad : Nat → Nat → Nat} {cy : Nat → ClassId} {Rr : va_W} {Q : Int64 → St → Prop} {a0 : Int32} {a1 : Int32} {a2 : Int32} {a3 : Int32} (E : CallFix p m c cX5_lowest 7 s args TB RX5) (hr : meth.sig.returnType = some .long) (hlk : meth.locks = false) (hf : wX5_lowest_j39 a0 a1 a2 a3 σ Q) (hI : In (D, tysC cy, SF z) (LC ad cy Rr σ) A s H locs) (hl : lv_has ls 7 [(0, .int a0), (1, .int a1), (2, .int a2), (3, .int a3)]) : W p l e (rmD 0) s m args below meth c H locs 0 0 (PJ below args s (D, tysC cy, SF z) A (LC ad cy Rr) Q) (F0 m 39 ls []) := by
  have hx := E.1
  have hb := E.2.1
  unfold wX5_lowest_j39 at hf
  refine lv_iload_n (pc := 39) hx hb dX5_lowest_39 rfl (lv_at hl 3 rfl) ?_
  refine lv_if_ne (tgt := 47) (pc := 40) hx hb dX5_lowest_40 (by decide) (fun c2 => ?_) (fun c2 => ?_)
  · have hf := hf.1 c2
    refine lv_iload_n (pc := 47) hx hb dX5_lowest_47 rfl (lv_at hl 2 rfl) ?_
    refine lv_if_ne (tgt := 58) (pc := 48) hx hb dX5_lowest_48 (by decide) (fun c3 => ?_) (fun c3 => ?_)
    · have hf := hf.1 c3
      refine lv_iload_n (pc := 58) hx hb dX5_lowest_58 rfl (lv_at hl 1 rfl) ?_
      refine lv_iload_n (pc := 59) hx hb dX5_lowest_59 rfl (lv_at hl 3 rfl) ?_
      have g4 := hf.1
      have hf := hf.2
      refine lv_idiv (pc := 60) hx hb dX5_lowest_60 g4 ?_
      refine lv_i2l (v := (((a1 / a3)).toInt64)) (pc := 61) hx hb dX5_lowest_61 rfl ?_
      exact rJ (pc := 62) E hr hlk hI hf dX5_lowest_62
    · have hf := hf.2 c3
      refine lv_iload_n (pc := 51) hx hb dX5_lowest_51 rfl (lv_at hl 0 rfl) ?_
      refine lv_iload_n (pc := 52) hx hb dX5_lowest_52 rfl (lv_at hl 3 rfl) ?_
      have g5 := hf.1
      have hf := hf.2
      refine lv_idiv (pc := 53) hx hb dX5_lowest_53 g5 ?_
      refine lv_i2l (v := (((a0 / a3)).toInt64)) (pc := 54) hx hb dX5_lowest_54 rfl ?_
      refine lv_goto (tgt := 62) (pc := 55) hx hb dX5_lowest_55 (by decide) ?_
      exact rJ (pc := 62) E hr hlk hI hf dX5_lowest_62
  · have hf := hf.2 c2
    refine lv_ldc2 (pc := 43) E.1 E.2.1 E.2.2.2.1 (E.2.2.2.2 _ kcX5_119) dX5_lowest_43 ?_
    exact rJ (pc := 46) E hr hlk hI hf dX5_lowest_46
def wX5_lowest_l8s (ih : Int32 → Int32 → Int32 → Int32 → Int32 → Int32 → St → Prop) (a0 : Int32) (a1 : Int32) (a2 : Int32) (a3 : Int32) (a4 : Int32) (a5 : Int32) (σ : St) (Q : Int64 → St → Prop) : Prop := ((100 ≤ a5 → (wX5_lowest_j39 a0 a1 a2 a3 σ Q)) ∧ (¬ 100 ≤ a5 → ((a4 = 0 → (wX5_lowest_j39 a0 a1 a2 a3 σ Q)) ∧ (¬ a4 = 0 → (¬ a4 = 0) ∧ ∀ x8 : Int32, x8 = (irm a3 a4) → ∀ x9 : Int32, x9 = a5 + 1 → (ih a0 a1 a2 a4 x8 x9 σ)))))
def wX5_lowest_l8 (n : Nat) : Int32 → Int32 → Int32 → Int32 → Int32 → Int32 → St → (Int64 → St → Prop) → Prop := @Nat.rec (fun _ => Int32 → Int32 → Int32 → Int32 → Int32 → Int32 → St → (Int64 → St → Prop) → Prop) (fun _ _ _ _ _ _ _ _ => False) (fun _ ih a0 a1 a2 a3 a4 a5 σ Q => wX5_lowest_l8s (fun a0 a1 a2 a3 a4 a5 σ => ih a0 a1 a2 a3 a4 a5 σ Q) a0 a1 a2 a3 a4 a5 σ Q) n
set_option maxRecDepth 100000 in
set_option maxHeartbeats 4000000 in
theorem bX5_lowest_8 {p : Program} {l : Launch} {e : Env} {s : State} {m : MethodId} {args : Array Value} {below : List Frame} {meth : Method} {c : Code} {D : va_G} {z : Nat → Nat} {A : Nat → Prop} {ad : Nat → Nat → Nat} {cy : Nat → ClassId} {Rr : va_W} {Q : Int64 → St → Prop} (E : CallFix p m c cX5_lowest 7 s args TB RX5) (hr : meth.sig.returnType = some .long) (hlk : meth.locks = false) : ∀ (n : Nat) {a0 : Int32} {a1 : Int32} {a2 : Int32} {a3 : Int32} {a4 : Int32} {a5 : Int32} {σ : St} {H : Heap} {locs : List Loc} {ls : Array Slot}, wX5_lowest_l8 n a0 a1 a2 a3 a4 a5 σ Q → In (D, tysC cy, SF z) (LC ad cy Rr σ) A s H locs → lv_has ls 7 [(0, .int a0), (1, .int a1), (2, .int a2), (3, .int a3), (4, .int a4), (5, .int a5)] → W p l e (rmD 0) s m args below meth c H locs 0 0 (PJ below args s (D, tysC cy, SF z) A (LC ad cy Rr) Q) (F0 m 8 ls []) := by
  have hx := E.1
  have hb := E.2.1
  intro n
  induction n with
  | zero => intro a0 a1 a2 a3 a4 a5 σ H locs ls hf hI hl; exact False.elim hf
  | succ n ih =>
    intro a0 a1 a2 a3 a4 a5 σ H locs ls hf hI hl
    have hf : wX5_lowest_l8s (fun a0 a1 a2 a3 a4 a5 σ => wX5_lowest_l8 n a0 a1 a2 a3 a4 a5 σ Q) a0 a1 a2 a3 a4 a5 σ Q := hf
    unfold wX5_lowest_l8s at hf
    refine lv_iload (pc := 8) hx hb dX5_lowest_8 (lv_at hl 5 rfl) ?_
    refine lv_bipush (v := 100) (pc := 10) hx hb dX5_lowest_10 rfl ?_
    refine lv_icmp_ge (tgt := 39) (pc := 12) hx hb dX5_lowest_12 (by decide) (fun c1 => ?_) (fun c1 => ?_)
    · have hf := hf.1 c1
      exact bX5_lowest_39 E hr hlk hf hI (lv_sub hl [0, 1, 2, 3] rfl)
    · have hf := hf.2 c1
      refine lv_iload (pc := 15) hx hb dX5_lowest_15 (lv_at hl 4 rfl) ?_
      refine lv_if_eq (tgt := 39) (pc := 17) hx hb dX5_lowest_17 (by decide) (fun c6 => ?_) (fun c6 => ?_)
      · have hf := hf.1 c6
        exact bX5_lowest_39 E hr hlk hf hI (lv_sub hl [0, 1, 2, 3] rfl)
      · have hf := hf.2 c6
        refine lv_iload_n (pc := 20) hx hb dX5_lowest_20 rfl (lv_at hl 3 rfl) ?_
        refine lv_iload (pc := 21) hx hb dX5_lowest_21 (lv_at hl 4 rfl) ?_
        have g7 := hf.1
        have hf := hf.2
        refine lv_irem1 (pc := 23) hx hb dX5_lowest_23 g7 ?_
        refine lv_topi (fun x8 ex8 => ?_)
        have hf := hf x8 ex8
        refine lv_istore (lv' := [(6, .int x8), (0, .int a0), (1, .int a1), (2, .int a2), (3, .int a3), (4, .int a4), (5, .int a5)]) (pc := 24) hx hb dX5_lowest_24 hl (by decide) rfl (fun ls hl => ?_)
        refine lv_iload (pc := 26) hx hb dX5_lowest_26 (lv_at hl 5 rfl) ?_
        refine lv_istore_n (lv' := [(3, .int a4), (6, .int x8), (0, .int a0), (1, .int a1), (2, .int a2), (4, .int a4), (5, .int a5)]) (pc := 28) hx hb dX5_lowest_28 rfl hl (by decide) rfl (fun ls hl => ?_)
        refine lv_iload (pc := 29) hx hb dX5_lowest_29 (lv_at hl 1 rfl) ?_
        refine lv_istore (lv' := [(4, .int x8), (3, .int a4), (6, .int x8), (0, .int a0), (1, .int a1), (2, .int a2), (5, .int a5)]) (pc := 31) hx hb dX5_lowest_31 hl (by decide) rfl (fun ls hl => ?_)
        obtain ⟨x9, ex9⟩ : ∃ y : Int32, y = a5 + 1 := ⟨_, rfl⟩
        have hf := hf x9 ex9
        refine lv_iinc (v := x9) (lv' := [(5, .int x9), (4, .int x8), (3, .int a4), (6, .int x8), (0, .int a0), (1, .int a1), (2, .int a2)]) (pc := 33) hx hb dX5_lowest_33 hl (k := 6) rfl (by rw [ex9]; rfl) (by decide) rfl (fun ls hl => ?_)
        refine lv_goto (tgt := 8) (pc := 36) hx hb dX5_lowest_36 (by decide) ?_
        exact ih hf hI (lv_sub hl [4, 5, 6, 2, 1, 0] rfl)
def wX5_lowest (p1 : Int32) (p2 : Int32) (p3 : Int32) (σ : St) (Q : Int64 → St → Prop) : Prop := ∃ n10 : Nat, wX5_lowest_l8 n10 p1 p2 p3 p2 p1 0 σ Q
set_option maxRecDepth 100000 in
set_option maxHeartbeats 4000000 in
theorem bX5_lowest {p : Program} {l : Launch} {e : Env} {s : State} {m : MethodId} {args : Array Value} {below : List Frame} {meth : Method} {c : Code} {H : Heap} {locs : List Loc} {ls : Array Slot} {D : va_G} {z : Nat → Nat} {A : Nat → Prop} {σ : St} {ad : Nat → Nat → Nat} {cy : Nat → ClassId} {Rr : va_W} {Q : Int64 → St → Prop} {p1 : Int32} {p2 : Int32} {p3 : Int32} (E : CallFix p m c cX5_lowest 7 s args TB RX5) (hr : meth.sig.returnType = some .long) (hlk : meth.locks = false) (hf : wX5_lowest p1 p2 p3 σ Q) (hI : In (D, tysC cy, SF z) (LC ad cy Rr σ) A s H locs) (hl : lv_has ls 7 [(0, .int p1), (1, .int p2), (2, .int p3)]) : W p l e (rmD 0) s m args below meth c H locs 0 0 (PJ below args s (D, tysC cy, SF z) A (LC ad cy Rr) Q) (F0 m 0 ls []) := by
  have hx := E.1
  have hb := E.2.1
  unfold wX5_lowest at hf
  refine lv_iload_n (pc := 0) hx hb dX5_lowest_0 rfl (lv_at hl 1 rfl) ?_
  refine lv_istore_n (lv' := [(3, .int p2), (0, .int p1), (1, .int p2), (2, .int p3)]) (pc := 1) hx hb dX5_lowest_1 rfl hl (by decide) rfl (fun ls hl => ?_)
  refine lv_iload_n (pc := 2) hx hb dX5_lowest_2 rfl (lv_at hl 1 rfl) ?_
  refine lv_istore (lv' := [(4, .int p1), (3, .int p2), (0, .int p1), (1, .int p2), (2, .int p3)]) (pc := 3) hx hb dX5_lowest_3 hl (by decide) rfl (fun ls hl => ?_)
  refine lv_iconst (v := 0) (pc := 5) hx hb dX5_lowest_5 rfl ?_
  refine lv_istore (lv' := [(5, .int 0), (4, .int p1), (3, .int p2), (0, .int p1), (1, .int p2), (2, .int p3)]) (pc := 6) hx hb dX5_lowest_6 hl (by decide) rfl (fun ls hl => ?_)
  obtain ⟨n10, hf⟩ := hf
  exact bX5_lowest_8 E hr hlk n10 hf hI (lv_sub hl [3, 4, 5, 2, 1, 0] rfl)
theorem tX5_lowest {l : Launch} {D : va_G} {z : Nat → Nat} {σ : St} {ad : Nat → Nat → Nat} {cy : Nat → ClassId} {Rr : va_W} {Q : Int64 → St → Prop} {p1 : Int32} {p2 : Int32} {p3 : Int32} (hf : wX5_lowest p1 p2 p3 σ Q) : CtJ l yX5_lowest cX5_lowest 7 0 (D, tysC cy, SF z) (LC ad cy Rr) [.int p1, .int p2, .int p3] σ Q := mkJ (by decide) (Nat.le_of_ble_eq_true rfl) (fun p e s m below meth c A E hr hlk hI ls hl => bX5_lowest E hr hlk hf hI hl)

def wJ13_bitCount_95d88 (p1 : Int64) (σ : St) (Q : Int32 → St → Prop) : Prop := ∀ x1 : Int64, x1 = (p1 - ((lusr p1 1) &&& 6148914691236517205)) → ∀ x2 : Int64, x2 = ((x1 &&& 3689348814741910323) + ((lusr x1 2) &&& 3689348814741910323)) → ∀ x3 : Int64, x3 = ((x2 + (lusr x2 4)) &&& 1085102592571150095) → ∀ x4 : Int64, x4 = (x3 + (lusr x3 8)) → ∀ x5 : Int64, x5 = (x4 + (lusr x4 16)) → ∀ x6 : Int64, x6 = (x5 + (lusr x5 32)) → Q (((x6).toInt32) &&& 127) σ
set_option maxRecDepth 100000 in
set_option maxHeartbeats 4000000 in
theorem bJ13_bitCount_95d88 {p : Program} {l : Launch} {e : Env} {s : State} {m : MethodId} {args : Array Value} {below : List Frame} {meth : Method} {c : Code} {H : Heap} {locs : List Loc} {ls : Array Slot} {D : va_G} {z : Nat → Nat} {A : Nat → Prop} {σ : St} {ad : Nat → Nat → Nat} {cy : Nat → ClassId} {Rr : va_W} {Q : Int32 → St → Prop} {p1 : Int64} (E : CallFix p m c cJ13_bitCount_95d88 2 s args TB RJ13) (hr : meth.sig.returnType = some .int) (hlk : meth.locks = false) (hf : wJ13_bitCount_95d88 p1 σ Q) (hI : In (D, tysC cy, SF z) (LC ad cy Rr σ) A s H locs) (hl : lv_has ls 2 [(0, .long p1)]) : W p l e (rmD 0) s m args below meth c H locs 0 0 (PI below args s (D, tysC cy, SF z) A (LC ad cy Rr) Q) (F0 m 0 ls []) := by
  have hx := E.1
  have hb := E.2.1
  unfold wJ13_bitCount_95d88 at hf
  refine lv_lload_n (pc := 0) hx hb dJ13_bitCount_95d88_0 rfl (lv_at hl 0 rfl) ?_
  refine lv_lload_n (pc := 1) hx hb dJ13_bitCount_95d88_1 rfl (lv_at hl 0 rfl) ?_
  refine lv_iconst (v := 1) (pc := 2) hx hb dJ13_bitCount_95d88_2 rfl ?_
  refine lv_lushr (v := (lusr p1 1)) (pc := 3) hx hb dJ13_bitCount_95d88_3 rfl ?_
  refine lv_ldc2 (pc := 4) E.1 E.2.1 E.2.2.2.1 (E.2.2.2.2 _ kcJ13_314) dJ13_bitCount_95d88_4 ?_
  refine lv_land (pc := 7) hx hb dJ13_bitCount_95d88_7 ?_
  refine lv_lsub (pc := 8) hx hb dJ13_bitCount_95d88_8 ?_
  refine lv_topl (fun x1 ex1 => ?_)
  have hf := hf x1 ex1
  refine lv_lstore_n (lv' := [(0, .long x1)]) (pc := 9) hx hb dJ13_bitCount_95d88_9 rfl hl (by decide) rfl (fun ls hl => ?_)
  refine lv_lload_n (pc := 10) hx hb dJ13_bitCount_95d88_10 rfl (lv_at hl 0 rfl) ?_
  refine lv_ldc2 (pc := 11) E.1 E.2.1 E.2.2.2.1 (E.2.2.2.2 _ kcJ13_316) dJ13_bitCount_95d88_11 ?_
  refine lv_land (pc := 14) hx hb dJ13_bitCount_95d88_14 ?_
  refine lv_lload_n (pc := 15) hx hb dJ13_bitCount_95d88_15 rfl (lv_at hl 0 rfl) ?_
  refine lv_iconst (v := 2) (pc := 16) hx hb dJ13_bitCount_95d88_16 rfl ?_
  refine lv_lushr (v := (lusr x1 2)) (pc := 17) hx hb dJ13_bitCount_95d88_17 rfl ?_
  refine lv_ldc2 (pc := 18) E.1 E.2.1 E.2.2.2.1 (E.2.2.2.2 _ kcJ13_316) dJ13_bitCount_95d88_18 ?_
  refine lv_land (pc := 21) hx hb dJ13_bitCount_95d88_21 ?_
  refine lv_ladd (pc := 22) hx hb dJ13_bitCount_95d88_22 ?_
  refine lv_topl (fun x2 ex2 => ?_)
  have hf := hf x2 ex2
  refine lv_lstore_n (lv' := [(0, .long x2)]) (pc := 23) hx hb dJ13_bitCount_95d88_23 rfl hl (by decide) rfl (fun ls hl => ?_)
  refine lv_lload_n (pc := 24) hx hb dJ13_bitCount_95d88_24 rfl (lv_at hl 0 rfl) ?_
  refine lv_lload_n (pc := 25) hx hb dJ13_bitCount_95d88_25 rfl (lv_at hl 0 rfl) ?_
  refine lv_iconst (v := 4) (pc := 26) hx hb dJ13_bitCount_95d88_26 rfl ?_
  refine lv_lushr (v := (lusr x2 4)) (pc := 27) hx hb dJ13_bitCount_95d88_27 rfl ?_
  refine lv_ladd (pc := 28) hx hb dJ13_bitCount_95d88_28 ?_
  refine lv_ldc2 (pc := 29) E.1 E.2.1 E.2.2.2.1 (E.2.2.2.2 _ kcJ13_318) dJ13_bitCount_95d88_29 ?_
  refine lv_land (pc := 32) hx hb dJ13_bitCount_95d88_32 ?_
  refine lv_topl (fun x3 ex3 => ?_)
  have hf := hf x3 ex3
  refine lv_lstore_n (lv' := [(0, .long x3)]) (pc := 33) hx hb dJ13_bitCount_95d88_33 rfl hl (by decide) rfl (fun ls hl => ?_)
  refine lv_lload_n (pc := 34) hx hb dJ13_bitCount_95d88_34 rfl (lv_at hl 0 rfl) ?_
  refine lv_lload_n (pc := 35) hx hb dJ13_bitCount_95d88_35 rfl (lv_at hl 0 rfl) ?_
  refine lv_bipush (v := 8) (pc := 36) hx hb dJ13_bitCount_95d88_36 rfl ?_
  refine lv_lushr (v := (lusr x3 8)) (pc := 38) hx hb dJ13_bitCount_95d88_38 rfl ?_
  refine lv_ladd (pc := 39) hx hb dJ13_bitCount_95d88_39 ?_
  refine lv_topl (fun x4 ex4 => ?_)
  have hf := hf x4 ex4
  refine lv_lstore_n (lv' := [(0, .long x4)]) (pc := 40) hx hb dJ13_bitCount_95d88_40 rfl hl (by decide) rfl (fun ls hl => ?_)
  refine lv_lload_n (pc := 41) hx hb dJ13_bitCount_95d88_41 rfl (lv_at hl 0 rfl) ?_
  refine lv_lload_n (pc := 42) hx hb dJ13_bitCount_95d88_42 rfl (lv_at hl 0 rfl) ?_
  refine lv_bipush (v := 16) (pc := 43) hx hb dJ13_bitCount_95d88_43 rfl ?_
  refine lv_lushr (v := (lusr x4 16)) (pc := 45) hx hb dJ13_bitCount_95d88_45 rfl ?_
  refine lv_ladd (pc := 46) hx hb dJ13_bitCount_95d88_46 ?_
  refine lv_topl (fun x5 ex5 => ?_)
  have hf := hf x5 ex5
  refine lv_lstore_n (lv' := [(0, .long x5)]) (pc := 47) hx hb dJ13_bitCount_95d88_47 rfl hl (by decide) rfl (fun ls hl => ?_)
  refine lv_lload_n (pc := 48) hx hb dJ13_bitCount_95d88_48 rfl (lv_at hl 0 rfl) ?_
  refine lv_lload_n (pc := 49) hx hb dJ13_bitCount_95d88_49 rfl (lv_at hl 0 rfl) ?_
  refine lv_bipush (v := 32) (pc := 50) hx hb dJ13_bitCount_95d88_50 rfl ?_
  refine lv_lushr (v := (lusr x5 32)) (pc := 52) hx hb dJ13_bitCount_95d88_52 rfl ?_
  refine lv_ladd (pc := 53) hx hb dJ13_bitCount_95d88_53 ?_
  refine lv_topl (fun x6 ex6 => ?_)
  have hf := hf x6 ex6
  refine lv_lstore_n (lv' := [(0, .long x6)]) (pc := 54) hx hb dJ13_bitCount_95d88_54 rfl hl (by decide) rfl (fun ls hl => ?_)
  refine lv_lload_n (pc := 55) hx hb dJ13_bitCount_95d88_55 rfl (lv_at hl 0 rfl) ?_
  refine lv_l2i (v := ((x6).toInt32)) (pc := 56) hx hb dJ13_bitCount_95d88_56 rfl ?_
  refine lv_bipush (v := 127) (pc := 57) hx hb dJ13_bitCount_95d88_57 rfl ?_
  refine lv_iand (pc := 59) hx hb dJ13_bitCount_95d88_59 ?_
  exact rI (pc := 60) E hr hlk hI hf dJ13_bitCount_95d88_60
theorem tJ13_bitCount_95d88 {l : Launch} {D : va_G} {z : Nat → Nat} {σ : St} {ad : Nat → Nat → Nat} {cy : Nat → ClassId} {Rr : va_W} {Q : Int32 → St → Prop} {p1 : Int64} (hf : wJ13_bitCount_95d88 p1 σ Q) : CtI l yJ13_bitCount_95d88 cJ13_bitCount_95d88 2 .int 0 (D, tysC cy, SF z) (LC ad cy Rr) [.long p1] σ Q := mkI (by decide) (Nat.le_of_ble_eq_true rfl) (fun p e s m below meth c A E hr hlk hI ls hl => bJ13_bitCount_95d88 E hr hlk hf hI hl)

def wJ9_floorMod_7cf53 (p1 : Int32) (p2 : Int32) (σ : St) (Q : Int32 → St → Prop) : Prop := (¬ p2 = 0) ∧ ∀ x2 : Int32, x2 = (irm p1 p2) → ((0 ≤ (p1 ^^^ p2) → Q x2 σ) ∧ (¬ 0 ≤ (p1 ^^^ p2) → ((x2 = 0 → Q x2 σ) ∧ (¬ x2 = 0 → Q (x2 + p2) σ))))
set_option maxRecDepth 100000 in
set_option maxHeartbeats 4000000 in
theorem bJ9_floorMod_7cf53 {p : Program} {l : Launch} {e : Env} {s : State} {m : MethodId} {args : Array Value} {below : List Frame} {meth : Method} {c : Code} {H : Heap} {locs : List Loc} {ls : Array Slot} {D : va_G} {z : Nat → Nat} {A : Nat → Prop} {σ : St} {ad : Nat → Nat → Nat} {cy : Nat → ClassId} {Rr : va_W} {Q : Int32 → St → Prop} {p1 : Int32} {p2 : Int32} (E : CallFix p m c cJ9_floorMod_7cf53 3 s args TB RJ9) (hr : meth.sig.returnType = some .int) (hlk : meth.locks = false) (hf : wJ9_floorMod_7cf53 p1 p2 σ Q) (hI : In (D, tysC cy, SF z) (LC ad cy Rr σ) A s H locs) (hl : lv_has ls 3 [(0, .int p1), (1, .int p2)]) : W p l e (rmD 0) s m args below meth c H locs 0 0 (PI below args s (D, tysC cy, SF z) A (LC ad cy Rr) Q) (F0 m 0 ls []) := by
  have hx := E.1
  have hb := E.2.1
  unfold wJ9_floorMod_7cf53 at hf
  refine lv_iload_n (pc := 0) hx hb dJ9_floorMod_7cf53_0 rfl (lv_at hl 0 rfl) ?_
  refine lv_iload_n (pc := 1) hx hb dJ9_floorMod_7cf53_1 rfl (lv_at hl 1 rfl) ?_
  have g1 := hf.1
  have hf := hf.2
  refine lv_irem1 (pc := 2) hx hb dJ9_floorMod_7cf53_2 g1 ?_
  refine lv_topi (fun x2 ex2 => ?_)
  have hf := hf x2 ex2
  refine lv_istore_n (lv' := [(2, .int x2), (0, .int p1), (1, .int p2)]) (pc := 3) hx hb dJ9_floorMod_7cf53_3 rfl hl (by decide) rfl (fun ls hl => ?_)
  refine lv_iload_n (pc := 4) hx hb dJ9_floorMod_7cf53_4 rfl (lv_at hl 1 rfl) ?_
  refine lv_iload_n (pc := 5) hx hb dJ9_floorMod_7cf53_5 rfl (lv_at hl 2 rfl) ?_
  refine lv_ixor (pc := 6) hx hb dJ9_floorMod_7cf53_6 ?_
  refine lv_if_ge (tgt := 18) (pc := 7) hx hb dJ9_floorMod_7cf53_7 (by decide) (fun c3 => ?_) (fun c3 => ?_)
  · have hf := hf.1 c3
    refine lv_iload_n (pc := 18) hx hb dJ9_floorMod_7cf53_18 rfl (lv_at hl 0 rfl) ?_
    exact rI (pc := 19) E hr hlk hI hf dJ9_floorMod_7cf53_19
  · have hf := hf.2 c3
    refine lv_iload_n (pc := 10) hx hb dJ9_floorMod_7cf53_10 rfl (lv_at hl 0 rfl) ?_
    refine lv_if_eq (tgt := 18) (pc := 11) hx hb dJ9_floorMod_7cf53_11 (by decide) (fun c4 => ?_) (fun c4 => ?_)
    · have hf := hf.1 c4
      refine lv_iload_n (pc := 18) hx hb dJ9_floorMod_7cf53_18 rfl (lv_at hl 0 rfl) ?_
      exact rI (pc := 19) E hr hlk hI hf dJ9_floorMod_7cf53_19
    · have hf := hf.2 c4
      refine lv_iload_n (pc := 14) hx hb dJ9_floorMod_7cf53_14 rfl (lv_at hl 0 rfl) ?_
      refine lv_iload_n (pc := 15) hx hb dJ9_floorMod_7cf53_15 rfl (lv_at hl 2 rfl) ?_
      refine lv_iadd (pc := 16) hx hb dJ9_floorMod_7cf53_16 ?_
      exact rI (pc := 17) E hr hlk hI hf dJ9_floorMod_7cf53_17
theorem tJ9_floorMod_7cf53 {l : Launch} {D : va_G} {z : Nat → Nat} {σ : St} {ad : Nat → Nat → Nat} {cy : Nat → ClassId} {Rr : va_W} {Q : Int32 → St → Prop} {p1 : Int32} {p2 : Int32} (hf : wJ9_floorMod_7cf53 p1 p2 σ Q) : CtI l yJ9_floorMod_7cf53 cJ9_floorMod_7cf53 3 .int 0 (D, tysC cy, SF z) (LC ad cy Rr) [.int p1, .int p2] σ Q := mkIF (by decide +kernel) (Nat.le_of_ble_eq_true rfl) (fun p e s m below meth c A E hr hlk hI ls hl => bJ9_floorMod_7cf53 E hr hlk hf hI hl)

def wX0_takeDigits_j87 (s1 : Int32) (σ : St) (Q : St → Prop) : Prop := ∀ σ4 : St, σ4 = sI σ 5 3 s1 → Q σ4
set_option maxRecDepth 100000 in
set_option maxHeartbeats 4000000 in
theorem bX0_takeDigits_87 {p : Program} {l : Launch} {e : Env} {s : State} {m : MethodId} {args : Array Value} {below : List Frame} {meth : Method} {c : Code} {H : Heap} {locs : List Loc} {ls : Array Slot} {D : va_G} {z : Nat → Nat} {A : Nat → Prop} {σ : St} {ad : Nat → Nat → Nat} {cy : Nat → ClassId} {Rr : va_W} {Q : St → Prop} {s1 : Int32} (E : CallFix p m c cX0_takeDigits 1 s args TB RX0) (hr : meth.sig.returnType = none) (hlk : meth.locks = false) (hf : wX0_takeDigits_j87 s1 σ Q) (hI : In (D, tysC cy, SF z) (LC ad cy Rr σ) A s H locs) (hl : lv_has ls 1 []) : W p l e (rmD 1) s m args below meth c H locs 0 0 (PV below args s (D, tysC cy, SF z) A (LC ad cy Rr) Q) (F0 m 87 ls [.int s1, .ref (ad 5 99)]) := by
  have hx := E.1
  have hb := E.2.1
  unfold wX0_takeDigits_j87 at hf
  refine p0_3 (pc := 87) E hI rfl lkX0_22 dX0_takeDigits_87 (fun H locs σ4 eσ4 hI => ?_)
  have hf := hf σ4 eσ4
  exact rV (pc := 90) E hr hlk hI hf dX0_takeDigits_90
def wX0_takeDigits_j68 (σ : St) (Q : St → Prop) : Prop := ((((gI σ 5 2) - (gI σ 5 4)) ≤ 4 → (wX0_takeDigits_j87 2 σ Q)) ∧ (¬ ((gI σ 5 2) - (gI σ 5 4)) ≤ 4 → (wX0_takeDigits_j87 1 σ Q)))
set_option maxRecDepth 100000 in
set_option maxHeartbeats 4000000 in
theorem bX0_takeDigits_68 {p : Program} {l : Launch} {e : Env} {s : State} {m : MethodId} {args : Array Value} {below : List Frame} {meth : Method} {c : Code} {H : Heap} {locs : List Loc} {ls : Array Slot} {D : va_G} {z : Nat → Nat} {A : Nat → Prop} {σ : St} {ad : Nat → Nat → Nat} {cy : Nat → ClassId} {Rr : va_W} {Q : St → Prop} (E : CallFix p m c cX0_takeDigits 1 s args TB RX0) (hr : meth.sig.returnType = none) (hlk : meth.locks = false) (hf : wX0_takeDigits_j68 σ Q) (hI : In (D, tysC cy, SF z) (LC ad cy Rr σ) A s H locs) (hl : lv_has ls 1 [(0, .ref (ad 5 99))]) : W p l e (rmD 1) s m args below meth c H locs 0 0 (PV below args s (D, tysC cy, SF z) A (LC ad cy Rr) Q) (F0 m 68 ls []) := by
  have hx := E.1
  have hb := E.2.1
  unfold wX0_takeDigits_j68 at hf
  refine lv_aload_n (pc := 68) hx hb dX0_takeDigits_68 rfl (lv_at hl 0 rfl) ?_
  refine lv_aload_n (pc := 69) hx hb dX0_takeDigits_69 rfl (lv_at hl 0 rfl) ?_
  refine g0_2 (pc := 70) E hI rfl lkX0_19 dX0_takeDigits_70 ?_
  refine lv_aload_n (pc := 73) hx hb dX0_takeDigits_73 rfl (lv_at hl 0 rfl) ?_
  refine g0_4 (pc := 74) E hI rfl lkX0_25 dX0_takeDigits_74 ?_
  refine lv_isub (pc := 77) hx hb dX0_takeDigits_77 ?_
  refine lv_iconst (v := 4) (pc := 78) hx hb dX0_takeDigits_78 rfl ?_
  refine lv_icmp_le (tgt := 86) (pc := 79) hx hb dX0_takeDigits_79 (by decide) (fun c3 => ?_) (fun c3 => ?_)
  · have hf := hf.1 c3
    refine lv_iconst (v := 2) (pc := 86) hx hb dX0_takeDigits_86 rfl ?_
    exact bX0_takeDigits_87 E hr hlk hf hI (lv_sub hl [] rfl)
  · have hf := hf.2 c3
    refine lv_iconst (v := 1) (pc := 82) hx hb dX0_takeDigits_82 rfl ?_
    refine lv_goto (tgt := 87) (pc := 83) hx hb dX0_takeDigits_83 (by decide) ?_
    exact bX0_takeDigits_87 E hr hlk hf hI (lv_sub hl [] rfl)
def wX0_takeDigits_l5s (ih : St → Prop) (σ : St) (Q : St → Prop) : Prop := (((gI σ 5 1) ≤ (gI σ 5 2) → (wX0_takeDigits_j68 σ Q)) ∧ (¬ (gI σ 5 1) ≤ (gI σ 5 2) → vp_in (gI σ 5 2) 160 ∧ wX0_isDigit (gA σ 5 0 (gI σ 5 2).toNatClampNeg) σ (fun r7 σ6 => ((r7 = 0 → (wX0_takeDigits_j68 σ6 Q)) ∧ (¬ r7 = 0 → vp_in (gI σ6 5 2) 160 ∧ ∀ σ10 : St, σ10 = sI σ6 5 5 ((((gI σ6 5 5) * 10) + (gA σ6 5 0 (gI σ6 5 2).toNatClampNeg)) - 48) → ∀ σ11 : St, σ11 = sI σ10 5 2 ((gI σ10 5 2) + 1) → (ih σ11))))))
def wX0_takeDigits_l5 (n : Nat) : St → (St → Prop) → Prop := @Nat.rec (fun _ => St → (St → Prop) → Prop) (fun _ _ => False) (fun _ ih σ Q => wX0_takeDigits_l5s (fun σ => ih σ Q) σ Q) n
set_option maxRecDepth 100000 in
set_option maxHeartbeats 4000000 in
theorem bX0_takeDigits_5 {p : Program} {l : Launch} {e : Env} {s : State} {m : MethodId} {args : Array Value} {below : List Frame} {meth : Method} {c : Code} {D : va_G} {z : Nat → Nat} {A : Nat → Prop} {ad : Nat → Nat → Nat} {cy : Nat → ClassId} {Rr : va_W} {Q : St → Prop} (E : CallFix p m c cX0_takeDigits 1 s args TB RX0) (hr : meth.sig.returnType = none) (hlk : meth.locks = false) : ∀ (n : Nat) {σ : St} {H : Heap} {locs : List Loc} {ls : Array Slot}, wX0_takeDigits_l5 n σ Q → In (D, tysC cy, SF z) (LC ad cy Rr σ) A s H locs → lv_has ls 1 [(0, .ref (ad 5 99))] → W p l e (rmD 1) s m args below meth c H locs 0 0 (PV below args s (D, tysC cy, SF z) A (LC ad cy Rr) Q) (F0 m 5 ls []) := by
  have hx := E.1
  have hb := E.2.1
  intro n
  induction n with
  | zero => intro σ H locs ls hf hI hl; exact False.elim hf
  | succ n ih =>
    intro σ H locs ls hf hI hl
    have hf : wX0_takeDigits_l5s (fun σ => wX0_takeDigits_l5 n σ Q) σ Q := hf
    unfold wX0_takeDigits_l5s at hf
    refine lv_aload_n (pc := 5) hx hb dX0_takeDigits_5 rfl (lv_at hl 0 rfl) ?_
    refine g0_2 (pc := 6) E hI rfl lkX0_19 dX0_takeDigits_6 ?_
    refine lv_aload_n (pc := 9) hx hb dX0_takeDigits_9 rfl (lv_at hl 0 rfl) ?_
    refine g0_1 (pc := 10) E hI rfl lkX0_15 dX0_takeDigits_10 ?_
    refine lv_icmp_ge (tgt := 68) (pc := 13) hx hb dX0_takeDigits_13 (by decide) (fun c2 => ?_) (fun c2 => ?_)
    · have hf := hf.1 c2
      exact bX0_takeDigits_68 E hr hlk hf hI (lv_sub hl [0] rfl)
    · have hf := hf.2 c2
      refine lv_aload_n (pc := 16) hx hb dX0_takeDigits_16 rfl (lv_at hl 0 rfl) ?_
      refine g0_0 (pc := 17) E hI rfl lkX0_11 dX0_takeDigits_17 ?_
      refine lv_aload_n (pc := 20) hx hb dX0_takeDigits_20 rfl (lv_at hl 0 rfl) ?_
      refine g0_2 (pc := 21) E hI rfl lkX0_19 dX0_takeDigits_21 ?_
      have g5 := hf.1
      have hf := hf.2
      refine a0_0 (pc := 24) E hI rfl g5 dX0_takeDigits_24 ?_
      refine callSI (G := (D, tysC cy, SF z)) (L := LC ad cy Rr) (pc := 25) (As := [.int (gA σ 5 0 (gI σ 5 2).toNatClampNeg)]) (rest := []) stabSF E cs0 hl hI (tX0_isDigit hf) mwX0_78 (fitD (by decide)) rfl rfl (Nat.le_of_ble_eq_true rfl) dX0_takeDigits_25 (fun r7 σ6 H locs hf hI => ?_)
      refine lv_if_eq (tgt := 68) (pc := 28) hx hb dX0_takeDigits_28 (by decide) (fun c8 => ?_) (fun c8 => ?_)
      · have hf := hf.1 c8
        exact bX0_takeDigits_68 E hr hlk hf hI (lv_sub hl [0] rfl)
      · have hf := hf.2 c8
        refine lv_aload_n (pc := 31) hx hb dX0_takeDigits_31 rfl (lv_at hl 0 rfl) ?_
        refine lv_aload_n (pc := 32) hx hb dX0_takeDigits_32 rfl (lv_at hl 0 rfl) ?_
        refine g0_5 (pc := 33) E hI rfl lkX0_28 dX0_takeDigits_33 ?_
        refine lv_bipush (v := 10) (pc := 36) hx hb dX0_takeDigits_36 rfl ?_
        refine lv_imul (pc := 38) hx hb dX0_takeDigits_38 ?_
        refine lv_aload_n (pc := 39) hx hb dX0_takeDigits_39 rfl (lv_at hl 0 rfl) ?_
        refine g0_0 (pc := 40) E hI rfl lkX0_11 dX0_takeDigits_40 ?_
        refine lv_aload_n (pc := 43) hx hb dX0_takeDigits_43 rfl (lv_at hl 0 rfl) ?_
        refine g0_2 (pc := 44) E hI rfl lkX0_19 dX0_takeDigits_44 ?_
        have g9 := hf.1
        have hf := hf.2
        refine a0_0 (pc := 47) E hI rfl g9 dX0_takeDigits_47 ?_
        refine lv_iadd (pc := 48) hx hb dX0_takeDigits_48 ?_
        refine lv_bipush (v := 48) (pc := 49) hx hb dX0_takeDigits_49 rfl ?_
        refine lv_isub (pc := 51) hx hb dX0_takeDigits_51 ?_
        refine p0_5 (pc := 52) E hI rfl lkX0_28 dX0_takeDigits_52 (fun H locs σ10 eσ10 hI => ?_)
        have hf := hf σ10 eσ10
        refine lv_aload_n (pc := 55) hx hb dX0_takeDigits_55 rfl (lv_at hl 0 rfl) ?_
        refine lv_dup (pc := 56) hx hb dX0_takeDigits_56 rfl ?_
        refine g0_2 (pc := 57) E hI rfl lkX0_19 dX0_takeDigits_57 ?_
        refine lv_iconst (v := 1) (pc := 60) hx hb dX0_takeDigits_60 rfl ?_
        refine lv_iadd (pc := 61) hx hb dX0_takeDigits_61 ?_
        refine p0_2 (pc := 62) E hI rfl lkX0_19 dX0_takeDigits_62 (fun H locs σ11 eσ11 hI => ?_)
        have hf := hf σ11 eσ11
        refine lv_goto (tgt := 5) (pc := 65) hx hb dX0_takeDigits_65 (by decide) ?_
        exact ih hf hI (lv_sub hl [0] rfl)
def wX0_takeDigits (σ : St) (Q : St → Prop) : Prop := ∀ σ1 : St, σ1 = sI σ 5 5 0 → ∃ n12 : Nat, wX0_takeDigits_l5 n12 σ1 Q
set_option maxRecDepth 100000 in
set_option maxHeartbeats 4000000 in
theorem bX0_takeDigits {p : Program} {l : Launch} {e : Env} {s : State} {m : MethodId} {args : Array Value} {below : List Frame} {meth : Method} {c : Code} {H : Heap} {locs : List Loc} {ls : Array Slot} {D : va_G} {z : Nat → Nat} {A : Nat → Prop} {σ : St} {ad : Nat → Nat → Nat} {cy : Nat → ClassId} {Rr : va_W} {Q : St → Prop} (E : CallFix p m c cX0_takeDigits 1 s args TB RX0) (hr : meth.sig.returnType = none) (hlk : meth.locks = false) (hf : wX0_takeDigits σ Q) (hI : In (D, tysC cy, SF z) (LC ad cy Rr σ) A s H locs) (hl : lv_has ls 1 [(0, .ref (ad 5 99))]) : W p l e (rmD 1) s m args below meth c H locs 0 0 (PV below args s (D, tysC cy, SF z) A (LC ad cy Rr) Q) (F0 m 0 ls []) := by
  have hx := E.1
  have hb := E.2.1
  unfold wX0_takeDigits at hf
  refine lv_aload_n (pc := 0) hx hb dX0_takeDigits_0 rfl (lv_at hl 0 rfl) ?_
  refine lv_iconst (v := 0) (pc := 1) hx hb dX0_takeDigits_1 rfl ?_
  refine p0_5 (pc := 2) E hI rfl lkX0_28 dX0_takeDigits_2 (fun H locs σ1 eσ1 hI => ?_)
  have hf := hf σ1 eσ1
  obtain ⟨n12, hf⟩ := hf
  exact bX0_takeDigits_5 E hr hlk n12 hf hI (lv_sub hl [0] rfl)
theorem tX0_takeDigits {l : Launch} {D : va_G} {z : Nat → Nat} {σ : St} {ad : Nat → Nat → Nat} {cy : Nat → ClassId} {Rr : va_W} {Q : St → Prop} (hf : wX0_takeDigits σ Q) : CtV l yX0_takeDigits cX0_takeDigits 1 1 (D, tysC cy, SF z) (LC ad cy Rr) [.ref (ad 5 99)] σ Q := mkV (by decide) (Nat.le_of_ble_eq_true rfl) (fun p e s m below meth c A E hr hlk hI ls hl => bX0_takeDigits E hr hlk hf hI hl)

def wX1_daysBounded (p1 : Int32) (σ : St) (Q : Int32 → St → Prop) : Prop := Q (if 1 < (if p1 < 99 then p1 else 99) then (if p1 < 99 then p1 else 99) else 1) σ
set_option maxRecDepth 100000 in
set_option maxHeartbeats 4000000 in
theorem bX1_daysBounded {p : Program} {l : Launch} {e : Env} {s : State} {m : MethodId} {args : Array Value} {below : List Frame} {meth : Method} {c : Code} {H : Heap} {locs : List Loc} {ls : Array Slot} {D : va_G} {z : Nat → Nat} {A : Nat → Prop} {σ : St} {ad : Nat → Nat → Nat} {cy : Nat → ClassId} {Rr : va_W} {Q : Int32 → St → Prop} {p1 : Int32} (E : CallFix p m c cX1_daysBounded 1 s args TB RX1) (hr : meth.sig.returnType = some .int) (hlk : meth.locks = false) (hf : wX1_daysBounded p1 σ Q) (hI : In (D, tysC cy, SF z) (LC ad cy Rr σ) A s H locs) (hl : lv_has ls 1 [(0, .int p1)]) : W p l e (rmD 1) s m args below meth c H locs 0 0 (PI below args s (D, tysC cy, SF z) A (LC ad cy Rr) Q) (F0 m 0 ls []) := by
  have hx := E.1
  have hb := E.2.1
  unfold wX1_daysBounded at hf
  refine lv_iconst (v := 1) (pc := 0) hx hb dX1_daysBounded_0 rfl ?_
  refine lv_bipush (v := 99) (pc := 1) hx hb dX1_daysBounded_1 rfl ?_
  refine lv_iload_n (pc := 3) hx hb dX1_daysBounded_3 rfl (lv_at hl 0 rfl) ?_
  refine rMin (pc := 4) E cs0 hl mwX1_34 (fitD (by decide)) (Nat.le_of_ble_eq_true rfl) dX1_daysBounded_4 ?_
  refine rMax (pc := 7) E cs0 hl mwX1_93 (fitD (by decide)) (Nat.le_of_ble_eq_true rfl) dX1_daysBounded_7 ?_
  exact rI (pc := 10) E hr hlk hI hf dX1_daysBounded_10
theorem tX1_daysBounded {l : Launch} {D : va_G} {z : Nat → Nat} {σ : St} {ad : Nat → Nat → Nat} {cy : Nat → ClassId} {Rr : va_W} {Q : Int32 → St → Prop} {p1 : Int32} (hf : wX1_daysBounded p1 σ Q) : CtI l yX1_daysBounded cX1_daysBounded 1 .int 1 (D, tysC cy, SF z) (LC ad cy Rr) [.int p1] σ Q := mkI (by decide) (Nat.le_of_ble_eq_true rfl) (fun p e s m below meth c A E hr hlk hI ls hl => bX1_daysBounded E hr hlk hf hI hl)

def wX1_named (p1 : Int32) (ob : Nat) (p3 : Int32) (σ : St) (Q : Int32 → St → Prop) : Prop := ((p1 = (-6) → wX4_squaresInBox ob σ (fun r3 σ2 => Q r3 σ2)) ∧ (p1 = (-5) → wJ13_bitCount_95d88 (gJ σ ob 1) σ (fun r6 σ5 => Q r6 σ5)) ∧ (p1 = (-4) → Q (gI σ ob 2) σ) ∧ (p1 = (-3) → vp_in p3 5 ∧ Q (gA σ ob 7 p3.toNatClampNeg) σ) ∧ (p1 = (-2) → vp_in p3 5 ∧ Q (gA σ ob 8 p3.toNatClampNeg) σ) ∧ (p1 = (-1) → vp_in p3 5 ∧ Q (gA σ ob 9 p3.toNatClampNeg) σ) ∧ (¬ p1 = (-6) → ¬ p1 = (-5) → ¬ p1 = (-4) → ¬ p1 = (-3) → ¬ p1 = (-2) → ¬ p1 = (-1) → Q 0 σ))
set_option maxRecDepth 100000 in
set_option maxHeartbeats 4000000 in
theorem bX1_named {p : Program} {l : Launch} {e : Env} {s : State} {m : MethodId} {args : Array Value} {below : List Frame} {meth : Method} {c : Code} {H : Heap} {locs : List Loc} {ls : Array Slot} {D : va_G} {z : Nat → Nat} {A : Nat → Prop} {σ : St} {ad : Nat → Nat → Nat} {cy : Nat → ClassId} {Rr : va_W} {Q : Int32 → St → Prop} {p1 : Int32} {ob : Nat} {p3 : Int32} (E : CallFix p m c cX1_named 3 s args TB RX1) (hr : meth.sig.returnType = some .int) (hlk : meth.locks = false) (hob : kd ob = 4) (hf : wX1_named p1 ob p3 σ Q) (hI : In (D, tysC cy, SF z) (LC ad cy Rr σ) A s H locs) (hl : lv_has ls 3 [(0, .int p1), (1, .ref (ad ob 99)), (2, .int p3)]) : W p l e (rmD 1) s m args below meth c H locs 0 0 (PI below args s (D, tysC cy, SF z) A (LC ad cy Rr) Q) (F0 m 0 ls []) := by
  have hx := E.1
  have hb := E.2.1
  unfold wX1_named at hf
  refine lv_iload_n (pc := 0) hx hb dX1_named_0 rfl (lv_at hl 0 rfl) ?_
  by_cases c1 : p1 = (-6)
  · refine lv_tableIn (tgt := 74) (pc := 1) hx hb dX1_named_1 (by rw [c1]; decide) (by rw [c1]; decide) (by rw [c1]; rfl) (by decide) ?_
    have hf := hf.1 c1
    refine lv_aload_n (pc := 74) hx hb dX1_named_74 rfl (lv_at hl 1 rfl) ?_
    refine callVI (G := (D, tysC cy, SF z)) (L := LC ad cy Rr) (pc := 75) (As := []) (rest := []) stabSF E cs0 hl hI (tX4_squaresInBox hob hf) mwX1_77 (fitD (by decide)) (at4 hob) rfl rfl rfl rfl (Nat.le_of_ble_eq_true rfl) dX1_named_75 (fun r3 σ2 H locs hf hI => ?_)
    exact rI (pc := 78) E hr hlk hI hf dX1_named_78
  have hf := hf.2
  by_cases c4 : p1 = (-5)
  · refine lv_tableIn (tgt := 66) (pc := 1) hx hb dX1_named_1 (by rw [c4]; decide) (by rw [c4]; decide) (by rw [c4]; rfl) (by decide) ?_
    have hf := hf.1 c4
    refine lv_aload_n (pc := 66) hx hb dX1_named_66 rfl (lv_at hl 1 rfl) ?_
    refine g4_1 (pc := 67) E hI hob lkX1_84 dX1_named_67 ?_
    refine callSI (G := (D, tysC cy, SF z)) (L := LC ad cy Rr) (pc := 70) (As := [.long (gJ σ ob 1)]) (rest := []) stabSF E cs0 hl hI (tJ13_bitCount_95d88 hf) mwX1_119 (fitD (by decide)) rfl rfl (Nat.le_of_ble_eq_true rfl) dX1_named_70 (fun r6 σ5 H locs hf hI => ?_)
    exact rI (pc := 73) E hr hlk hI hf dX1_named_73
  have hf := hf.2
  by_cases c7 : p1 = (-4)
  · refine lv_tableIn (tgt := 61) (pc := 1) hx hb dX1_named_1 (by rw [c7]; decide) (by rw [c7]; decide) (by rw [c7]; rfl) (by decide) ?_
    have hf := hf.1 c7
    refine lv_aload_n (pc := 61) hx hb dX1_named_61 rfl (lv_at hl 1 rfl) ?_
    refine g4_2 (pc := 62) E hI hob lkX1_60 dX1_named_62 ?_
    exact rI (pc := 65) E hr hlk hI hf dX1_named_65
  have hf := hf.2
  by_cases c8 : p1 = (-3)
  · refine lv_tableIn (tgt := 54) (pc := 1) hx hb dX1_named_1 (by rw [c8]; decide) (by rw [c8]; decide) (by rw [c8]; rfl) (by decide) ?_
    have hf := hf.1 c8
    refine lv_aload_n (pc := 54) hx hb dX1_named_54 rfl (lv_at hl 1 rfl) ?_
    refine g4_7 (pc := 55) E hI hob lkX1_74 dX1_named_55 ?_
    refine lv_iload_n (pc := 58) hx hb dX1_named_58 rfl (lv_at hl 2 rfl) ?_
    have g9 := hf.1
    have hf := hf.2
    refine a4_7 (pc := 59) E hI hob g9 dX1_named_59 ?_
    exact rI (pc := 60) E hr hlk hI hf dX1_named_60
  have hf := hf.2
  by_cases c10 : p1 = (-2)
  · refine lv_tableIn (tgt := 47) (pc := 1) hx hb dX1_named_1 (by rw [c10]; decide) (by rw [c10]; decide) (by rw [c10]; rfl) (by decide) ?_
    have hf := hf.1 c10
    refine lv_aload_n (pc := 47) hx hb dX1_named_47 rfl (lv_at hl 1 rfl) ?_
    refine g4_8 (pc := 48) E hI hob lkX1_57 dX1_named_48 ?_
    refine lv_iload_n (pc := 51) hx hb dX1_named_51 rfl (lv_at hl 2 rfl) ?_
    have g11 := hf.1
    have hf := hf.2
    refine a4_8 (pc := 52) E hI hob g11 dX1_named_52 ?_
    exact rI (pc := 53) E hr hlk hI hf dX1_named_53
  have hf := hf.2
  by_cases c12 : p1 = (-1)
  · refine lv_tableIn (tgt := 40) (pc := 1) hx hb dX1_named_1 (by rw [c12]; decide) (by rw [c12]; decide) (by rw [c12]; rfl) (by decide) ?_
    have hf := hf.1 c12
    refine lv_aload_n (pc := 40) hx hb dX1_named_40 rfl (lv_at hl 1 rfl) ?_
    refine g4_9 (pc := 41) E hI hob lkX1_31 dX1_named_41 ?_
    refine lv_iload_n (pc := 44) hx hb dX1_named_44 rfl (lv_at hl 2 rfl) ?_
    have g13 := hf.1
    have hf := hf.2
    refine a4_9 (pc := 45) E hI hob g13 dX1_named_45 ?_
    exact rI (pc := 46) E hr hlk hI hf dX1_named_46
  have hf := hf.2
  have hf := hf c1 c4 c7 c8 c10 c12
  refine lv_tableOut (tgt := 79) (pc := 1) hx hb dX1_named_1 (by have := neI (k := -6) c1 rfl; have := neI (k := -5) c4 rfl; have := neI (k := -4) c7 rfl; have := neI (k := -3) c8 rfl; have := neI (k := -2) c10 rfl; have := neI (k := -1) c12 rfl; omega) (by decide) ?_
  refine lv_iconst (v := 0) (pc := 79) hx hb dX1_named_79 rfl ?_
  exact rI (pc := 80) E hr hlk hI hf dX1_named_80
theorem tX1_named {l : Launch} {D : va_G} {z : Nat → Nat} {σ : St} {ad : Nat → Nat → Nat} {cy : Nat → ClassId} {Rr : va_W} {Q : Int32 → St → Prop} {p1 : Int32} {ob : Nat} {p3 : Int32} (hob : kd ob = 4) (hf : wX1_named p1 ob p3 σ Q) : CtI l yX1_named cX1_named 3 .int 1 (D, tysC cy, SF z) (LC ad cy Rr) [.int p1, .ref (ad ob 99), .int p3] σ Q := mkI (by decide) (Nat.le_of_ble_eq_true rfl) (fun p e s m below meth c A E hr hlk hI ls hl => bX1_named E hr hlk hob hf hI hl)

def wX4_change_j94 (t0 : Nat) (s1 : Int64) (σ : St) (Q : St → Prop) : Prop := ∀ σ7 : St, σ7 = sJ σ t0 1 s1 → Q σ7
set_option maxRecDepth 100000 in
set_option maxHeartbeats 4000000 in
theorem bX4_change_94 {p : Program} {l : Launch} {e : Env} {s : State} {m : MethodId} {args : Array Value} {below : List Frame} {meth : Method} {c : Code} {H : Heap} {locs : List Loc} {ls : Array Slot} {D : va_G} {z : Nat → Nat} {A : Nat → Prop} {σ : St} {ad : Nat → Nat → Nat} {cy : Nat → ClassId} {Rr : va_W} {Q : St → Prop} {t0 : Nat} {s1 : Int64} (E : CallFix p m c cX4_change 4 s args TB RX4) (hr : meth.sig.returnType = none) (hlk : meth.locks = false) (ht0 : kd t0 = 4) (hf : wX4_change_j94 t0 s1 σ Q) (hI : In (D, tysC cy, SF z) (LC ad cy Rr σ) A s H locs) (hl : lv_has ls 4 []) : W p l e (rmD 1) s m args below meth c H locs 0 0 (PV below args s (D, tysC cy, SF z) A (LC ad cy Rr) Q) (F0 m 94 ls [.long s1, .ref (ad t0 99)]) := by
  have hx := E.1
  have hb := E.2.1
  unfold wX4_change_j94 at hf
  refine p4_1 (pc := 94) E hI ht0 lkX4_15 dX4_change_94 (fun H locs σ7 eσ7 hI => ?_)
  have hf := hf σ7 eσ7
  refine lv_goto (tgt := 150) (pc := 97) hx hb dX4_change_97 (by decide) ?_
  exact rV (pc := 150) E hr hlk hI hf dX4_change_150
def wX4_change (o : Nat) (p1 : Int32) (p2 : Int32) (p3 : Int32) (σ : St) (Q : St → Prop) : Prop := ((p1 = 0 → ∀ σ2 : St, σ2 = sI σ o 2 p3 → Q σ2) ∧ (p1 = 1 → wX4_wish o p2 p3 σ (fun σ4 => Q σ4)) ∧ (p1 = 2 → ((¬ p3 = 1 → (wX4_change_j94 o ((gJ σ o 1) &&& ((lsh 1 p2) ^^^ (-1))) σ Q)) ∧ (p3 = 1 → (wX4_change_j94 o ((gJ σ o 1) ||| (lsh 1 p2)) σ Q)))) ∧ (p1 = 3 → vp_in p2 4 ∧ ∀ σ10 : St, σ10 = sA σ o 4 p2.toNatClampNeg p3 → Q σ10) ∧ (p1 = 4 → vp_in p2 5 ∧ ∀ σ13 : St, σ13 = sA σ o 7 p2.toNatClampNeg p3 → Q σ13) ∧ (p1 = 5 → vp_in p2 5 ∧ ∀ σ16 : St, σ16 = sA σ o 8 p2.toNatClampNeg p3 → Q σ16) ∧ (p1 = 6 → vp_in p2 5 ∧ ∀ σ19 : St, σ19 = sA σ o 9 p2.toNatClampNeg p3 → Q σ19) ∧ (p1 = 7 → vp_in p2 5 ∧ ∀ σ22 : St, σ22 = sA σ o 10 p2.toNatClampNeg p3 → Q σ22) ∧ (¬ p1 = 0 → ¬ p1 = 1 → ¬ p1 = 2 → ¬ p1 = 3 → ¬ p1 = 4 → ¬ p1 = 5 → ¬ p1 = 6 → ¬ p1 = 7 → Q σ))
set_option maxRecDepth 100000 in
set_option maxHeartbeats 4000000 in
theorem bX4_change {p : Program} {l : Launch} {e : Env} {s : State} {m : MethodId} {args : Array Value} {below : List Frame} {meth : Method} {c : Code} {H : Heap} {locs : List Loc} {ls : Array Slot} {D : va_G} {z : Nat → Nat} {A : Nat → Prop} {σ : St} {ad : Nat → Nat → Nat} {cy : Nat → ClassId} {Rr : va_W} {Q : St → Prop} {o : Nat} {p1 : Int32} {p2 : Int32} {p3 : Int32} (E : CallFix p m c cX4_change 4 s args TB RX4) (hr : meth.sig.returnType = none) (hlk : meth.locks = false) (ho : kd o = 4) (hf : wX4_change o p1 p2 p3 σ Q) (hI : In (D, tysC cy, SF z) (LC ad cy Rr σ) A s H locs) (hl : lv_has ls 4 [(0, .ref (ad o 99)), (1, .int p1), (2, .int p2), (3, .int p3)]) : W p l e (rmD 1) s m args below meth c H locs 0 0 (PV below args s (D, tysC cy, SF z) A (LC ad cy Rr) Q) (F0 m 0 ls []) := by
  have hx := E.1
  have hb := E.2.1
  unfold wX4_change at hf
  refine lv_iload_n (pc := 0) hx hb dX4_change_0 rfl (lv_at hl 1 rfl) ?_
  by_cases c1 : p1 = 0
  · refine lv_tableIn (tgt := 48) (pc := 1) hx hb dX4_change_1 (by rw [c1]; decide) (by rw [c1]; decide) (by rw [c1]; rfl) (by decide) ?_
    have hf := hf.1 c1
    refine lv_aload_n (pc := 48) hx hb dX4_change_48 rfl (lv_at hl 0 rfl) ?_
    refine lv_iload_n (pc := 49) hx hb dX4_change_49 rfl (lv_at hl 3 rfl) ?_
    refine p4_2 (pc := 50) E hI ho lkX4_19 dX4_change_50 (fun H locs σ2 eσ2 hI => ?_)
    have hf := hf σ2 eσ2
    refine lv_goto (tgt := 150) (pc := 53) hx hb dX4_change_53 (by decide) ?_
    exact rV (pc := 150) E hr hlk hI hf dX4_change_150
  have hf := hf.2
  by_cases c3 : p1 = 1
  · refine lv_tableIn (tgt := 56) (pc := 1) hx hb dX4_change_1 (by rw [c3]; decide) (by rw [c3]; decide) (by rw [c3]; rfl) (by decide) ?_
    have hf := hf.1 c3
    refine lv_aload_n (pc := 56) hx hb dX4_change_56 rfl (lv_at hl 0 rfl) ?_
    refine lv_iload_n (pc := 57) hx hb dX4_change_57 rfl (lv_at hl 2 rfl) ?_
    refine lv_iload_n (pc := 58) hx hb dX4_change_58 rfl (lv_at hl 3 rfl) ?_
    refine callVV (G := (D, tysC cy, SF z)) (L := LC ad cy Rr) (pc := 59) (As := [.int p2, .int p3]) (rest := []) stabSF E cs0 hl hI (tX4_wish ho hf) mwX4_56 (fitD (by decide)) (at4 ho) rfl rfl rfl rfl (Nat.le_of_ble_eq_true rfl) dX4_change_59 (fun σ4 H locs hf hI => ?_)
    refine lv_goto (tgt := 150) (pc := 62) hx hb dX4_change_62 (by decide) ?_
    exact rV (pc := 150) E hr hlk hI hf dX4_change_150
  have hf := hf.2
  by_cases c5 : p1 = 2
  · refine lv_tableIn (tgt := 65) (pc := 1) hx hb dX4_change_1 (by rw [c5]; decide) (by rw [c5]; decide) (by rw [c5]; rfl) (by decide) ?_
    have hf := hf.1 c5
    refine lv_aload_n (pc := 65) hx hb dX4_change_65 rfl (lv_at hl 0 rfl) ?_
    refine lv_iload_n (pc := 66) hx hb dX4_change_66 rfl (lv_at hl 3 rfl) ?_
    refine lv_iconst (v := 1) (pc := 67) hx hb dX4_change_67 rfl ?_
    refine lv_icmp_ne (tgt := 82) (pc := 68) hx hb dX4_change_68 (by decide) (fun c6 => ?_) (fun c6 => ?_)
    · have hf := hf.1 c6
      refine lv_aload_n (pc := 82) hx hb dX4_change_82 rfl (lv_at hl 0 rfl) ?_
      refine g4_1 (pc := 83) E hI ho lkX4_15 dX4_change_83 ?_
      refine lv_lconst (v := 1) (pc := 86) hx hb dX4_change_86 rfl ?_
      refine lv_iload_n (pc := 87) hx hb dX4_change_87 rfl (lv_at hl 2 rfl) ?_
      refine lv_lshl (v := (lsh 1 p2)) (pc := 88) hx hb dX4_change_88 rfl ?_
      refine lv_ldc2 (pc := 89) E.1 E.2.1 E.2.2.2.1 (E.2.2.2.2 _ kcX4_60) dX4_change_89 ?_
      refine lv_lxor (pc := 92) hx hb dX4_change_92 ?_
      refine lv_land (pc := 93) hx hb dX4_change_93 ?_
      exact bX4_change_94 E hr hlk ho hf hI (lv_sub hl [] rfl)
    · have hf := hf.2 c6
      refine lv_aload_n (pc := 71) hx hb dX4_change_71 rfl (lv_at hl 0 rfl) ?_
      refine g4_1 (pc := 72) E hI ho lkX4_15 dX4_change_72 ?_
      refine lv_lconst (v := 1) (pc := 75) hx hb dX4_change_75 rfl ?_
      refine lv_iload_n (pc := 76) hx hb dX4_change_76 rfl (lv_at hl 2 rfl) ?_
      refine lv_lshl (v := (lsh 1 p2)) (pc := 77) hx hb dX4_change_77 rfl ?_
      refine lv_lor (pc := 78) hx hb dX4_change_78 ?_
      refine lv_goto (tgt := 94) (pc := 79) hx hb dX4_change_79 (by decide) ?_
      exact bX4_change_94 E hr hlk ho hf hI (lv_sub hl [] rfl)
  have hf := hf.2
  by_cases c8 : p1 = 3
  · refine lv_tableIn (tgt := 100) (pc := 1) hx hb dX4_change_1 (by rw [c8]; decide) (by rw [c8]; decide) (by rw [c8]; rfl) (by decide) ?_
    have hf := hf.1 c8
    refine lv_aload_n (pc := 100) hx hb dX4_change_100 rfl (lv_at hl 0 rfl) ?_
    refine g4_4 (pc := 101) E hI ho lkX4_26 dX4_change_101 ?_
    refine lv_iload_n (pc := 104) hx hb dX4_change_104 rfl (lv_at hl 2 rfl) ?_
    refine lv_iload_n (pc := 105) hx hb dX4_change_105 rfl (lv_at hl 3 rfl) ?_
    have g9 := hf.1
    have hf := hf.2
    refine s4_4 (pc := 106) E hI ho g9 dX4_change_106 (fun H locs σ10 eσ10 hI => ?_)
    have hf := hf σ10 eσ10
    refine lv_goto (tgt := 150) (pc := 107) hx hb dX4_change_107 (by decide) ?_
    exact rV (pc := 150) E hr hlk hI hf dX4_change_150
  have hf := hf.2
  by_cases c11 : p1 = 4
  · refine lv_tableIn (tgt := 110) (pc := 1) hx hb dX4_change_1 (by rw [c11]; decide) (by rw [c11]; decide) (by rw [c11]; rfl) (by decide) ?_
    have hf := hf.1 c11
    refine lv_aload_n (pc := 110) hx hb dX4_change_110 rfl (lv_at hl 0 rfl) ?_
    refine g4_7 (pc := 111) E hI ho lkX4_36 dX4_change_111 ?_
    refine lv_iload_n (pc := 114) hx hb dX4_change_114 rfl (lv_at hl 2 rfl) ?_
    refine lv_iload_n (pc := 115) hx hb dX4_change_115 rfl (lv_at hl 3 rfl) ?_
    have g12 := hf.1
    have hf := hf.2
    refine s4_7 (pc := 116) E hI ho g12 dX4_change_116 (fun H locs σ13 eσ13 hI => ?_)
    have hf := hf σ13 eσ13
    refine lv_goto (tgt := 150) (pc := 117) hx hb dX4_change_117 (by decide) ?_
    exact rV (pc := 150) E hr hlk hI hf dX4_change_150
  have hf := hf.2
  by_cases c14 : p1 = 5
  · refine lv_tableIn (tgt := 120) (pc := 1) hx hb dX4_change_1 (by rw [c14]; decide) (by rw [c14]; decide) (by rw [c14]; rfl) (by decide) ?_
    have hf := hf.1 c14
    refine lv_aload_n (pc := 120) hx hb dX4_change_120 rfl (lv_at hl 0 rfl) ?_
    refine g4_8 (pc := 121) E hI ho lkX4_39 dX4_change_121 ?_
    refine lv_iload_n (pc := 124) hx hb dX4_change_124 rfl (lv_at hl 2 rfl) ?_
    refine lv_iload_n (pc := 125) hx hb dX4_change_125 rfl (lv_at hl 3 rfl) ?_
    have g15 := hf.1
    have hf := hf.2
    refine s4_8 (pc := 126) E hI ho g15 dX4_change_126 (fun H locs σ16 eσ16 hI => ?_)
    have hf := hf σ16 eσ16
    refine lv_goto (tgt := 150) (pc := 127) hx hb dX4_change_127 (by decide) ?_
    exact rV (pc := 150) E hr hlk hI hf dX4_change_150
  have hf := hf.2
  by_cases c17 : p1 = 6
  · refine lv_tableIn (tgt := 130) (pc := 1) hx hb dX4_change_1 (by rw [c17]; decide) (by rw [c17]; decide) (by rw [c17]; rfl) (by decide) ?_
    have hf := hf.1 c17
    refine lv_aload_n (pc := 130) hx hb dX4_change_130 rfl (lv_at hl 0 rfl) ?_
    refine g4_9 (pc := 131) E hI ho lkX4_42 dX4_change_131 ?_
    refine lv_iload_n (pc := 134) hx hb dX4_change_134 rfl (lv_at hl 2 rfl) ?_
    refine lv_iload_n (pc := 135) hx hb dX4_change_135 rfl (lv_at hl 3 rfl) ?_
    have g18 := hf.1
    have hf := hf.2
    refine s4_9 (pc := 136) E hI ho g18 dX4_change_136 (fun H locs σ19 eσ19 hI => ?_)
    have hf := hf σ19 eσ19
    refine lv_goto (tgt := 150) (pc := 137) hx hb dX4_change_137 (by decide) ?_
    exact rV (pc := 150) E hr hlk hI hf dX4_change_150
  have hf := hf.2
  by_cases c20 : p1 = 7
  · refine lv_tableIn (tgt := 140) (pc := 1) hx hb dX4_change_1 (by rw [c20]; decide) (by rw [c20]; decide) (by rw [c20]; rfl) (by decide) ?_
    have hf := hf.1 c20
    refine lv_aload_n (pc := 140) hx hb dX4_change_140 rfl (lv_at hl 0 rfl) ?_
    refine g4_10 (pc := 141) E hI ho lkX4_45 dX4_change_141 ?_
    refine lv_iload_n (pc := 144) hx hb dX4_change_144 rfl (lv_at hl 2 rfl) ?_
    refine lv_iload_n (pc := 145) hx hb dX4_change_145 rfl (lv_at hl 3 rfl) ?_
    have g21 := hf.1
    have hf := hf.2
    refine s4_10 (pc := 146) E hI ho g21 dX4_change_146 (fun H locs σ22 eσ22 hI => ?_)
    have hf := hf σ22 eσ22
    refine lv_goto (tgt := 150) (pc := 147) hx hb dX4_change_147 (by decide) ?_
    exact rV (pc := 150) E hr hlk hI hf dX4_change_150
  have hf := hf.2
  have hf := hf c1 c3 c5 c8 c11 c14 c17 c20
  refine lv_tableOut (tgt := 150) (pc := 1) hx hb dX4_change_1 (by have := neI (k := 0) c1 rfl; have := neI (k := 1) c3 rfl; have := neI (k := 2) c5 rfl; have := neI (k := 3) c8 rfl; have := neI (k := 4) c11 rfl; have := neI (k := 5) c14 rfl; have := neI (k := 6) c17 rfl; have := neI (k := 7) c20 rfl; omega) (by decide) ?_
  exact rV (pc := 150) E hr hlk hI hf dX4_change_150
theorem tX4_change {l : Launch} {D : va_G} {z : Nat → Nat} {σ : St} {ad : Nat → Nat → Nat} {cy : Nat → ClassId} {Rr : va_W} {Q : St → Prop} {o : Nat} {p1 : Int32} {p2 : Int32} {p3 : Int32} (ho : kd o = 4) (hf : wX4_change o p1 p2 p3 σ Q) : CtV l yX4_change cX4_change 4 1 (D, tysC cy, SF z) (LC ad cy Rr) [.ref (ad o 99), .int p1, .int p2, .int p3] σ Q := mkV (by decide) (Nat.le_of_ble_eq_true rfl) (fun p e s m below meth c A E hr hlk hI ls hl => bX4_change E hr hlk ho hf hI hl)

def wX4_wantOf (o : Nat) (p1 : Int32) (σ : St) (Q : Int32 → St → Prop) : Prop := wX4_colourOf o (lsh 1 p1) σ (fun r2 σ1 => Q r2 σ1)
set_option maxRecDepth 100000 in
set_option maxHeartbeats 4000000 in
theorem bX4_wantOf {p : Program} {l : Launch} {e : Env} {s : State} {m : MethodId} {args : Array Value} {below : List Frame} {meth : Method} {c : Code} {H : Heap} {locs : List Loc} {ls : Array Slot} {D : va_G} {z : Nat → Nat} {A : Nat → Prop} {σ : St} {ad : Nat → Nat → Nat} {cy : Nat → ClassId} {Rr : va_W} {Q : Int32 → St → Prop} {o : Nat} {p1 : Int32} (E : CallFix p m c cX4_wantOf 2 s args TB RX4) (hr : meth.sig.returnType = some .int) (hlk : meth.locks = false) (ho : kd o = 4) (hf : wX4_wantOf o p1 σ Q) (hI : In (D, tysC cy, SF z) (LC ad cy Rr σ) A s H locs) (hl : lv_has ls 2 [(0, .ref (ad o 99)), (1, .int p1)]) : W p l e (rmD 1) s m args below meth c H locs 0 0 (PI below args s (D, tysC cy, SF z) A (LC ad cy Rr) Q) (F0 m 0 ls []) := by
  have hx := E.1
  have hb := E.2.1
  unfold wX4_wantOf at hf
  refine lv_aload_n (pc := 0) hx hb dX4_wantOf_0 rfl (lv_at hl 0 rfl) ?_
  refine lv_lconst (v := 1) (pc := 1) hx hb dX4_wantOf_1 rfl ?_
  refine lv_iload_n (pc := 2) hx hb dX4_wantOf_2 rfl (lv_at hl 1 rfl) ?_
  refine lv_lshl (v := (lsh 1 p1)) (pc := 3) hx hb dX4_wantOf_3 rfl ?_
  refine callVI (G := (D, tysC cy, SF z)) (L := LC ad cy Rr) (pc := 4) (As := [.long (lsh 1 p1)]) (rest := []) stabSF E cs0 hl hI (tX4_colourOf ho hf) mwX4_62 (fitD (by decide)) (at4 ho) rfl rfl rfl rfl (Nat.le_of_ble_eq_true rfl) dX4_wantOf_4 (fun r2 σ1 H locs hf hI => ?_)
  exact rI (pc := 7) E hr hlk hI hf dX4_wantOf_7
theorem tX4_wantOf {l : Launch} {D : va_G} {z : Nat → Nat} {σ : St} {ad : Nat → Nat → Nat} {cy : Nat → ClassId} {Rr : va_W} {Q : Int32 → St → Prop} {o : Nat} {p1 : Int32} (ho : kd o = 4) (hf : wX4_wantOf o p1 σ Q) : CtI l yX4_wantOf cX4_wantOf 2 .int 1 (D, tysC cy, SF z) (LC ad cy Rr) [.ref (ad o 99), .int p1] σ Q := mkI (by decide) (Nat.le_of_ble_eq_true rfl) (fun p e s m below meth c A E hr hlk hI ls hl => bX4_wantOf E hr hlk ho hf hI hl)

def wX4_filledCells (o : Nat) (σ : St) (Q : Int32 → St → Prop) : Prop := wJ13_bitCount_95d88 (gJ σ o 1) σ (fun r2 σ1 => Q r2 σ1)
set_option maxRecDepth 100000 in
set_option maxHeartbeats 4000000 in
theorem bX4_filledCells {p : Program} {l : Launch} {e : Env} {s : State} {m : MethodId} {args : Array Value} {below : List Frame} {meth : Method} {c : Code} {H : Heap} {locs : List Loc} {ls : Array Slot} {D : va_G} {z : Nat → Nat} {A : Nat → Prop} {σ : St} {ad : Nat → Nat → Nat} {cy : Nat → ClassId} {Rr : va_W} {Q : Int32 → St → Prop} {o : Nat} (E : CallFix p m c cX4_filledCells 1 s args TB RX4) (hr : meth.sig.returnType = some .int) (hlk : meth.locks = false) (ho : kd o = 4) (hf : wX4_filledCells o σ Q) (hI : In (D, tysC cy, SF z) (LC ad cy Rr σ) A s H locs) (hl : lv_has ls 1 [(0, .ref (ad o 99))]) : W p l e (rmD 1) s m args below meth c H locs 0 0 (PI below args s (D, tysC cy, SF z) A (LC ad cy Rr) Q) (F0 m 0 ls []) := by
  have hx := E.1
  have hb := E.2.1
  unfold wX4_filledCells at hf
  refine lv_aload_n (pc := 0) hx hb dX4_filledCells_0 rfl (lv_at hl 0 rfl) ?_
  refine g4_1 (pc := 1) E hI ho lkX4_15 dX4_filledCells_1 ?_
  refine callSI (G := (D, tysC cy, SF z)) (L := LC ad cy Rr) (pc := 4) (As := [.long (gJ σ o 1)]) (rest := []) stabSF E cs0 hl hI (tJ13_bitCount_95d88 hf) mwX4_66 (fitD (by decide)) rfl rfl (Nat.le_of_ble_eq_true rfl) dX4_filledCells_4 (fun r2 σ1 H locs hf hI => ?_)
  exact rI (pc := 7) E hr hlk hI hf dX4_filledCells_7
theorem tX4_filledCells {l : Launch} {D : va_G} {z : Nat → Nat} {σ : St} {ad : Nat → Nat → Nat} {cy : Nat → ClassId} {Rr : va_W} {Q : Int32 → St → Prop} {o : Nat} (ho : kd o = 4) (hf : wX4_filledCells o σ Q) : CtI l yX4_filledCells cX4_filledCells 1 .int 1 (D, tysC cy, SF z) (LC ad cy Rr) [.ref (ad o 99)] σ Q := mkI (by decide) (Nat.le_of_ble_eq_true rfl) (fun p e s m below meth c A E hr hlk hI ls hl => bX4_filledCells E hr hlk ho hf hI hl)

def wX4_colourOfFirstEmpty (o : Nat) (σ : St) (Q : Int32 → St → Prop) : Prop := ∀ x1 : Int64, x1 = ((gJ σ o 1) ^^^ (-1)) → wX4_colourOf o (x1 &&& (-x1)) σ (fun r3 σ2 => Q r3 σ2)
set_option maxRecDepth 100000 in
set_option maxHeartbeats 4000000 in
theorem bX4_colourOfFirstEmpty {p : Program} {l : Launch} {e : Env} {s : State} {m : MethodId} {args : Array Value} {below : List Frame} {meth : Method} {c : Code} {H : Heap} {locs : List Loc} {ls : Array Slot} {D : va_G} {z : Nat → Nat} {A : Nat → Prop} {σ : St} {ad : Nat → Nat → Nat} {cy : Nat → ClassId} {Rr : va_W} {Q : Int32 → St → Prop} {o : Nat} (E : CallFix p m c cX4_colourOfFirstEmpty 3 s args TB RX4) (hr : meth.sig.returnType = some .int) (hlk : meth.locks = false) (ho : kd o = 4) (hf : wX4_colourOfFirstEmpty o σ Q) (hI : In (D, tysC cy, SF z) (LC ad cy Rr σ) A s H locs) (hl : lv_has ls 3 [(0, .ref (ad o 99))]) : W p l e (rmD 1) s m args below meth c H locs 0 0 (PI below args s (D, tysC cy, SF z) A (LC ad cy Rr) Q) (F0 m 0 ls []) := by
  have hx := E.1
  have hb := E.2.1
  unfold wX4_colourOfFirstEmpty at hf
  refine lv_aload_n (pc := 0) hx hb dX4_colourOfFirstEmpty_0 rfl (lv_at hl 0 rfl) ?_
  refine g4_1 (pc := 1) E hI ho lkX4_15 dX4_colourOfFirstEmpty_1 ?_
  refine lv_ldc2 (pc := 4) E.1 E.2.1 E.2.2.2.1 (E.2.2.2.2 _ kcX4_60) dX4_colourOfFirstEmpty_4 ?_
  refine lv_lxor (pc := 7) hx hb dX4_colourOfFirstEmpty_7 ?_
  refine lv_topl (fun x1 ex1 => ?_)
  have hf := hf x1 ex1
  refine lv_lstore_n (lv' := [(1, .long x1), (0, .ref (ad o 99))]) (pc := 8) hx hb dX4_colourOfFirstEmpty_8 rfl hl (by decide) rfl (fun ls hl => ?_)
  refine lv_aload_n (pc := 9) hx hb dX4_colourOfFirstEmpty_9 rfl (lv_at hl 1 rfl) ?_
  refine lv_lload_n (pc := 10) hx hb dX4_colourOfFirstEmpty_10 rfl (lv_at hl 0 rfl) ?_
  refine lv_lload_n (pc := 11) hx hb dX4_colourOfFirstEmpty_11 rfl (lv_at hl 0 rfl) ?_
  refine lv_lneg (pc := 12) hx hb dX4_colourOfFirstEmpty_12 ?_
  refine lv_land (pc := 13) hx hb dX4_colourOfFirstEmpty_13 ?_
  refine callVI (G := (D, tysC cy, SF z)) (L := LC ad cy Rr) (pc := 14) (As := [.long (x1 &&& (-x1))]) (rest := []) stabSF E cs0 hl hI (tX4_colourOf ho hf) mwX4_62 (fitD (by decide)) (at4 ho) rfl rfl rfl rfl (Nat.le_of_ble_eq_true rfl) dX4_colourOfFirstEmpty_14 (fun r3 σ2 H locs hf hI => ?_)
  exact rI (pc := 17) E hr hlk hI hf dX4_colourOfFirstEmpty_17
theorem tX4_colourOfFirstEmpty {l : Launch} {D : va_G} {z : Nat → Nat} {σ : St} {ad : Nat → Nat → Nat} {cy : Nat → ClassId} {Rr : va_W} {Q : Int32 → St → Prop} {o : Nat} (ho : kd o = 4) (hf : wX4_colourOfFirstEmpty o σ Q) : CtI l yX4_colourOfFirstEmpty cX4_colourOfFirstEmpty 3 .int 1 (D, tysC cy, SF z) (LC ad cy Rr) [.ref (ad o 99)] σ Q := mkI (by decide) (Nat.le_of_ble_eq_true rfl) (fun p e s m below meth c A E hr hlk hI ls hl => bX4_colourOfFirstEmpty E hr hlk ho hf hI hl)

def wX4_longestGap_j53 (q0 : Nat) (a1 : Int32) (a2 : Int32) (a3 : Int32) (a4 : Int32) (a5 : Int32) (σ : St) (K : Nat → Int32 → Int32 → Int32 → Int32 → Int32 → St → Prop) (Q : Int32 → St → Prop) : Prop := ∀ x7 : Int32, x7 = a5 + 1 → (K q0 a1 a2 a3 a4 x7 σ)
set_option maxRecDepth 100000 in
set_option maxHeartbeats 4000000 in
theorem bX4_longestGap_53 {p : Program} {l : Launch} {e : Env} {s : State} {m : MethodId} {args : Array Value} {below : List Frame} {meth : Method} {c : Code} {H : Heap} {locs : List Loc} {ls : Array Slot} {D : va_G} {z : Nat → Nat} {A : Nat → Prop} {σ : St} {ad : Nat → Nat → Nat} {cy : Nat → ClassId} {Rr : va_W} {Q : Int32 → St → Prop} {q0 : Nat} {a1 : Int32} {a2 : Int32} {a3 : Int32} {a4 : Int32} {a5 : Int32} {K : Nat → Int32 → Int32 → Int32 → Int32 → Int32 → St → Prop} (E : CallFix p m c cX4_longestGap 6 s args TB RX4) (hr : meth.sig.returnType = some .int) (hlk : meth.locks = false) (hq0 : kd q0 = 4) (hK : ∀ (q0 : Nat) (a1 : Int32) (a2 : Int32) (a3 : Int32) (a4 : Int32) (a5 : Int32) (_ : kd q0 = 4) (σ : St) (H : Heap) (locs : List Loc) (ls : Array Slot), K q0 a1 a2 a3 a4 a5 σ → In (D, tysC cy, SF z) (LC ad cy Rr σ) A s H locs → lv_has ls 6 [(0, .ref (ad q0 99)), (1, .int a1), (2, .int a2), (3, .int a3), (4, .int a4), (5, .int a5)] → W p l e (rmD 1) s m args below meth c H locs 0 0 (PI below args s (D, tysC cy, SF z) A (LC ad cy Rr) Q) (F0 m 10 ls [])) (hf : wX4_longestGap_j53 q0 a1 a2 a3 a4 a5 σ K Q) (hI : In (D, tysC cy, SF z) (LC ad cy Rr σ) A s H locs) (hl : lv_has ls 6 [(0, .ref (ad q0 99)), (1, .int a1), (2, .int a2), (3, .int a3), (4, .int a4), (5, .int a5)]) : W p l e (rmD 1) s m args below meth c H locs 0 0 (PI below args s (D, tysC cy, SF z) A (LC ad cy Rr) Q) (F0 m 53 ls []) := by
  have hx := E.1
  have hb := E.2.1
  unfold wX4_longestGap_j53 at hf
  obtain ⟨x7, ex7⟩ : ∃ y : Int32, y = a5 + 1 := ⟨_, rfl⟩
  have hf := hf x7 ex7
  refine lv_iinc (v := x7) (lv' := [(5, .int x7), (0, .ref (ad q0 99)), (1, .int a1), (2, .int a2), (3, .int a3), (4, .int a4)]) (pc := 53) hx hb dX4_longestGap_53 hl (k := 5) rfl (by rw [ex7]; rfl) (by decide) rfl (fun ls hl => ?_)
  refine lv_goto (tgt := 10) (pc := 56) hx hb dX4_longestGap_56 (by decide) ?_
  exact hK _ _ _ _ _ _ hq0 _ _ _ _ hf hI (lv_sub hl [1, 2, 3, 4, 5, 0] rfl)
def wX4_longestGap_j34 (q0 : Nat) (a1 : Int32) (a2 : Int32) (a3 : Int32) (a5 : Int32) (s0 : Int32) (σ : St) (K : Nat → Int32 → Int32 → Int32 → Int32 → Int32 → St → Prop) (Q : Int32 → St → Prop) : Prop := ((s0 ≤ a3 → (wX4_longestGap_j53 q0 a1 a2 a3 s0 a5 σ K Q)) ∧ (¬ s0 ≤ a3 → ∀ x8 : Int32, x8 = ((a5 - s0) + 1) → (wX4_longestGap_j53 q0 a1 x8 s0 s0 a5 σ K Q)))
set_option maxRecDepth 100000 in
set_option maxHeartbeats 4000000 in
theorem bX4_longestGap_34 {p : Program} {l : Launch} {e : Env} {s : State} {m : MethodId} {args : Array Value} {below : List Frame} {meth : Method} {c : Code} {H : Heap} {locs : List Loc} {ls : Array Slot} {D : va_G} {z : Nat → Nat} {A : Nat → Prop} {σ : St} {ad : Nat → Nat → Nat} {cy : Nat → ClassId} {Rr : va_W} {Q : Int32 → St → Prop} {q0 : Nat} {a1 : Int32} {a2 : Int32} {a3 : Int32} {a5 : Int32} {s0 : Int32} {K : Nat → Int32 → Int32 → Int32 → Int32 → Int32 → St → Prop} (E : CallFix p m c cX4_longestGap 6 s args TB RX4) (hr : meth.sig.returnType = some .int) (hlk : meth.locks = false) (hq0 : kd q0 = 4) (hK : ∀ (q0 : Nat) (a1 : Int32) (a2 : Int32) (a3 : Int32) (a4 : Int32) (a5 : Int32) (_ : kd q0 = 4) (σ : St) (H : Heap) (locs : List Loc) (ls : Array Slot), K q0 a1 a2 a3 a4 a5 σ → In (D, tysC cy, SF z) (LC ad cy Rr σ) A s H locs → lv_has ls 6 [(0, .ref (ad q0 99)), (1, .int a1), (2, .int a2), (3, .int a3), (4, .int a4), (5, .int a5)] → W p l e (rmD 1) s m args below meth c H locs 0 0 (PI below args s (D, tysC cy, SF z) A (LC ad cy Rr) Q) (F0 m 10 ls [])) (hf : wX4_longestGap_j34 q0 a1 a2 a3 a5 s0 σ K Q) (hI : In (D, tysC cy, SF z) (LC ad cy Rr σ) A s H locs) (hl : lv_has ls 6 [(0, .ref (ad q0 99)), (1, .int a1), (2, .int a2), (3, .int a3), (5, .int a5)]) : W p l e (rmD 1) s m args below meth c H locs 0 0 (PI below args s (D, tysC cy, SF z) A (LC ad cy Rr) Q) (F0 m 34 ls [.int s0]) := by
  have hx := E.1
  have hb := E.2.1
  unfold wX4_longestGap_j34 at hf
  refine lv_istore (lv' := [(4, .int s0), (0, .ref (ad q0 99)), (1, .int a1), (2, .int a2), (3, .int a3), (5, .int a5)]) (pc := 34) hx hb dX4_longestGap_34 hl (by decide) rfl (fun ls hl => ?_)
  refine lv_iload (pc := 36) hx hb dX4_longestGap_36 (lv_at hl 0 rfl) ?_
  refine lv_iload_n (pc := 38) hx hb dX4_longestGap_38 rfl (lv_at hl 4 rfl) ?_
  refine lv_icmp_le (tgt := 53) (pc := 39) hx hb dX4_longestGap_39 (by decide) (fun c6 => ?_) (fun c6 => ?_)
  · have hf := hf.1 c6
    exact bX4_longestGap_53 E hr hlk hq0 hK hf hI (lv_sub hl [1, 2, 3, 4, 0, 5] rfl)
  · have hf := hf.2 c6
    refine lv_iload (pc := 42) hx hb dX4_longestGap_42 (lv_at hl 0 rfl) ?_
    refine lv_istore_n (lv' := [(3, .int s0), (4, .int s0), (0, .ref (ad q0 99)), (1, .int a1), (2, .int a2), (5, .int a5)]) (pc := 44) hx hb dX4_longestGap_44 rfl hl (by decide) rfl (fun ls hl => ?_)
    refine lv_iload (pc := 45) hx hb dX4_longestGap_45 (lv_at hl 5 rfl) ?_
    refine lv_iload (pc := 47) hx hb dX4_longestGap_47 (lv_at hl 1 rfl) ?_
    refine lv_isub (pc := 49) hx hb dX4_longestGap_49 ?_
    refine lv_iconst (v := 1) (pc := 50) hx hb dX4_longestGap_50 rfl ?_
    refine lv_iadd (pc := 51) hx hb dX4_longestGap_51 ?_
    refine lv_topi (fun x8 ex8 => ?_)
    have hf := hf x8 ex8
    refine lv_istore_n (lv' := [(2, .int x8), (3, .int s0), (4, .int s0), (0, .ref (ad q0 99)), (1, .int a1), (5, .int a5)]) (pc := 52) hx hb dX4_longestGap_52 rfl hl (by decide) rfl (fun ls hl => ?_)
    exact bX4_longestGap_53 E hr hlk hq0 hK hf hI (lv_sub hl [3, 4, 0, 1, 2, 5] rfl)
def wX4_longestGap_l10s (ih : Nat → Int32 → Int32 → Int32 → Int32 → Int32 → St → Prop) (q0 : Nat) (a1 : Int32) (a2 : Int32) (a3 : Int32) (a4 : Int32) (a5 : Int32) (σ : St) (Q : Int32 → St → Prop) : Prop := ((64 ≤ a5 → ((a1 = 0 → Q a3 σ) ∧ (¬ a1 = 0 → Q a2 σ))) ∧ (¬ 64 ≤ a5 → wX4_isFilled q0 a5 σ (fun r4 σ3 => ((r4 = 0 → (wX4_longestGap_j34 q0 a1 a2 a3 a5 (a4 + 1) σ3 ih Q)) ∧ (¬ r4 = 0 → (wX4_longestGap_j34 q0 a1 a2 a3 a5 0 σ3 ih Q))))))
def wX4_longestGap_l10 (n : Nat) : Nat → Int32 → Int32 → Int32 → Int32 → Int32 → St → (Int32 → St → Prop) → Prop := @Nat.rec (fun _ => Nat → Int32 → Int32 → Int32 → Int32 → Int32 → St → (Int32 → St → Prop) → Prop) (fun _ _ _ _ _ _ _ _ => False) (fun _ ih q0 a1 a2 a3 a4 a5 σ Q => wX4_longestGap_l10s (fun q0 a1 a2 a3 a4 a5 σ => ih q0 a1 a2 a3 a4 a5 σ Q) q0 a1 a2 a3 a4 a5 σ Q) n
set_option maxRecDepth 100000 in
set_option maxHeartbeats 4000000 in
theorem bX4_longestGap_10 {p : Program} {l : Launch} {e : Env} {s : State} {m : MethodId} {args : Array Value} {below : List Frame} {meth : Method} {c : Code} {D : va_G} {z : Nat → Nat} {A : Nat → Prop} {ad : Nat → Nat → Nat} {cy : Nat → ClassId} {Rr : va_W} {Q : Int32 → St → Prop} (E : CallFix p m c cX4_longestGap 6 s args TB RX4) (hr : meth.sig.returnType = some .int) (hlk : meth.locks = false) : ∀ (n : Nat) {q0 : Nat} {a1 : Int32} {a2 : Int32} {a3 : Int32} {a4 : Int32} {a5 : Int32} (hq0 : kd q0 = 4) {σ : St} {H : Heap} {locs : List Loc} {ls : Array Slot}, wX4_longestGap_l10 n q0 a1 a2 a3 a4 a5 σ Q → In (D, tysC cy, SF z) (LC ad cy Rr σ) A s H locs → lv_has ls 6 [(0, .ref (ad q0 99)), (1, .int a1), (2, .int a2), (3, .int a3), (4, .int a4), (5, .int a5)] → W p l e (rmD 1) s m args below meth c H locs 0 0 (PI below args s (D, tysC cy, SF z) A (LC ad cy Rr) Q) (F0 m 10 ls []) := by
  have hx := E.1
  have hb := E.2.1
  intro n
  induction n with
  | zero => intro q0 a1 a2 a3 a4 a5 hq0 σ H locs ls hf hI hl; exact False.elim hf
  | succ n ih =>
    intro q0 a1 a2 a3 a4 a5 hq0 σ H locs ls hf hI hl
    have hf : wX4_longestGap_l10s (fun q0 a1 a2 a3 a4 a5 σ => wX4_longestGap_l10 n q0 a1 a2 a3 a4 a5 σ Q) q0 a1 a2 a3 a4 a5 σ Q := hf
    unfold wX4_longestGap_l10s at hf
    refine lv_iload (pc := 10) hx hb dX4_longestGap_10 (lv_at hl 5 rfl) ?_
    refine lv_bipush (v := 64) (pc := 12) hx hb dX4_longestGap_12 rfl ?_
    refine lv_icmp_ge (tgt := 59) (pc := 14) hx hb dX4_longestGap_14 (by decide) (fun c1 => ?_) (fun c1 => ?_)
    · have hf := hf.1 c1
      refine lv_iload_n (pc := 59) hx hb dX4_longestGap_59 rfl (lv_at hl 1 rfl) ?_
      refine lv_if_eq (tgt := 67) (pc := 60) hx hb dX4_longestGap_60 (by decide) (fun c2 => ?_) (fun c2 => ?_)
      · have hf := hf.1 c2
        refine lv_iload_n (pc := 67) hx hb dX4_longestGap_67 rfl (lv_at hl 3 rfl) ?_
        exact rI (pc := 68) E hr hlk hI hf dX4_longestGap_68
      · have hf := hf.2 c2
        refine lv_iload_n (pc := 63) hx hb dX4_longestGap_63 rfl (lv_at hl 2 rfl) ?_
        refine lv_goto (tgt := 68) (pc := 64) hx hb dX4_longestGap_64 (by decide) ?_
        exact rI (pc := 68) E hr hlk hI hf dX4_longestGap_68
    · have hf := hf.2 c1
      refine lv_aload_n (pc := 17) hx hb dX4_longestGap_17 rfl (lv_at hl 0 rfl) ?_
      refine lv_iload (pc := 18) hx hb dX4_longestGap_18 (lv_at hl 5 rfl) ?_
      refine callVI (G := (D, tysC cy, SF z)) (L := LC ad cy Rr) (pc := 20) (As := [.int a5]) (rest := []) stabSF E cs0 hl hI (tX4_isFilled hq0 hf) mwX4_52 (fitD (by decide)) (at4 hq0) rfl rfl rfl rfl (Nat.le_of_ble_eq_true rfl) dX4_longestGap_20 (fun r4 σ3 H locs hf hI => ?_)
      refine lv_if_eq (tgt := 30) (pc := 23) hx hb dX4_longestGap_23 (by decide) (fun c5 => ?_) (fun c5 => ?_)
      · have hf := hf.1 c5
        refine lv_iload (pc := 30) hx hb dX4_longestGap_30 (lv_at hl 4 rfl) ?_
        refine lv_iconst (v := 1) (pc := 32) hx hb dX4_longestGap_32 rfl ?_
        refine lv_iadd (pc := 33) hx hb dX4_longestGap_33 ?_
        exact bX4_longestGap_34 E hr hlk hq0 (fun _ _ _ _ _ _ hq0 _ _ _ _ hf hI hl => ih hq0 hf hI hl) hf hI (lv_sub hl [0, 1, 2, 3, 5] rfl)
      · have hf := hf.2 c5
        refine lv_iconst (v := 0) (pc := 26) hx hb dX4_longestGap_26 rfl ?_
        refine lv_goto (tgt := 34) (pc := 27) hx hb dX4_longestGap_27 (by decide) ?_
        exact bX4_longestGap_34 E hr hlk hq0 (fun _ _ _ _ _ _ hq0 _ _ _ _ hf hI hl => ih hq0 hf hI hl) hf hI (lv_sub hl [0, 1, 2, 3, 5] rfl)
def wX4_longestGap (o : Nat) (p1 : Int32) (σ : St) (Q : Int32 → St → Prop) : Prop := ∃ n9 : Nat, wX4_longestGap_l10 n9 o p1 (-1) 0 0 0 σ Q
set_option maxRecDepth 100000 in
set_option maxHeartbeats 4000000 in
theorem bX4_longestGap {p : Program} {l : Launch} {e : Env} {s : State} {m : MethodId} {args : Array Value} {below : List Frame} {meth : Method} {c : Code} {H : Heap} {locs : List Loc} {ls : Array Slot} {D : va_G} {z : Nat → Nat} {A : Nat → Prop} {σ : St} {ad : Nat → Nat → Nat} {cy : Nat → ClassId} {Rr : va_W} {Q : Int32 → St → Prop} {o : Nat} {p1 : Int32} (E : CallFix p m c cX4_longestGap 6 s args TB RX4) (hr : meth.sig.returnType = some .int) (hlk : meth.locks = false) (ho : kd o = 4) (hf : wX4_longestGap o p1 σ Q) (hI : In (D, tysC cy, SF z) (LC ad cy Rr σ) A s H locs) (hl : lv_has ls 6 [(0, .ref (ad o 99)), (1, .int p1)]) : W p l e (rmD 1) s m args below meth c H locs 0 0 (PI below args s (D, tysC cy, SF z) A (LC ad cy Rr) Q) (F0 m 0 ls []) := by
  have hx := E.1
  have hb := E.2.1
  unfold wX4_longestGap at hf
  refine lv_iconst (v := (-1)) (pc := 0) hx hb dX4_longestGap_0 rfl ?_
  refine lv_istore_n (lv' := [(2, .int (-1)), (0, .ref (ad o 99)), (1, .int p1)]) (pc := 1) hx hb dX4_longestGap_1 rfl hl (by decide) rfl (fun ls hl => ?_)
  refine lv_iconst (v := 0) (pc := 2) hx hb dX4_longestGap_2 rfl ?_
  refine lv_istore_n (lv' := [(3, .int 0), (2, .int (-1)), (0, .ref (ad o 99)), (1, .int p1)]) (pc := 3) hx hb dX4_longestGap_3 rfl hl (by decide) rfl (fun ls hl => ?_)
  refine lv_iconst (v := 0) (pc := 4) hx hb dX4_longestGap_4 rfl ?_
  refine lv_istore (lv' := [(4, .int 0), (3, .int 0), (2, .int (-1)), (0, .ref (ad o 99)), (1, .int p1)]) (pc := 5) hx hb dX4_longestGap_5 hl (by decide) rfl (fun ls hl => ?_)
  refine lv_iconst (v := 0) (pc := 7) hx hb dX4_longestGap_7 rfl ?_
  refine lv_istore (lv' := [(5, .int 0), (4, .int 0), (3, .int 0), (2, .int (-1)), (0, .ref (ad o 99)), (1, .int p1)]) (pc := 8) hx hb dX4_longestGap_8 hl (by decide) rfl (fun ls hl => ?_)
  obtain ⟨n9, hf⟩ := hf
  exact bX4_longestGap_10 E hr hlk n9 ho hf hI (lv_sub hl [4, 5, 3, 2, 1, 0] rfl)
theorem tX4_longestGap {l : Launch} {D : va_G} {z : Nat → Nat} {σ : St} {ad : Nat → Nat → Nat} {cy : Nat → ClassId} {Rr : va_W} {Q : Int32 → St → Prop} {o : Nat} {p1 : Int32} (ho : kd o = 4) (hf : wX4_longestGap o p1 σ Q) : CtI l yX4_longestGap cX4_longestGap 6 .int 1 (D, tysC cy, SF z) (LC ad cy Rr) [.ref (ad o 99), .int p1] σ Q := mkI (by decide) (Nat.le_of_ble_eq_true rfl) (fun p e s m below meth c A E hr hlk hI ls hl => bX4_longestGap E hr hlk ho hf hI hl)

def wX4_fillableFromBox_l4s (ih : Nat → Int32 → Int32 → St → Prop) (q0 : Nat) (a1 : Int32) (a2 : Int32) (σ : St) (Q : Int32 → St → Prop) : Prop := ((4 ≤ a2 → Q a1 σ) ∧ (¬ 4 ≤ a2 → vp_in a2 4 ∧ vp_in a2 4 ∧ wJ13_bitCount_95d88 ((gB σ q0 0 a2.toNatClampNeg) &&& ((gJ σ q0 1) ^^^ (-1))) σ (fun r5 σ4 => ∀ x6 : Int32, x6 = (a1 + (if r5 < (gA σ q0 4 a2.toNatClampNeg) then r5 else (gA σ q0 4 a2.toNatClampNeg))) → ∀ x7 : Int32, x7 = a2 + 1 → (ih q0 x6 x7 σ4))))
def wX4_fillableFromBox_l4 (n : Nat) : Nat → Int32 → Int32 → St → (Int32 → St → Prop) → Prop := @Nat.rec (fun _ => Nat → Int32 → Int32 → St → (Int32 → St → Prop) → Prop) (fun _ _ _ _ _ => False) (fun _ ih q0 a1 a2 σ Q => wX4_fillableFromBox_l4s (fun q0 a1 a2 σ => ih q0 a1 a2 σ Q) q0 a1 a2 σ Q) n
set_option maxRecDepth 100000 in
set_option maxHeartbeats 4000000 in
theorem bX4_fillableFromBox_4 {p : Program} {l : Launch} {e : Env} {s : State} {m : MethodId} {args : Array Value} {below : List Frame} {meth : Method} {c : Code} {D : va_G} {z : Nat → Nat} {A : Nat → Prop} {ad : Nat → Nat → Nat} {cy : Nat → ClassId} {Rr : va_W} {Q : Int32 → St → Prop} (E : CallFix p m c cX4_fillableFromBox 3 s args TB RX4) (hr : meth.sig.returnType = some .int) (hlk : meth.locks = false) : ∀ (n : Nat) {q0 : Nat} {a1 : Int32} {a2 : Int32} (hq0 : kd q0 = 4) {σ : St} {H : Heap} {locs : List Loc} {ls : Array Slot}, wX4_fillableFromBox_l4 n q0 a1 a2 σ Q → In (D, tysC cy, SF z) (LC ad cy Rr σ) A s H locs → lv_has ls 3 [(0, .ref (ad q0 99)), (1, .int a1), (2, .int a2)] → W p l e (rmD 1) s m args below meth c H locs 0 0 (PI below args s (D, tysC cy, SF z) A (LC ad cy Rr) Q) (F0 m 4 ls []) := by
  have hx := E.1
  have hb := E.2.1
  intro n
  induction n with
  | zero => intro q0 a1 a2 hq0 σ H locs ls hf hI hl; exact False.elim hf
  | succ n ih =>
    intro q0 a1 a2 hq0 σ H locs ls hf hI hl
    have hf : wX4_fillableFromBox_l4s (fun q0 a1 a2 σ => wX4_fillableFromBox_l4 n q0 a1 a2 σ Q) q0 a1 a2 σ Q := hf
    unfold wX4_fillableFromBox_l4s at hf
    refine lv_iload_n (pc := 4) hx hb dX4_fillableFromBox_4 rfl (lv_at hl 2 rfl) ?_
    refine lv_iconst (v := 4) (pc := 5) hx hb dX4_fillableFromBox_5 rfl ?_
    refine lv_icmp_ge (tgt := 45) (pc := 6) hx hb dX4_fillableFromBox_6 (by decide) (fun c1 => ?_) (fun c1 => ?_)
    · have hf := hf.1 c1
      refine lv_iload_n (pc := 45) hx hb dX4_fillableFromBox_45 rfl (lv_at hl 1 rfl) ?_
      exact rI (pc := 46) E hr hlk hI hf dX4_fillableFromBox_46
    · have hf := hf.2 c1
      refine lv_iload_n (pc := 9) hx hb dX4_fillableFromBox_9 rfl (lv_at hl 1 rfl) ?_
      refine lv_aload_n (pc := 10) hx hb dX4_fillableFromBox_10 rfl (lv_at hl 0 rfl) ?_
      refine g4_4 (pc := 11) E hI hq0 lkX4_26 dX4_fillableFromBox_11 ?_
      refine lv_iload_n (pc := 14) hx hb dX4_fillableFromBox_14 rfl (lv_at hl 2 rfl) ?_
      have g2 := hf.1
      have hf := hf.2
      refine a4_4 (pc := 15) E hI hq0 g2 dX4_fillableFromBox_15 ?_
      refine lv_aload_n (pc := 16) hx hb dX4_fillableFromBox_16 rfl (lv_at hl 0 rfl) ?_
      refine g4_0 (pc := 17) E hI hq0 lkX4_9 dX4_fillableFromBox_17 ?_
      refine lv_iload_n (pc := 20) hx hb dX4_fillableFromBox_20 rfl (lv_at hl 2 rfl) ?_
      have g3 := hf.1
      have hf := hf.2
      refine a4_0 (pc := 21) E hI hq0 g3 dX4_fillableFromBox_21 ?_
      refine lv_aload_n (pc := 22) hx hb dX4_fillableFromBox_22 rfl (lv_at hl 0 rfl) ?_
      refine g4_1 (pc := 23) E hI hq0 lkX4_15 dX4_fillableFromBox_23 ?_
      refine lv_ldc2 (pc := 26) E.1 E.2.1 E.2.2.2.1 (E.2.2.2.2 _ kcX4_60) dX4_fillableFromBox_26 ?_
      refine lv_lxor (pc := 29) hx hb dX4_fillableFromBox_29 ?_
      refine lv_land (pc := 30) hx hb dX4_fillableFromBox_30 ?_
      refine callSI (G := (D, tysC cy, SF z)) (L := LC ad cy Rr) (pc := 31) (As := [.long ((gB σ q0 0 a2.toNatClampNeg) &&& ((gJ σ q0 1) ^^^ (-1)))]) (rest := [.int (gA σ q0 4 a2.toNatClampNeg), .int a1]) stabSF E cs0 hl hI (tJ13_bitCount_95d88 hf) mwX4_66 (fitD (by decide)) rfl rfl (Nat.le_of_ble_eq_true rfl) dX4_fillableFromBox_31 (fun r5 σ4 H locs hf hI => ?_)
      refine rMin (pc := 34) E cs0 hl mwX4_71 (fitD (by decide)) (Nat.le_of_ble_eq_true rfl) dX4_fillableFromBox_34 ?_
      refine lv_iadd (pc := 37) hx hb dX4_fillableFromBox_37 ?_
      refine lv_topi (fun x6 ex6 => ?_)
      have hf := hf x6 ex6
      refine lv_istore_n (lv' := [(1, .int x6), (0, .ref (ad q0 99)), (2, .int a2)]) (pc := 38) hx hb dX4_fillableFromBox_38 rfl hl (by decide) rfl (fun ls hl => ?_)
      obtain ⟨x7, ex7⟩ : ∃ y : Int32, y = a2 + 1 := ⟨_, rfl⟩
      have hf := hf x7 ex7
      refine lv_iinc (v := x7) (lv' := [(2, .int x7), (1, .int x6), (0, .ref (ad q0 99))]) (pc := 39) hx hb dX4_fillableFromBox_39 hl (k := 2) rfl (by rw [ex7]; rfl) (by decide) rfl (fun ls hl => ?_)
      refine lv_goto (tgt := 4) (pc := 42) hx hb dX4_fillableFromBox_42 (by decide) ?_
      exact ih hq0 hf hI (lv_sub hl [2, 1, 0] rfl)
def wX4_fillableFromBox (o : Nat) (σ : St) (Q : Int32 → St → Prop) : Prop := ∃ n8 : Nat, wX4_fillableFromBox_l4 n8 o 0 0 σ Q
set_option maxRecDepth 100000 in
set_option maxHeartbeats 4000000 in
theorem bX4_fillableFromBox {p : Program} {l : Launch} {e : Env} {s : State} {m : MethodId} {args : Array Value} {below : List Frame} {meth : Method} {c : Code} {H : Heap} {locs : List Loc} {ls : Array Slot} {D : va_G} {z : Nat → Nat} {A : Nat → Prop} {σ : St} {ad : Nat → Nat → Nat} {cy : Nat → ClassId} {Rr : va_W} {Q : Int32 → St → Prop} {o : Nat} (E : CallFix p m c cX4_fillableFromBox 3 s args TB RX4) (hr : meth.sig.returnType = some .int) (hlk : meth.locks = false) (ho : kd o = 4) (hf : wX4_fillableFromBox o σ Q) (hI : In (D, tysC cy, SF z) (LC ad cy Rr σ) A s H locs) (hl : lv_has ls 3 [(0, .ref (ad o 99))]) : W p l e (rmD 1) s m args below meth c H locs 0 0 (PI below args s (D, tysC cy, SF z) A (LC ad cy Rr) Q) (F0 m 0 ls []) := by
  have hx := E.1
  have hb := E.2.1
  unfold wX4_fillableFromBox at hf
  refine lv_iconst (v := 0) (pc := 0) hx hb dX4_fillableFromBox_0 rfl ?_
  refine lv_istore_n (lv' := [(1, .int 0), (0, .ref (ad o 99))]) (pc := 1) hx hb dX4_fillableFromBox_1 rfl hl (by decide) rfl (fun ls hl => ?_)
  refine lv_iconst (v := 0) (pc := 2) hx hb dX4_fillableFromBox_2 rfl ?_
  refine lv_istore_n (lv' := [(2, .int 0), (1, .int 0), (0, .ref (ad o 99))]) (pc := 3) hx hb dX4_fillableFromBox_3 rfl hl (by decide) rfl (fun ls hl => ?_)
  obtain ⟨n8, hf⟩ := hf
  exact bX4_fillableFromBox_4 E hr hlk n8 ho hf hI (lv_sub hl [2, 1, 0] rfl)
theorem tX4_fillableFromBox {l : Launch} {D : va_G} {z : Nat → Nat} {σ : St} {ad : Nat → Nat → Nat} {cy : Nat → ClassId} {Rr : va_W} {Q : Int32 → St → Prop} {o : Nat} (ho : kd o = 4) (hf : wX4_fillableFromBox o σ Q) : CtI l yX4_fillableFromBox cX4_fillableFromBox 3 .int 1 (D, tysC cy, SF z) (LC ad cy Rr) [.ref (ad o 99)] σ Q := mkI (by decide) (Nat.le_of_ble_eq_true rfl) (fun p e s m below meth c A E hr hlk hI ls hl => bX4_fillableFromBox E hr hlk ho hf hI hl)

def wX5_person (p1 : Int32) (p2 : Int32) (p3 : Int32) (σ : St) (Q : Int32 → St → Prop) : Prop := wX5_isIn p1 6 σ (fun r2 σ1 => ((r2 = 0 → Q (-2) σ1) ∧ (¬ r2 = 0 → wX5_isIn p2 10 σ1 (fun r5 σ4 => ((r5 = 0 → Q (-2) σ4) ∧ (¬ r5 = 0 → wX5_isIn p3 4 σ4 (fun r8 σ7 => ((¬ r8 = 0 → wX4_welcome 1 p1 p2 p3 σ7 (fun r11 σ10 => Q r11 σ10)) ∧ (r8 = 0 → Q (-2) σ7)))))))))
set_option maxRecDepth 100000 in
set_option maxHeartbeats 4000000 in
theorem bX5_person {p : Program} {l : Launch} {e : Env} {s : State} {m : MethodId} {args : Array Value} {below : List Frame} {meth : Method} {c : Code} {H : Heap} {locs : List Loc} {ls : Array Slot} {D : va_G} {z : Nat → Nat} {A : Nat → Prop} {σ : St} {ad : Nat → Nat → Nat} {cy : Nat → ClassId} {Rr : va_W} {Q : Int32 → St → Prop} {p1 : Int32} {p2 : Int32} {p3 : Int32} (E : CallFix p m c cX5_person 4 s args TB RX5) (hr : meth.sig.returnType = some .int) (hlk : meth.locks = false) (hf : wX5_person p1 p2 p3 σ Q) (hI : In (D, tysC cy, SF z) (LC ad cy Rr σ) A s H locs) (hl : lv_has ls 4 [(0, .ref (ad 0 99)), (1, .int p1), (2, .int p2), (3, .int p3)]) : W p l e (rmD 1) s m args below meth c H locs 0 0 (PI below args s (D, tysC cy, SF z) A (LC ad cy Rr) Q) (F0 m 0 ls []) := by
  have hx := E.1
  have hb := E.2.1
  unfold wX5_person at hf
  refine lv_iload_n (pc := 0) hx hb dX5_person_0 rfl (lv_at hl 1 rfl) ?_
  refine lv_bipush (v := 6) (pc := 1) hx hb dX5_person_1 rfl ?_
  refine callSI (G := (D, tysC cy, SF z)) (L := LC ad cy Rr) (pc := 3) (As := [.int p1, .int 6]) (rest := []) stabSF E cs0 hl hI (tX5_isIn hf) mwX5_94 (fitD (by decide)) rfl rfl (Nat.le_of_ble_eq_true rfl) dX5_person_3 (fun r2 σ1 H locs hf hI => ?_)
  refine lv_if_eq (tgt := 26) (pc := 6) hx hb dX5_person_6 (by decide) (fun c3 => ?_) (fun c3 => ?_)
  · have hf := hf.1 c3
    refine lv_bipush (v := (-2)) (pc := 26) hx hb dX5_person_26 rfl ?_
    exact rI (pc := 28) E hr hlk hI hf dX5_person_28
  · have hf := hf.2 c3
    refine lv_iload_n (pc := 9) hx hb dX5_person_9 rfl (lv_at hl 2 rfl) ?_
    refine lv_bipush (v := 10) (pc := 10) hx hb dX5_person_10 rfl ?_
    refine callSI (G := (D, tysC cy, SF z)) (L := LC ad cy Rr) (pc := 12) (As := [.int p2, .int 10]) (rest := []) stabSF E cs0 hl hI (tX5_isIn hf) mwX5_94 (fitD (by decide)) rfl rfl (Nat.le_of_ble_eq_true rfl) dX5_person_12 (fun r5 σ4 H locs hf hI => ?_)
    refine lv_if_eq (tgt := 26) (pc := 15) hx hb dX5_person_15 (by decide) (fun c6 => ?_) (fun c6 => ?_)
    · have hf := hf.1 c6
      refine lv_bipush (v := (-2)) (pc := 26) hx hb dX5_person_26 rfl ?_
      exact rI (pc := 28) E hr hlk hI hf dX5_person_28
    · have hf := hf.2 c6
      refine lv_iload_n (pc := 18) hx hb dX5_person_18 rfl (lv_at hl 3 rfl) ?_
      refine lv_iconst (v := 4) (pc := 19) hx hb dX5_person_19 rfl ?_
      refine callSI (G := (D, tysC cy, SF z)) (L := LC ad cy Rr) (pc := 20) (As := [.int p3, .int 4]) (rest := []) stabSF E cs0 hl hI (tX5_isIn hf) mwX5_94 (fitD (by decide)) rfl rfl (Nat.le_of_ble_eq_true rfl) dX5_person_20 (fun r8 σ7 H locs hf hI => ?_)
      refine lv_if_ne (tgt := 29) (pc := 23) hx hb dX5_person_23 (by decide) (fun c9 => ?_) (fun c9 => ?_)
      · have hf := hf.1 c9
        refine lv_aload_n (pc := 29) hx hb dX5_person_29 rfl (lv_at hl 0 rfl) ?_
        refine g5_0 (pc := 30) E hI rfl lkX5_10 dX5_person_30 ?_
        refine lv_iload_n (pc := 33) hx hb dX5_person_33 rfl (lv_at hl 1 rfl) ?_
        refine lv_iload_n (pc := 34) hx hb dX5_person_34 rfl (lv_at hl 2 rfl) ?_
        refine lv_iload_n (pc := 35) hx hb dX5_person_35 rfl (lv_at hl 3 rfl) ?_
        refine callVI (G := (D, tysC cy, SF z)) (L := LC ad cy Rr) (pc := 36) (As := [.int p1, .int p2, .int p3]) (rest := []) stabSF E cs0 hl hI (tX4_welcome rfl hf) mwX5_97 (fitD (by decide)) (at4 rfl) rfl rfl rfl rfl (Nat.le_of_ble_eq_true rfl) dX5_person_36 (fun r11 σ10 H locs hf hI => ?_)
        exact rI (pc := 39) E hr hlk hI hf dX5_person_39
      · have hf := hf.2 c9
        refine lv_bipush (v := (-2)) (pc := 26) hx hb dX5_person_26 rfl ?_
        exact rI (pc := 28) E hr hlk hI hf dX5_person_28
theorem tX5_person {l : Launch} {D : va_G} {z : Nat → Nat} {σ : St} {ad : Nat → Nat → Nat} {cy : Nat → ClassId} {Rr : va_W} {Q : Int32 → St → Prop} {p1 : Int32} {p2 : Int32} {p3 : Int32} (hf : wX5_person p1 p2 p3 σ Q) : CtI l yX5_person cX5_person 4 .int 1 (D, tysC cy, SF z) (LC ad cy Rr) [.ref (ad 0 99), .int p1, .int p2, .int p3] σ Q := mkI (by decide) (Nat.le_of_ble_eq_true rfl) (fun p e s m below meth c A E hr hlk hI ls hl => bX5_person E hr hlk hf hI hl)

def wX5_picture (p1 : Int32) (σ : St) (Q : Int64 → St → Prop) : Prop := wX5_isIn p1 4 σ (fun r2 σ1 => ((r2 = 0 → ((¬ p1 = 4 → Q (-4611686018427387904) σ1) ∧ (p1 = 4 → Q (gJ σ1 1 1) σ1))) ∧ (¬ r2 = 0 → vp_in p1 4 ∧ Q (gB σ1 1 0 p1.toNatClampNeg) σ1)))
set_option maxRecDepth 100000 in
set_option maxHeartbeats 4000000 in
theorem bX5_picture {p : Program} {l : Launch} {e : Env} {s : State} {m : MethodId} {args : Array Value} {below : List Frame} {meth : Method} {c : Code} {H : Heap} {locs : List Loc} {ls : Array Slot} {D : va_G} {z : Nat → Nat} {A : Nat → Prop} {σ : St} {ad : Nat → Nat → Nat} {cy : Nat → ClassId} {Rr : va_W} {Q : Int64 → St → Prop} {p1 : Int32} (E : CallFix p m c cX5_picture 2 s args TB RX5) (hr : meth.sig.returnType = some .long) (hlk : meth.locks = false) (hf : wX5_picture p1 σ Q) (hI : In (D, tysC cy, SF z) (LC ad cy Rr σ) A s H locs) (hl : lv_has ls 2 [(0, .ref (ad 0 99)), (1, .int p1)]) : W p l e (rmD 1) s m args below meth c H locs 0 0 (PJ below args s (D, tysC cy, SF z) A (LC ad cy Rr) Q) (F0 m 0 ls []) := by
  have hx := E.1
  have hb := E.2.1
  unfold wX5_picture at hf
  refine lv_iload_n (pc := 0) hx hb dX5_picture_0 rfl (lv_at hl 1 rfl) ?_
  refine lv_iconst (v := 4) (pc := 1) hx hb dX5_picture_1 rfl ?_
  refine callSI (G := (D, tysC cy, SF z)) (L := LC ad cy Rr) (pc := 2) (As := [.int p1, .int 4]) (rest := []) stabSF E cs0 hl hI (tX5_isIn hf) mwX5_94 (fitD (by decide)) rfl rfl (Nat.le_of_ble_eq_true rfl) dX5_picture_2 (fun r2 σ1 H locs hf hI => ?_)
  refine lv_if_eq (tgt := 18) (pc := 5) hx hb dX5_picture_5 (by decide) (fun c3 => ?_) (fun c3 => ?_)
  · have hf := hf.1 c3
    refine lv_iload_n (pc := 18) hx hb dX5_picture_18 rfl (lv_at hl 1 rfl) ?_
    refine lv_iconst (v := 4) (pc := 19) hx hb dX5_picture_19 rfl ?_
    refine lv_icmp_ne (tgt := 33) (pc := 20) hx hb dX5_picture_20 (by decide) (fun c4 => ?_) (fun c4 => ?_)
    · have hf := hf.1 c4
      refine lv_ldc2 (pc := 33) E.1 E.2.1 E.2.2.2.1 (E.2.2.2.2 _ kcX5_119) dX5_picture_33 ?_
      exact rJ (pc := 36) E hr hlk hI hf dX5_picture_36
    · have hf := hf.2 c4
      refine lv_aload_n (pc := 23) hx hb dX5_picture_23 rfl (lv_at hl 0 rfl) ?_
      refine g5_0 (pc := 24) E hI rfl lkX5_10 dX5_picture_24 ?_
      refine g4_1 (pc := 27) E hI rfl lkX5_115 dX5_picture_27 ?_
      refine lv_goto (tgt := 36) (pc := 30) hx hb dX5_picture_30 (by decide) ?_
      exact rJ (pc := 36) E hr hlk hI hf dX5_picture_36
  · have hf := hf.2 c3
    refine lv_aload_n (pc := 8) hx hb dX5_picture_8 rfl (lv_at hl 0 rfl) ?_
    refine g5_0 (pc := 9) E hI rfl lkX5_10 dX5_picture_9 ?_
    refine g4_0 (pc := 12) E hI rfl lkX5_111 dX5_picture_12 ?_
    refine lv_iload_n (pc := 15) hx hb dX5_picture_15 rfl (lv_at hl 1 rfl) ?_
    have g5 := hf.1
    have hf := hf.2
    refine a4_0 (pc := 16) E hI rfl g5 dX5_picture_16 ?_
    exact rJ (pc := 17) E hr hlk hI hf dX5_picture_17
theorem tX5_picture {l : Launch} {D : va_G} {z : Nat → Nat} {σ : St} {ad : Nat → Nat → Nat} {cy : Nat → ClassId} {Rr : va_W} {Q : Int64 → St → Prop} {p1 : Int32} (hf : wX5_picture p1 σ Q) : CtJ l yX5_picture cX5_picture 2 1 (D, tysC cy, SF z) (LC ad cy Rr) [.ref (ad 0 99), .int p1] σ Q := mkJ (by decide) (Nat.le_of_ble_eq_true rfl) (fun p e s m below meth c A E hr hlk hI ls hl => bX5_picture E hr hlk hf hI hl)

def wX5_feed (p1 : Int32) (σ : St) (Q : Int32 → St → Prop) : Prop := ((p1 < 0 → Q (-2) σ) ∧ (¬ p1 < 0 → ((p1 ≤ 255 → wX0_append p1 σ (fun r4 σ3 => Q r4 σ3)) ∧ (¬ p1 ≤ 255 → Q (-2) σ))))
set_option maxRecDepth 100000 in
set_option maxHeartbeats 4000000 in
theorem bX5_feed {p : Program} {l : Launch} {e : Env} {s : State} {m : MethodId} {args : Array Value} {below : List Frame} {meth : Method} {c : Code} {H : Heap} {locs : List Loc} {ls : Array Slot} {D : va_G} {z : Nat → Nat} {A : Nat → Prop} {σ : St} {ad : Nat → Nat → Nat} {cy : Nat → ClassId} {Rr : va_W} {Q : Int32 → St → Prop} {p1 : Int32} (E : CallFix p m c cX5_feed 2 s args TB RX5) (hr : meth.sig.returnType = some .int) (hlk : meth.locks = false) (hf : wX5_feed p1 σ Q) (hI : In (D, tysC cy, SF z) (LC ad cy Rr σ) A s H locs) (hl : lv_has ls 2 [(0, .ref (ad 0 99)), (1, .int p1)]) : W p l e (rmD 1) s m args below meth c H locs 0 0 (PI below args s (D, tysC cy, SF z) A (LC ad cy Rr) Q) (F0 m 0 ls []) := by
  have hx := E.1
  have hb := E.2.1
  unfold wX5_feed at hf
  refine lv_iload_n (pc := 0) hx hb dX5_feed_0 rfl (lv_at hl 1 rfl) ?_
  refine lv_if_lt (tgt := 11) (pc := 1) hx hb dX5_feed_1 (by decide) (fun c1 => ?_) (fun c1 => ?_)
  · have hf := hf.1 c1
    refine lv_bipush (v := (-2)) (pc := 11) hx hb dX5_feed_11 rfl ?_
    refine lv_goto (tgt := 24) (pc := 13) hx hb dX5_feed_13 (by decide) ?_
    exact rI (pc := 24) E hr hlk hI hf dX5_feed_24
  · have hf := hf.2 c1
    refine lv_iload_n (pc := 4) hx hb dX5_feed_4 rfl (lv_at hl 1 rfl) ?_
    refine lv_sipush (v := 255) (pc := 5) hx hb dX5_feed_5 rfl ?_
    refine lv_icmp_le (tgt := 16) (pc := 8) hx hb dX5_feed_8 (by decide) (fun c2 => ?_) (fun c2 => ?_)
    · have hf := hf.1 c2
      refine lv_aload_n (pc := 16) hx hb dX5_feed_16 rfl (lv_at hl 0 rfl) ?_
      refine g5_5 (pc := 17) E hI rfl lkX5_36 dX5_feed_17 ?_
      refine lv_iload_n (pc := 20) hx hb dX5_feed_20 rfl (lv_at hl 1 rfl) ?_
      refine callVI (G := (D, tysC cy, SF z)) (L := LC ad cy Rr) (pc := 21) (As := [.int p1]) (rest := []) stabSF E cs0 hl hI (tX0_append hf) mwX5_59 (fitD (by decide)) (at0 rfl) rfl rfl rfl rfl (Nat.le_of_ble_eq_true rfl) dX5_feed_21 (fun r4 σ3 H locs hf hI => ?_)
      exact rI (pc := 24) E hr hlk hI hf dX5_feed_24
    · have hf := hf.2 c2
      refine lv_bipush (v := (-2)) (pc := 11) hx hb dX5_feed_11 rfl ?_
      refine lv_goto (tgt := 24) (pc := 13) hx hb dX5_feed_13 (by decide) ?_
      exact rI (pc := 24) E hr hlk hI hf dX5_feed_24
theorem tX5_feed {l : Launch} {D : va_G} {z : Nat → Nat} {σ : St} {ad : Nat → Nat → Nat} {cy : Nat → ClassId} {Rr : va_W} {Q : Int32 → St → Prop} {p1 : Int32} (hf : wX5_feed p1 σ Q) : CtI l yX5_feed cX5_feed 2 .int 1 (D, tysC cy, SF z) (LC ad cy Rr) [.ref (ad 0 99), .int p1] σ Q := mkI (by decide) (Nat.le_of_ble_eq_true rfl) (fun p e s m below meth c A E hr hlk hI ls hl => bX5_feed E hr hlk hf hI hl)

def wX5_force (p1 : Int32) (σ : St) (Q : Int32 → St → Prop) : Prop := wX5_isIn p1 (gI σ 4 1) σ (fun r2 σ1 => ((¬ r2 = 0 → ∀ x4 : Int32, x4 = (gI σ1 1 3) → ∀ σ5 : St, σ5 = sI σ1 1 3 p1 → Q x4 σ5) ∧ (r2 = 0 → Q (-2) σ1)))
set_option maxRecDepth 100000 in
set_option maxHeartbeats 4000000 in
theorem bX5_force {p : Program} {l : Launch} {e : Env} {s : State} {m : MethodId} {args : Array Value} {below : List Frame} {meth : Method} {c : Code} {H : Heap} {locs : List Loc} {ls : Array Slot} {D : va_G} {z : Nat → Nat} {A : Nat → Prop} {σ : St} {ad : Nat → Nat → Nat} {cy : Nat → ClassId} {Rr : va_W} {Q : Int32 → St → Prop} {p1 : Int32} (E : CallFix p m c cX5_force 3 s args TB RX5) (hr : meth.sig.returnType = some .int) (hlk : meth.locks = false) (hf : wX5_force p1 σ Q) (hI : In (D, tysC cy, SF z) (LC ad cy Rr σ) A s H locs) (hl : lv_has ls 3 [(0, .ref (ad 0 99)), (1, .int p1)]) : W p l e (rmD 1) s m args below meth c H locs 0 0 (PI below args s (D, tysC cy, SF z) A (LC ad cy Rr) Q) (F0 m 0 ls []) := by
  have hx := E.1
  have hb := E.2.1
  unfold wX5_force at hf
  refine lv_iload_n (pc := 0) hx hb dX5_force_0 rfl (lv_at hl 1 rfl) ?_
  refine lv_aload_n (pc := 1) hx hb dX5_force_1 rfl (lv_at hl 0 rfl) ?_
  refine g5_4 (pc := 2) E hI rfl lkX5_29 dX5_force_2 ?_
  refine g1_1 (pc := 5) E hI rfl lkX5_74 dX5_force_5 ?_
  refine callSI (G := (D, tysC cy, SF z)) (L := LC ad cy Rr) (pc := 8) (As := [.int p1, .int (gI σ 4 1)]) (rest := []) stabSF E cs0 hl hI (tX5_isIn hf) mwX5_94 (fitD (by decide)) rfl rfl (Nat.le_of_ble_eq_true rfl) dX5_force_8 (fun r2 σ1 H locs hf hI => ?_)
  refine lv_if_ne (tgt := 17) (pc := 11) hx hb dX5_force_11 (by decide) (fun c3 => ?_) (fun c3 => ?_)
  · have hf := hf.1 c3
    refine lv_aload_n (pc := 17) hx hb dX5_force_17 rfl (lv_at hl 0 rfl) ?_
    refine g5_0 (pc := 18) E hI rfl lkX5_10 dX5_force_18 ?_
    refine g4_3 (pc := 21) E hI rfl lkX5_121 dX5_force_21 ?_
    refine lv_topi (fun x4 ex4 => ?_)
    have hf := hf x4 ex4
    refine lv_istore_n (lv' := [(2, .int x4), (0, .ref (ad 0 99)), (1, .int p1)]) (pc := 24) hx hb dX5_force_24 rfl hl (by decide) rfl (fun ls hl => ?_)
    refine lv_aload_n (pc := 25) hx hb dX5_force_25 rfl (lv_at hl 1 rfl) ?_
    refine g5_0 (pc := 26) E hI rfl lkX5_10 dX5_force_26 ?_
    refine lv_iload_n (pc := 29) hx hb dX5_force_29 rfl (lv_at hl 2 rfl) ?_
    refine p4_3 (pc := 30) E hI rfl lkX5_121 dX5_force_30 (fun H locs σ5 eσ5 hI => ?_)
    have hf := hf σ5 eσ5
    refine lv_iload_n (pc := 33) hx hb dX5_force_33 rfl (lv_at hl 0 rfl) ?_
    exact rI (pc := 34) E hr hlk hI hf dX5_force_34
  · have hf := hf.2 c3
    refine lv_bipush (v := (-2)) (pc := 14) hx hb dX5_force_14 rfl ?_
    exact rI (pc := 16) E hr hlk hI hf dX5_force_16
theorem tX5_force {l : Launch} {D : va_G} {z : Nat → Nat} {σ : St} {ad : Nat → Nat → Nat} {cy : Nat → ClassId} {Rr : va_W} {Q : Int32 → St → Prop} {p1 : Int32} (hf : wX5_force p1 σ Q) : CtI l yX5_force cX5_force 3 .int 1 (D, tysC cy, SF z) (LC ad cy Rr) [.ref (ad 0 99), .int p1] σ Q := mkI (by decide) (Nat.le_of_ble_eq_true rfl) (fun p e s m below meth c A E hr hlk hI ls hl => bX5_force E hr hlk hf hI hl)

def wX5_image (σ : St) (Q : Int32 → St → Prop) : Prop := wX4_become 3 1 σ (fun σ1 => ∀ σ2 : St, σ2 = sI σ1 0 3 1 → Q (gI σ2 1 5) σ2)
set_option maxRecDepth 100000 in
set_option maxHeartbeats 4000000 in
theorem bX5_image {p : Program} {l : Launch} {e : Env} {s : State} {m : MethodId} {args : Array Value} {below : List Frame} {meth : Method} {c : Code} {H : Heap} {locs : List Loc} {ls : Array Slot} {D : va_G} {z : Nat → Nat} {A : Nat → Prop} {σ : St} {ad : Nat → Nat → Nat} {cy : Nat → ClassId} {Rr : va_W} {Q : Int32 → St → Prop} (E : CallFix p m c cX5_image 1 s args TB RX5) (hr : meth.sig.returnType = some .int) (hlk : meth.locks = false) (hf : wX5_image σ Q) (hI : In (D, tysC cy, SF z) (LC ad cy Rr σ) A s H locs) (hl : lv_has ls 1 [(0, .ref (ad 0 99))]) : W p l e (rmD 1) s m args below meth c H locs 0 0 (PI below args s (D, tysC cy, SF z) A (LC ad cy Rr) Q) (F0 m 0 ls []) := by
  have hx := E.1
  have hb := E.2.1
  unfold wX5_image at hf
  refine lv_aload_n (pc := 0) hx hb dX5_image_0 rfl (lv_at hl 0 rfl) ?_
  refine g5_2 (pc := 1) E hI rfl lkX5_19 dX5_image_1 ?_
  refine lv_aload_n (pc := 4) hx hb dX5_image_4 rfl (lv_at hl 0 rfl) ?_
  refine g5_0 (pc := 5) E hI rfl lkX5_10 dX5_image_5 ?_
  refine callVV (G := (D, tysC cy, SF z)) (L := LC ad cy Rr) (pc := 8) (As := [.ref (ad 1 99)]) (rest := []) stabSF E cs0 hl hI (tX4_become rfl rfl hf) mwX5_220 (fitD (by decide)) (at4 rfl) rfl rfl rfl rfl (Nat.le_of_ble_eq_true rfl) dX5_image_8 (fun σ1 H locs hf hI => ?_)
  refine lv_aload_n (pc := 11) hx hb dX5_image_11 rfl (lv_at hl 0 rfl) ?_
  refine lv_iconst (v := 1) (pc := 12) hx hb dX5_image_12 rfl ?_
  refine p5_3 (pc := 13) E hI rfl lkX5_22 (Or.inr rfl) dX5_image_13 (fun H locs σ2 eσ2 hI => ?_)
  have hf := hf σ2 eσ2
  refine lv_aload_n (pc := 16) hx hb dX5_image_16 rfl (lv_at hl 0 rfl) ?_
  refine g5_0 (pc := 17) E hI rfl lkX5_10 dX5_image_17 ?_
  refine g4_5 (pc := 20) E hI rfl lkX5_134 dX5_image_20 ?_
  exact rI (pc := 23) E hr hlk hI hf dX5_image_23
theorem tX5_image {l : Launch} {D : va_G} {z : Nat → Nat} {σ : St} {ad : Nat → Nat → Nat} {cy : Nat → ClassId} {Rr : va_W} {Q : Int32 → St → Prop} (hf : wX5_image σ Q) : CtI l yX5_image cX5_image 1 .int 1 (D, tysC cy, SF z) (LC ad cy Rr) [.ref (ad 0 99)] σ Q := mkI (by decide) (Nat.le_of_ble_eq_true rfl) (fun p e s m below meth c A E hr hlk hI ls hl => bX5_image E hr hlk hf hI hl)

def wX5_back (σ : St) (Q : Int32 → St → Prop) : Prop := ((¬ (gI σ 0 3) = 0 → wX4_become 1 3 σ (fun σ2 => Q (gI σ2 1 5) σ2)) ∧ ((gI σ 0 3) = 0 → Q (-3) σ))
set_option maxRecDepth 100000 in
set_option maxHeartbeats 4000000 in
theorem bX5_back {p : Program} {l : Launch} {e : Env} {s : State} {m : MethodId} {args : Array Value} {below : List Frame} {meth : Method} {c : Code} {H : Heap} {locs : List Loc} {ls : Array Slot} {D : va_G} {z : Nat → Nat} {A : Nat → Prop} {σ : St} {ad : Nat → Nat → Nat} {cy : Nat → ClassId} {Rr : va_W} {Q : Int32 → St → Prop} (E : CallFix p m c cX5_back 1 s args TB RX5) (hr : meth.sig.returnType = some .int) (hlk : meth.locks = false) (hf : wX5_back σ Q) (hI : In (D, tysC cy, SF z) (LC ad cy Rr σ) A s H locs) (hl : lv_has ls 1 [(0, .ref (ad 0 99))]) : W p l e (rmD 1) s m args below meth c H locs 0 0 (PI below args s (D, tysC cy, SF z) A (LC ad cy Rr) Q) (F0 m 0 ls []) := by
  have hx := E.1
  have hb := E.2.1
  unfold wX5_back at hf
  refine lv_aload_n (pc := 0) hx hb dX5_back_0 rfl (lv_at hl 0 rfl) ?_
  refine g5_3 (pc := 1) E hI rfl lkX5_22 dX5_back_1 ?_
  refine lv_if_ne (tgt := 10) (pc := 4) hx hb dX5_back_4 (by decide) (fun c1 => ?_) (fun c1 => ?_)
  · have hf := hf.1 c1
    refine lv_aload_n (pc := 10) hx hb dX5_back_10 rfl (lv_at hl 0 rfl) ?_
    refine g5_0 (pc := 11) E hI rfl lkX5_10 dX5_back_11 ?_
    refine lv_aload_n (pc := 14) hx hb dX5_back_14 rfl (lv_at hl 0 rfl) ?_
    refine g5_2 (pc := 15) E hI rfl lkX5_19 dX5_back_15 ?_
    refine callVV (G := (D, tysC cy, SF z)) (L := LC ad cy Rr) (pc := 18) (As := [.ref (ad 3 99)]) (rest := []) stabSF E cs0 hl hI (tX4_become rfl rfl hf) mwX5_220 (fitD (by decide)) (at4 rfl) rfl rfl rfl rfl (Nat.le_of_ble_eq_true rfl) dX5_back_18 (fun σ2 H locs hf hI => ?_)
    refine lv_aload_n (pc := 21) hx hb dX5_back_21 rfl (lv_at hl 0 rfl) ?_
    refine g5_0 (pc := 22) E hI rfl lkX5_10 dX5_back_22 ?_
    refine g4_5 (pc := 25) E hI rfl lkX5_134 dX5_back_25 ?_
    exact rI (pc := 28) E hr hlk hI hf dX5_back_28
  · have hf := hf.2 c1
    refine lv_bipush (v := (-3)) (pc := 7) hx hb dX5_back_7 rfl ?_
    exact rI (pc := 9) E hr hlk hI hf dX5_back_9
theorem tX5_back {l : Launch} {D : va_G} {z : Nat → Nat} {σ : St} {ad : Nat → Nat → Nat} {cy : Nat → ClassId} {Rr : va_W} {Q : Int32 → St → Prop} (hf : wX5_back σ Q) : CtI l yX5_back cX5_back 1 .int 1 (D, tysC cy, SF z) (LC ad cy Rr) [.ref (ad 0 99)] σ Q := mkI (by decide) (Nat.le_of_ble_eq_true rfl) (fun p e s m below meth c A E hr hlk hI ls hl => bX5_back E hr hlk hf hI hl)

def wX5_sheet (p1 : Int32) (p2 : Int32) (p3 : Int32) (σ : St) (Q : Int32 → St → Prop) : Prop := wX5_isIn p1 4 σ (fun r2 σ1 => ((r2 = 0 → Q (-2) σ1) ∧ (¬ r2 = 0 → ((p2 < (-1) → Q (-2) σ1) ∧ (¬ p2 < (-1) → ((p2 < 3 → ((¬ p2 = (-1) → ((p3 ≤ 40 → ((0 ≤ p3 → vp_in p1 4 ∧ ∀ o10 : Nat, o10 = 12 + p1.toNatClampNeg → wX2_become o10 p2 p3 σ1 (fun σ11 => Q 1 σ11)) ∧ (¬ 0 ≤ p3 → Q (-14) σ1))) ∧ (¬ p3 ≤ 40 → Q (-2) σ1))) ∧ (p2 = (-1) → vp_in p1 4 ∧ ∀ o13 : Nat, o13 = 12 + p1.toNatClampNeg → wX2_become o13 (-1) 0 σ1 (fun σ14 => Q 1 σ14)))) ∧ (¬ p2 < 3 → Q (-2) σ1)))))))
set_option maxRecDepth 100000 in
set_option maxHeartbeats 4000000 in
theorem bX5_sheet {p : Program} {l : Launch} {e : Env} {s : State} {m : MethodId} {args : Array Value} {below : List Frame} {meth : Method} {c : Code} {H : Heap} {locs : List Loc} {ls : Array Slot} {D : va_G} {z : Nat → Nat} {A : Nat → Prop} {σ : St} {ad : Nat → Nat → Nat} {cy : Nat → ClassId} {Rr : va_W} {Q : Int32 → St → Prop} {p1 : Int32} {p2 : Int32} {p3 : Int32} (E : CallFix p m c cX5_sheet 4 s args TB RX5) (hr : meth.sig.returnType = some .int) (hlk : meth.locks = false) (hf : wX5_sheet p1 p2 p3 σ Q) (hI : In (D, tysC cy, SF z) (LC ad cy Rr σ) A s H locs) (hl : lv_has ls 4 [(0, .ref (ad 0 99)), (1, .int p1), (2, .int p2), (3, .int p3)]) : W p l e (rmD 1) s m args below meth c H locs 0 0 (PI below args s (D, tysC cy, SF z) A (LC ad cy Rr) Q) (F0 m 0 ls []) := by
  have hx := E.1
  have hb := E.2.1
  unfold wX5_sheet at hf
  refine lv_iload_n (pc := 0) hx hb dX5_sheet_0 rfl (lv_at hl 1 rfl) ?_
  refine lv_iconst (v := 4) (pc := 1) hx hb dX5_sheet_1 rfl ?_
  refine callSI (G := (D, tysC cy, SF z)) (L := LC ad cy Rr) (pc := 2) (As := [.int p1, .int 4]) (rest := []) stabSF E cs0 hl hI (tX5_isIn hf) mwX5_94 (fitD (by decide)) rfl rfl (Nat.le_of_ble_eq_true rfl) dX5_sheet_2 (fun r2 σ1 H locs hf hI => ?_)
  refine lv_if_eq (tgt := 18) (pc := 5) hx hb dX5_sheet_5 (by decide) (fun c3 => ?_) (fun c3 => ?_)
  · have hf := hf.1 c3
    refine lv_bipush (v := (-2)) (pc := 18) hx hb dX5_sheet_18 rfl ?_
    exact rI (pc := 20) E hr hlk hI hf dX5_sheet_20
  · have hf := hf.2 c3
    refine lv_iload_n (pc := 8) hx hb dX5_sheet_8 rfl (lv_at hl 2 rfl) ?_
    refine lv_iconst (v := (-1)) (pc := 9) hx hb dX5_sheet_9 rfl ?_
    refine lv_icmp_lt (tgt := 18) (pc := 10) hx hb dX5_sheet_10 (by decide) (fun c4 => ?_) (fun c4 => ?_)
    · have hf := hf.1 c4
      refine lv_bipush (v := (-2)) (pc := 18) hx hb dX5_sheet_18 rfl ?_
      exact rI (pc := 20) E hr hlk hI hf dX5_sheet_20
    · have hf := hf.2 c4
      refine lv_iload_n (pc := 13) hx hb dX5_sheet_13 rfl (lv_at hl 2 rfl) ?_
      refine lv_iconst (v := 3) (pc := 14) hx hb dX5_sheet_14 rfl ?_
      refine lv_icmp_lt (tgt := 21) (pc := 15) hx hb dX5_sheet_15 (by decide) (fun c5 => ?_) (fun c5 => ?_)
      · have hf := hf.1 c5
        refine lv_iload_n (pc := 21) hx hb dX5_sheet_21 rfl (lv_at hl 2 rfl) ?_
        refine lv_iconst (v := (-1)) (pc := 22) hx hb dX5_sheet_22 rfl ?_
        refine lv_icmp_ne (tgt := 39) (pc := 23) hx hb dX5_sheet_23 (by decide) (fun c6 => ?_) (fun c6 => ?_)
        · have hf := hf.1 c6
          refine lv_iload_n (pc := 39) hx hb dX5_sheet_39 rfl (lv_at hl 3 rfl) ?_
          refine lv_bipush (v := 40) (pc := 40) hx hb dX5_sheet_40 rfl ?_
          refine lv_icmp_le (tgt := 48) (pc := 42) hx hb dX5_sheet_42 (by decide) (fun c7 => ?_) (fun c7 => ?_)
          · have hf := hf.1 c7
            refine lv_iload_n (pc := 48) hx hb dX5_sheet_48 rfl (lv_at hl 3 rfl) ?_
            refine lv_if_ge (tgt := 55) (pc := 49) hx hb dX5_sheet_49 (by decide) (fun c8 => ?_) (fun c8 => ?_)
            · have hf := hf.1 c8
              refine lv_aload_n (pc := 55) hx hb dX5_sheet_55 rfl (lv_at hl 0 rfl) ?_
              refine g5_6 (pc := 56) E hI rfl lkX5_42 dX5_sheet_56 ?_
              refine lv_iload_n (pc := 59) hx hb dX5_sheet_59 rfl (lv_at hl 1 rfl) ?_
              have g9 := hf.1
              have hf := hf.2
              refine a5_6n (pc := 60) E hI rfl g9 dX5_sheet_60 (fun o10 eo10 ho10 => ?_)
              have hf := hf o10 eo10
              refine lv_iload_n (pc := 61) hx hb dX5_sheet_61 rfl (lv_at hl 2 rfl) ?_
              refine lv_iload_n (pc := 62) hx hb dX5_sheet_62 rfl (lv_at hl 3 rfl) ?_
              refine callVV (G := (D, tysC cy, SF z)) (L := LC ad cy Rr) (pc := 63) (As := [.int p2, .int p3]) (rest := []) stabSF E cs0 hl hI (tX2_become ho10 hf) mwX5_211 (fitD (by decide)) (at2 ho10) rfl rfl rfl rfl (Nat.le_of_ble_eq_true rfl) dX5_sheet_63 (fun σ11 H locs hf hI => ?_)
              refine lv_iconst (v := 1) (pc := 66) hx hb dX5_sheet_66 rfl ?_
              exact rI (pc := 67) E hr hlk hI hf dX5_sheet_67
            · have hf := hf.2 c8
              refine lv_bipush (v := (-14)) (pc := 52) hx hb dX5_sheet_52 rfl ?_
              exact rI (pc := 54) E hr hlk hI hf dX5_sheet_54
          · have hf := hf.2 c7
            refine lv_bipush (v := (-2)) (pc := 45) hx hb dX5_sheet_45 rfl ?_
            exact rI (pc := 47) E hr hlk hI hf dX5_sheet_47
        · have hf := hf.2 c6
          refine lv_aload_n (pc := 26) hx hb dX5_sheet_26 rfl (lv_at hl 0 rfl) ?_
          refine g5_6 (pc := 27) E hI rfl lkX5_42 dX5_sheet_27 ?_
          refine lv_iload_n (pc := 30) hx hb dX5_sheet_30 rfl (lv_at hl 1 rfl) ?_
          have g12 := hf.1
          have hf := hf.2
          refine a5_6n (pc := 31) E hI rfl g12 dX5_sheet_31 (fun o13 eo13 ho13 => ?_)
          have hf := hf o13 eo13
          refine lv_iconst (v := (-1)) (pc := 32) hx hb dX5_sheet_32 rfl ?_
          refine lv_iconst (v := 0) (pc := 33) hx hb dX5_sheet_33 rfl ?_
          refine callVV (G := (D, tysC cy, SF z)) (L := LC ad cy Rr) (pc := 34) (As := [.int (-1), .int 0]) (rest := []) stabSF E cs0 hl hI (tX2_become ho13 hf) mwX5_211 (fitD (by decide)) (at2 ho13) rfl rfl rfl rfl (Nat.le_of_ble_eq_true rfl) dX5_sheet_34 (fun σ14 H locs hf hI => ?_)
          refine lv_iconst (v := 1) (pc := 37) hx hb dX5_sheet_37 rfl ?_
          exact rI (pc := 38) E hr hlk hI hf dX5_sheet_38
      · have hf := hf.2 c5
        refine lv_bipush (v := (-2)) (pc := 18) hx hb dX5_sheet_18 rfl ?_
        exact rI (pc := 20) E hr hlk hI hf dX5_sheet_20
theorem tX5_sheet {l : Launch} {D : va_G} {z : Nat → Nat} {σ : St} {ad : Nat → Nat → Nat} {cy : Nat → ClassId} {Rr : va_W} {Q : Int32 → St → Prop} {p1 : Int32} {p2 : Int32} {p3 : Int32} (hf : wX5_sheet p1 p2 p3 σ Q) : CtI l yX5_sheet cX5_sheet 4 .int 1 (D, tysC cy, SF z) (LC ad cy Rr) [.ref (ad 0 99), .int p1, .int p2, .int p3] σ Q := mkI (by decide) (Nat.le_of_ble_eq_true rfl) (fun p e s m below meth c A E hr hlk hI ls hl => bX5_sheet E hr hlk hf hI hl)

def wX5_cell (p1 : Int32) (p2 : Int32) (p3 : Int32) (σ : St) (Q : Int32 → St → Prop) : Prop := wX5_isIn p1 4 σ (fun r2 σ1 => ((¬ r2 = 0 → vp_in p1 4 ∧ ∀ o5 : Nat, o5 = 12 + p1.toNatClampNeg → wX2_isMissing o5 σ1 (fun r7 σ6 => ((r7 = 0 → wX5_isIn p2 (gI σ6 o5 1) σ6 (fun r10 σ9 => ((¬ r10 = 0 → wX2_put o5 p2 p3 σ9 (fun σ12 => Q 1 σ12)) ∧ (r10 = 0 → Q (-12) σ9)))) ∧ (¬ r7 = 0 → Q (-11) σ6)))) ∧ (r2 = 0 → Q (-2) σ1)))
set_option maxRecDepth 100000 in
set_option maxHeartbeats 4000000 in
theorem bX5_cell {p : Program} {l : Launch} {e : Env} {s : State} {m : MethodId} {args : Array Value} {below : List Frame} {meth : Method} {c : Code} {H : Heap} {locs : List Loc} {ls : Array Slot} {D : va_G} {z : Nat → Nat} {A : Nat → Prop} {σ : St} {ad : Nat → Nat → Nat} {cy : Nat → ClassId} {Rr : va_W} {Q : Int32 → St → Prop} {p1 : Int32} {p2 : Int32} {p3 : Int32} (E : CallFix p m c cX5_cell 5 s args TB RX5) (hr : meth.sig.returnType = some .int) (hlk : meth.locks = false) (hf : wX5_cell p1 p2 p3 σ Q) (hI : In (D, tysC cy, SF z) (LC ad cy Rr σ) A s H locs) (hl : lv_has ls 5 [(0, .ref (ad 0 99)), (1, .int p1), (2, .int p2), (3, .int p3)]) : W p l e (rmD 1) s m args below meth c H locs 0 0 (PI below args s (D, tysC cy, SF z) A (LC ad cy Rr) Q) (F0 m 0 ls []) := by
  have hx := E.1
  have hb := E.2.1
  unfold wX5_cell at hf
  refine lv_iload_n (pc := 0) hx hb dX5_cell_0 rfl (lv_at hl 1 rfl) ?_
  refine lv_iconst (v := 4) (pc := 1) hx hb dX5_cell_1 rfl ?_
  refine callSI (G := (D, tysC cy, SF z)) (L := LC ad cy Rr) (pc := 2) (As := [.int p1, .int 4]) (rest := []) stabSF E cs0 hl hI (tX5_isIn hf) mwX5_94 (fitD (by decide)) rfl rfl (Nat.le_of_ble_eq_true rfl) dX5_cell_2 (fun r2 σ1 H locs hf hI => ?_)
  refine lv_if_ne (tgt := 11) (pc := 5) hx hb dX5_cell_5 (by decide) (fun c3 => ?_) (fun c3 => ?_)
  · have hf := hf.1 c3
    refine lv_aload_n (pc := 11) hx hb dX5_cell_11 rfl (lv_at hl 0 rfl) ?_
    refine g5_6 (pc := 12) E hI rfl lkX5_42 dX5_cell_12 ?_
    refine lv_iload_n (pc := 15) hx hb dX5_cell_15 rfl (lv_at hl 1 rfl) ?_
    have g4 := hf.1
    have hf := hf.2
    refine a5_6n (pc := 16) E hI rfl g4 dX5_cell_16 (fun o5 eo5 ho5 => ?_)
    have hf := hf o5 eo5
    refine lv_astore (lv' := [(4, .ref (ad o5 99)), (0, .ref (ad 0 99)), (1, .int p1), (2, .int p2), (3, .int p3)]) (pc := 17) hx hb dX5_cell_17 hl (by decide) rfl (fun ls hl => ?_)
    refine lv_aload (pc := 19) hx hb dX5_cell_19 (lv_at hl 0 rfl) ?_
    refine callVI (G := (D, tysC cy, SF z)) (L := LC ad cy Rr) (pc := 21) (As := []) (rest := []) stabSF E cs0 hl hI (tX2_isMissing ho5 hf) mwX5_194 (fitD (by decide)) (at2 ho5) rfl rfl rfl rfl (Nat.le_of_ble_eq_true rfl) dX5_cell_21 (fun r7 σ6 H locs hf hI => ?_)
    refine lv_if_eq (tgt := 30) (pc := 24) hx hb dX5_cell_24 (by decide) (fun c8 => ?_) (fun c8 => ?_)
    · have hf := hf.1 c8
      refine lv_iload_n (pc := 30) hx hb dX5_cell_30 rfl (lv_at hl 3 rfl) ?_
      refine lv_aload (pc := 31) hx hb dX5_cell_31 (lv_at hl 0 rfl) ?_
      refine g2_1 (pc := 33) E hI ho5 lkX5_198 dX5_cell_33 ?_
      refine callSI (G := (D, tysC cy, SF z)) (L := LC ad cy Rr) (pc := 36) (As := [.int p2, .int (gI σ6 o5 1)]) (rest := []) stabSF E cs0 hl hI (tX5_isIn hf) mwX5_94 (fitD (by decide)) rfl rfl (Nat.le_of_ble_eq_true rfl) dX5_cell_36 (fun r10 σ9 H locs hf hI => ?_)
      refine lv_if_ne (tgt := 45) (pc := 39) hx hb dX5_cell_39 (by decide) (fun c11 => ?_) (fun c11 => ?_)
      · have hf := hf.1 c11
        refine lv_aload (pc := 45) hx hb dX5_cell_45 (lv_at hl 0 rfl) ?_
        refine lv_iload_n (pc := 47) hx hb dX5_cell_47 rfl (lv_at hl 3 rfl) ?_
        refine lv_iload_n (pc := 48) hx hb dX5_cell_48 rfl (lv_at hl 4 rfl) ?_
        refine callVV (G := (D, tysC cy, SF z)) (L := LC ad cy Rr) (pc := 49) (As := [.int p2, .int p3]) (rest := []) stabSF E cs0 hl hI (tX2_put ho5 hf) mwX5_214 (fitD (by decide)) (at2 ho5) rfl rfl rfl rfl (Nat.le_of_ble_eq_true rfl) dX5_cell_49 (fun σ12 H locs hf hI => ?_)
        refine lv_iconst (v := 1) (pc := 52) hx hb dX5_cell_52 rfl ?_
        exact rI (pc := 53) E hr hlk hI hf dX5_cell_53
      · have hf := hf.2 c11
        refine lv_bipush (v := (-12)) (pc := 42) hx hb dX5_cell_42 rfl ?_
        exact rI (pc := 44) E hr hlk hI hf dX5_cell_44
    · have hf := hf.2 c8
      refine lv_bipush (v := (-11)) (pc := 27) hx hb dX5_cell_27 rfl ?_
      exact rI (pc := 29) E hr hlk hI hf dX5_cell_29
  · have hf := hf.2 c3
    refine lv_bipush (v := (-2)) (pc := 8) hx hb dX5_cell_8 rfl ?_
    exact rI (pc := 10) E hr hlk hI hf dX5_cell_10
theorem tX5_cell {l : Launch} {D : va_G} {z : Nat → Nat} {σ : St} {ad : Nat → Nat → Nat} {cy : Nat → ClassId} {Rr : va_W} {Q : Int32 → St → Prop} {p1 : Int32} {p2 : Int32} {p3 : Int32} (hf : wX5_cell p1 p2 p3 σ Q) : CtI l yX5_cell cX5_cell 5 .int 1 (D, tysC cy, SF z) (LC ad cy Rr) [.ref (ad 0 99), .int p1, .int p2, .int p3] σ Q := mkI (by decide) (Nat.le_of_ble_eq_true rfl) (fun p e s m below meth c A E hr hlk hI ls hl => bX5_cell E hr hlk hf hI hl)

def wX5_isThere (p1 : Int32) (p2 : Int32) (σ : St) (Q : Int32 → St → Prop) : Prop := ((p1 = 0 → Q 1 σ) ∧ (p1 = 1 → wX5_isIn p2 64 σ (fun r4 σ3 => (r4 = 0 ∨ r4 = 1) ∧ Q r4 σ3)) ∧ (p1 = 2 → wX5_isIn p2 64 σ (fun r8 σ7 => (r8 = 0 ∨ r8 = 1) ∧ Q r8 σ7)) ∧ (p1 = 3 → wX5_isIn p2 4 σ (fun r12 σ11 => (r12 = 0 ∨ r12 = 1) ∧ Q r12 σ11)) ∧ (¬ p1 = 0 → ¬ p1 = 1 → ¬ p1 = 2 → ¬ p1 = 3 → wX5_isIn p2 (gI σ 1 5) σ (fun r15 σ14 => (r15 = 0 ∨ r15 = 1) ∧ Q r15 σ14)))
set_option maxRecDepth 100000 in
set_option maxHeartbeats 4000000 in
theorem bX5_isThere {p : Program} {l : Launch} {e : Env} {s : State} {m : MethodId} {args : Array Value} {below : List Frame} {meth : Method} {c : Code} {H : Heap} {locs : List Loc} {ls : Array Slot} {D : va_G} {z : Nat → Nat} {A : Nat → Prop} {σ : St} {ad : Nat → Nat → Nat} {cy : Nat → ClassId} {Rr : va_W} {Q : Int32 → St → Prop} {p1 : Int32} {p2 : Int32} (E : CallFix p m c cX5_isThere 3 s args TB RX5) (hr : meth.sig.returnType = some .boolean) (hlk : meth.locks = false) (hf : wX5_isThere p1 p2 σ Q) (hI : In (D, tysC cy, SF z) (LC ad cy Rr σ) A s H locs) (hl : lv_has ls 3 [(0, .ref (ad 0 99)), (1, .int p1), (2, .int p2)]) : W p l e (rmD 1) s m args below meth c H locs 0 0 (PI below args s (D, tysC cy, SF z) A (LC ad cy Rr) Q) (F0 m 0 ls []) := by
  have hx := E.1
  have hb := E.2.1
  unfold wX5_isThere at hf
  refine lv_iload_n (pc := 0) hx hb dX5_isThere_0 rfl (lv_at hl 1 rfl) ?_
  by_cases c1 : p1 = 0
  · refine lv_tableIn (tgt := 32) (pc := 1) hx hb dX5_isThere_1 (by rw [c1]; decide) (by rw [c1]; decide) (by rw [c1]; rfl) (by decide) ?_
    have hf := hf.1 c1
    refine lv_iconst (v := 1) (pc := 32) hx hb dX5_isThere_32 rfl ?_
    exact rZ (pc := 33) E hr hlk hI (Or.inr rfl) hf dX5_isThere_33
  have hf := hf.2
  by_cases c2 : p1 = 1
  · refine lv_tableIn (tgt := 34) (pc := 1) hx hb dX5_isThere_1 (by rw [c2]; decide) (by rw [c2]; decide) (by rw [c2]; rfl) (by decide) ?_
    have hf := hf.1 c2
    refine lv_iload_n (pc := 34) hx hb dX5_isThere_34 rfl (lv_at hl 2 rfl) ?_
    refine lv_bipush (v := 64) (pc := 35) hx hb dX5_isThere_35 rfl ?_
    refine callSI (G := (D, tysC cy, SF z)) (L := LC ad cy Rr) (pc := 37) (As := [.int p2, .int 64]) (rest := []) stabSF E cs0 hl hI (tX5_isIn hf) mwX5_94 (fitD (by decide)) rfl rfl (Nat.le_of_ble_eq_true rfl) dX5_isThere_37 (fun r4 σ3 H locs hf hI => ?_)
    have z5 := hf.1
    have hf := hf.2
    exact rZ (pc := 40) E hr hlk hI z5 hf dX5_isThere_40
  have hf := hf.2
  by_cases c6 : p1 = 2
  · refine lv_tableIn (tgt := 34) (pc := 1) hx hb dX5_isThere_1 (by rw [c6]; decide) (by rw [c6]; decide) (by rw [c6]; rfl) (by decide) ?_
    have hf := hf.1 c6
    refine lv_iload_n (pc := 34) hx hb dX5_isThere_34 rfl (lv_at hl 2 rfl) ?_
    refine lv_bipush (v := 64) (pc := 35) hx hb dX5_isThere_35 rfl ?_
    refine callSI (G := (D, tysC cy, SF z)) (L := LC ad cy Rr) (pc := 37) (As := [.int p2, .int 64]) (rest := []) stabSF E cs0 hl hI (tX5_isIn hf) mwX5_94 (fitD (by decide)) rfl rfl (Nat.le_of_ble_eq_true rfl) dX5_isThere_37 (fun r8 σ7 H locs hf hI => ?_)
    have z9 := hf.1
    have hf := hf.2
    exact rZ (pc := 40) E hr hlk hI z9 hf dX5_isThere_40
  have hf := hf.2
  by_cases c10 : p1 = 3
  · refine lv_tableIn (tgt := 41) (pc := 1) hx hb dX5_isThere_1 (by rw [c10]; decide) (by rw [c10]; decide) (by rw [c10]; rfl) (by decide) ?_
    have hf := hf.1 c10
    refine lv_iload_n (pc := 41) hx hb dX5_isThere_41 rfl (lv_at hl 2 rfl) ?_
    refine lv_iconst (v := 4) (pc := 42) hx hb dX5_isThere_42 rfl ?_
    refine callSI (G := (D, tysC cy, SF z)) (L := LC ad cy Rr) (pc := 43) (As := [.int p2, .int 4]) (rest := []) stabSF E cs0 hl hI (tX5_isIn hf) mwX5_94 (fitD (by decide)) rfl rfl (Nat.le_of_ble_eq_true rfl) dX5_isThere_43 (fun r12 σ11 H locs hf hI => ?_)
    have z13 := hf.1
    have hf := hf.2
    exact rZ (pc := 46) E hr hlk hI z13 hf dX5_isThere_46
  have hf := hf.2
  have hf := hf c1 c2 c6 c10
  refine lv_tableOut (tgt := 47) (pc := 1) hx hb dX5_isThere_1 (by have := neI (k := 0) c1 rfl; have := neI (k := 1) c2 rfl; have := neI (k := 2) c6 rfl; have := neI (k := 3) c10 rfl; omega) (by decide) ?_
  refine lv_iload_n (pc := 47) hx hb dX5_isThere_47 rfl (lv_at hl 2 rfl) ?_
  refine lv_aload_n (pc := 48) hx hb dX5_isThere_48 rfl (lv_at hl 0 rfl) ?_
  refine g5_0 (pc := 49) E hI rfl lkX5_10 dX5_isThere_49 ?_
  refine g4_5 (pc := 52) E hI rfl lkX5_134 dX5_isThere_52 ?_
  refine callSI (G := (D, tysC cy, SF z)) (L := LC ad cy Rr) (pc := 55) (As := [.int p2, .int (gI σ 1 5)]) (rest := []) stabSF E cs0 hl hI (tX5_isIn hf) mwX5_94 (fitD (by decide)) rfl rfl (Nat.le_of_ble_eq_true rfl) dX5_isThere_55 (fun r15 σ14 H locs hf hI => ?_)
  have z16 := hf.1
  have hf := hf.2
  exact rZ (pc := 58) E hr hlk hI z16 hf dX5_isThere_58
theorem tX5_isThere {l : Launch} {D : va_G} {z : Nat → Nat} {σ : St} {ad : Nat → Nat → Nat} {cy : Nat → ClassId} {Rr : va_W} {Q : Int32 → St → Prop} {p1 : Int32} {p2 : Int32} (hf : wX5_isThere p1 p2 σ Q) : CtI l yX5_isThere cX5_isThere 3 .boolean 1 (D, tysC cy, SF z) (LC ad cy Rr) [.ref (ad 0 99), .int p1, .int p2] σ Q := mkI (by decide) (Nat.le_of_ble_eq_true rfl) (fun p e s m below meth c A E hr hlk hI ls hl => bX5_isThere E hr hlk hf hI hl)

def wX5_isUnder_l4s (ih : Int32 → Int32 → Int32 → St → Prop) (a1 : Int32) (a2 : Int32) (a3 : Int32) (σ : St) (Q : Int32 → St → Prop) : Prop := ((6 ≤ a3 → Q 0 σ) ∧ (¬ 6 ≤ a3 → wX5_isIn a2 6 σ (fun r3 σ2 => ((r3 = 0 → Q 0 σ2) ∧ (¬ r3 = 0 → ((¬ a2 = a1 → vp_in a2 6 ∧ ∀ x7 : Int32, x7 = (abv a2.toNatClampNeg) → ∀ x8 : Int32, x8 = a3 + 1 → (ih a1 x7 x8 σ2)) ∧ (a2 = a1 → Q 1 σ2)))))))
def wX5_isUnder_l4 (n : Nat) : Int32 → Int32 → Int32 → St → (Int32 → St → Prop) → Prop := @Nat.rec (fun _ => Int32 → Int32 → Int32 → St → (Int32 → St → Prop) → Prop) (fun _ _ _ _ _ => False) (fun _ ih a1 a2 a3 σ Q => wX5_isUnder_l4s (fun a1 a2 a3 σ => ih a1 a2 a3 σ Q) a1 a2 a3 σ Q) n
set_option maxRecDepth 100000 in
set_option maxHeartbeats 4000000 in
theorem bX5_isUnder_4 {p : Program} {l : Launch} {e : Env} {s : State} {m : MethodId} {args : Array Value} {below : List Frame} {meth : Method} {c : Code} {D : va_G} {z : Nat → Nat} {A : Nat → Prop} {ad : Nat → Nat → Nat} {cy : Nat → ClassId} {Rr : va_W} {Q : Int32 → St → Prop} (E : CallFix p m c cX5_isUnder 4 s args TB RX5) (hr : meth.sig.returnType = some .boolean) (hlk : meth.locks = false) : ∀ (n : Nat) {a1 : Int32} {a2 : Int32} {a3 : Int32} {σ : St} {H : Heap} {locs : List Loc} {ls : Array Slot}, wX5_isUnder_l4 n a1 a2 a3 σ Q → In (D, tysC cy, SF z) (LC ad cy Rr σ) A s H locs → lv_has ls 4 [(1, .int a1), (2, .int a2), (3, .int a3)] → W p l e (rmD 1) s m args below meth c H locs 0 0 (PI below args s (D, tysC cy, SF z) A (LC ad cy Rr) Q) (F0 m 4 ls []) := by
  have hx := E.1
  have hb := E.2.1
  intro n
  induction n with
  | zero => intro a1 a2 a3 σ H locs ls hf hI hl; exact False.elim hf
  | succ n ih =>
    intro a1 a2 a3 σ H locs ls hf hI hl
    have hf : wX5_isUnder_l4s (fun a1 a2 a3 σ => wX5_isUnder_l4 n a1 a2 a3 σ Q) a1 a2 a3 σ Q := hf
    unfold wX5_isUnder_l4s at hf
    refine lv_iload_n (pc := 4) hx hb dX5_isUnder_4 rfl (lv_at hl 2 rfl) ?_
    refine lv_bipush (v := 6) (pc := 5) hx hb dX5_isUnder_5 rfl ?_
    refine lv_icmp_ge (tgt := 38) (pc := 7) hx hb dX5_isUnder_7 (by decide) (fun c1 => ?_) (fun c1 => ?_)
    · have hf := hf.1 c1
      refine lv_iconst (v := 0) (pc := 38) hx hb dX5_isUnder_38 rfl ?_
      exact rZ (pc := 39) E hr hlk hI (Or.inl rfl) hf dX5_isUnder_39
    · have hf := hf.2 c1
      refine lv_iload_n (pc := 10) hx hb dX5_isUnder_10 rfl (lv_at hl 1 rfl) ?_
      refine lv_bipush (v := 6) (pc := 11) hx hb dX5_isUnder_11 rfl ?_
      refine callSI (G := (D, tysC cy, SF z)) (L := LC ad cy Rr) (pc := 13) (As := [.int a2, .int 6]) (rest := []) stabSF E cs0 hl hI (tX5_isIn hf) mwX5_94 (fitD (by decide)) rfl rfl (Nat.le_of_ble_eq_true rfl) dX5_isUnder_13 (fun r3 σ2 H locs hf hI => ?_)
      refine lv_if_eq (tgt := 38) (pc := 16) hx hb dX5_isUnder_16 (by decide) (fun c4 => ?_) (fun c4 => ?_)
      · have hf := hf.1 c4
        refine lv_iconst (v := 0) (pc := 38) hx hb dX5_isUnder_38 rfl ?_
        exact rZ (pc := 39) E hr hlk hI (Or.inl rfl) hf dX5_isUnder_39
      · have hf := hf.2 c4
        refine lv_iload_n (pc := 19) hx hb dX5_isUnder_19 rfl (lv_at hl 1 rfl) ?_
        refine lv_iload_n (pc := 20) hx hb dX5_isUnder_20 rfl (lv_at hl 0 rfl) ?_
        refine lv_icmp_ne (tgt := 26) (pc := 21) hx hb dX5_isUnder_21 (by decide) (fun c5 => ?_) (fun c5 => ?_)
        · have hf := hf.1 c5
          refine rAbv (pc := 26) E hI dX5_isUnder_26 ?_
          refine lv_iload_n (pc := 29) hx hb dX5_isUnder_29 rfl (lv_at hl 1 rfl) ?_
          have g6 := hf.1
          have hf := hf.2
          refine rAbvA (pc := 30) E hI g6 dX5_isUnder_30 ?_
          refine lv_topi (fun x7 ex7 => ?_)
          have hf := hf x7 ex7
          refine lv_istore_n (lv' := [(2, .int x7), (1, .int a1), (3, .int a3)]) (pc := 31) hx hb dX5_isUnder_31 rfl hl (by decide) rfl (fun ls hl => ?_)
          obtain ⟨x8, ex8⟩ : ∃ y : Int32, y = a3 + 1 := ⟨_, rfl⟩
          have hf := hf x8 ex8
          refine lv_iinc (v := x8) (lv' := [(3, .int x8), (2, .int x7), (1, .int a1)]) (pc := 32) hx hb dX5_isUnder_32 hl (k := 2) rfl (by rw [ex8]; rfl) (by decide) rfl (fun ls hl => ?_)
          refine lv_goto (tgt := 4) (pc := 35) hx hb dX5_isUnder_35 (by decide) ?_
          exact ih hf hI (lv_sub hl [2, 1, 0] rfl)
        · have hf := hf.2 c5
          refine lv_iconst (v := 1) (pc := 24) hx hb dX5_isUnder_24 rfl ?_
          exact rZ (pc := 25) E hr hlk hI (Or.inr rfl) hf dX5_isUnder_25
def wX5_isUnder (p1 : Int32) (p2 : Int32) (σ : St) (Q : Int32 → St → Prop) : Prop := ∃ n9 : Nat, wX5_isUnder_l4 n9 p2 p1 0 σ Q
set_option maxRecDepth 100000 in
set_option maxHeartbeats 4000000 in
theorem bX5_isUnder {p : Program} {l : Launch} {e : Env} {s : State} {m : MethodId} {args : Array Value} {below : List Frame} {meth : Method} {c : Code} {H : Heap} {locs : List Loc} {ls : Array Slot} {D : va_G} {z : Nat → Nat} {A : Nat → Prop} {σ : St} {ad : Nat → Nat → Nat} {cy : Nat → ClassId} {Rr : va_W} {Q : Int32 → St → Prop} {p1 : Int32} {p2 : Int32} (E : CallFix p m c cX5_isUnder 4 s args TB RX5) (hr : meth.sig.returnType = some .boolean) (hlk : meth.locks = false) (hf : wX5_isUnder p1 p2 σ Q) (hI : In (D, tysC cy, SF z) (LC ad cy Rr σ) A s H locs) (hl : lv_has ls 4 [(0, .int p1), (1, .int p2)]) : W p l e (rmD 1) s m args below meth c H locs 0 0 (PI below args s (D, tysC cy, SF z) A (LC ad cy Rr) Q) (F0 m 0 ls []) := by
  have hx := E.1
  have hb := E.2.1
  unfold wX5_isUnder at hf
  refine lv_iload_n (pc := 0) hx hb dX5_isUnder_0 rfl (lv_at hl 0 rfl) ?_
  refine lv_istore_n (lv' := [(2, .int p1), (0, .int p1), (1, .int p2)]) (pc := 1) hx hb dX5_isUnder_1 rfl hl (by decide) rfl (fun ls hl => ?_)
  refine lv_iconst (v := 0) (pc := 2) hx hb dX5_isUnder_2 rfl ?_
  refine lv_istore_n (lv' := [(3, .int 0), (2, .int p1), (0, .int p1), (1, .int p2)]) (pc := 3) hx hb dX5_isUnder_3 rfl hl (by decide) rfl (fun ls hl => ?_)
  obtain ⟨n9, hf⟩ := hf
  exact bX5_isUnder_4 E hr hlk n9 hf hI (lv_sub hl [3, 1, 0] rfl)
theorem tX5_isUnder {l : Launch} {D : va_G} {z : Nat → Nat} {σ : St} {ad : Nat → Nat → Nat} {cy : Nat → ClassId} {Rr : va_W} {Q : Int32 → St → Prop} {p1 : Int32} {p2 : Int32} (hf : wX5_isUnder p1 p2 σ Q) : CtI l yX5_isUnder cX5_isUnder 4 .boolean 1 (D, tysC cy, SF z) (LC ad cy Rr) [.int p1, .int p2] σ Q := mkI (by decide) (Nat.le_of_ble_eq_true rfl) (fun p e s m below meth c A E hr hlk hI ls hl => bX5_isUnder E hr hlk hf hI hl)

def wX5_think (σ : St) (Q : St → Prop) : Prop := wX4_become 2 1 σ (fun σ1 => Q σ1)
set_option maxRecDepth 100000 in
set_option maxHeartbeats 4000000 in
theorem bX5_think {p : Program} {l : Launch} {e : Env} {s : State} {m : MethodId} {args : Array Value} {below : List Frame} {meth : Method} {c : Code} {H : Heap} {locs : List Loc} {ls : Array Slot} {D : va_G} {z : Nat → Nat} {A : Nat → Prop} {σ : St} {ad : Nat → Nat → Nat} {cy : Nat → ClassId} {Rr : va_W} {Q : St → Prop} (E : CallFix p m c cX5_think 1 s args TB RX5) (hr : meth.sig.returnType = none) (hlk : meth.locks = false) (hf : wX5_think σ Q) (hI : In (D, tysC cy, SF z) (LC ad cy Rr σ) A s H locs) (hl : lv_has ls 1 [(0, .ref (ad 0 99))]) : W p l e (rmD 1) s m args below meth c H locs 0 0 (PV below args s (D, tysC cy, SF z) A (LC ad cy Rr) Q) (F0 m 0 ls []) := by
  have hx := E.1
  have hb := E.2.1
  unfold wX5_think at hf
  refine lv_aload_n (pc := 0) hx hb dX5_think_0 rfl (lv_at hl 0 rfl) ?_
  refine g5_1 (pc := 1) E hI rfl lkX5_16 dX5_think_1 ?_
  refine lv_aload_n (pc := 4) hx hb dX5_think_4 rfl (lv_at hl 0 rfl) ?_
  refine g5_0 (pc := 5) E hI rfl lkX5_10 dX5_think_5 ?_
  refine callVV (G := (D, tysC cy, SF z)) (L := LC ad cy Rr) (pc := 8) (As := [.ref (ad 1 99)]) (rest := []) stabSF E cs0 hl hI (tX4_become rfl rfl hf) mwX5_220 (fitD (by decide)) (at4 rfl) rfl rfl rfl rfl (Nat.le_of_ble_eq_true rfl) dX5_think_8 (fun σ1 H locs hf hI => ?_)
  exact rV (pc := 11) E hr hlk hI hf dX5_think_11
theorem tX5_think {l : Launch} {D : va_G} {z : Nat → Nat} {σ : St} {ad : Nat → Nat → Nat} {cy : Nat → ClassId} {Rr : va_W} {Q : St → Prop} (hf : wX5_think σ Q) : CtV l yX5_think cX5_think 1 1 (D, tysC cy, SF z) (LC ad cy Rr) [.ref (ad 0 99)] σ Q := mkV (by decide) (Nat.le_of_ble_eq_true rfl) (fun p e s m below meth c A E hr hlk hI ls hl => bX5_think E hr hlk hf hI hl)

def wX1_reckon_j232 (a7 : Int32) (s0 : Int32) (σ : St) (Q : Int32 → St → Prop) : Prop := Q (if s0 < (if a7 < 99 then a7 else 99) then (if a7 < 99 then a7 else 99) else s0) σ
set_option maxRecDepth 100000 in
set_option maxHeartbeats 4000000 in
theorem bX1_reckon_232 {p : Program} {l : Launch} {e : Env} {s : State} {m : MethodId} {args : Array Value} {below : List Frame} {meth : Method} {c : Code} {H : Heap} {locs : List Loc} {ls : Array Slot} {D : va_G} {z : Nat → Nat} {A : Nat → Prop} {σ : St} {ad : Nat → Nat → Nat} {cy : Nat → ClassId} {Rr : va_W} {Q : Int32 → St → Prop} {a7 : Int32} {s0 : Int32} (E : CallFix p m c cX1_reckon 9 s args TB RX1) (hr : meth.sig.returnType = some .int) (hlk : meth.locks = false) (hf : wX1_reckon_j232 a7 s0 σ Q) (hI : In (D, tysC cy, SF z) (LC ad cy Rr σ) A s H locs) (hl : lv_has ls 9 [(7, .int a7)]) : W p l e (rmD 2) s m args below meth c H locs 0 0 (PI below args s (D, tysC cy, SF z) A (LC ad cy Rr) Q) (F0 m 232 ls [.int s0]) := by
  have hx := E.1
  have hb := E.2.1
  unfold wX1_reckon_j232 at hf
  refine lv_bipush (v := 99) (pc := 232) hx hb dX1_reckon_232 rfl ?_
  refine lv_iload (pc := 234) hx hb dX1_reckon_234 (lv_at hl 0 rfl) ?_
  refine rMin (pc := 236) E cs0 hl mwX1_34 (fitD (by decide)) (Nat.le_of_ble_eq_true rfl) dX1_reckon_236 ?_
  refine rMax (pc := 239) E cs0 hl mwX1_93 (fitD (by decide)) (Nat.le_of_ble_eq_true rfl) dX1_reckon_239 ?_
  exact rI (pc := 242) E hr hlk hI hf dX1_reckon_242
def wX1_reckon_j220 (a1 : Int32) (s0 : Int32) (σ : St) (Q : Int32 → St → Prop) : Prop := ((¬ a1 = 0 → (wX1_reckon_j232 s0 (-99) σ Q)) ∧ (a1 = 0 → (wX1_reckon_j232 s0 0 σ Q)))
set_option maxRecDepth 100000 in
set_option maxHeartbeats 4000000 in
theorem bX1_reckon_220 {p : Program} {l : Launch} {e : Env} {s : State} {m : MethodId} {args : Array Value} {below : List Frame} {meth : Method} {c : Code} {H : Heap} {locs : List Loc} {ls : Array Slot} {D : va_G} {z : Nat → Nat} {A : Nat → Prop} {σ : St} {ad : Nat → Nat → Nat} {cy : Nat → ClassId} {Rr : va_W} {Q : Int32 → St → Prop} {a1 : Int32} {s0 : Int32} (E : CallFix p m c cX1_reckon 9 s args TB RX1) (hr : meth.sig.returnType = some .int) (hlk : meth.locks = false) (hf : wX1_reckon_j220 a1 s0 σ Q) (hI : In (D, tysC cy, SF z) (LC ad cy Rr σ) A s H locs) (hl : lv_has ls 9 [(1, .int a1)]) : W p l e (rmD 2) s m args below meth c H locs 0 0 (PI below args s (D, tysC cy, SF z) A (LC ad cy Rr) Q) (F0 m 220 ls [.int s0]) := by
  have hx := E.1
  have hb := E.2.1
  unfold wX1_reckon_j220 at hf
  refine lv_istore (lv' := [(7, .int s0), (1, .int a1)]) (pc := 220) hx hb dX1_reckon_220 hl (by decide) rfl (fun ls hl => ?_)
  refine lv_iload_n (pc := 222) hx hb dX1_reckon_222 rfl (lv_at hl 1 rfl) ?_
  refine lv_if_ne (tgt := 230) (pc := 223) hx hb dX1_reckon_223 (by decide) (fun c12 => ?_) (fun c12 => ?_)
  · have hf := hf.1 c12
    refine lv_bipush (v := (-99)) (pc := 230) hx hb dX1_reckon_230 rfl ?_
    exact bX1_reckon_232 E hr hlk hf hI (lv_sub hl [0] rfl)
  · have hf := hf.2 c12
    refine lv_iconst (v := 0) (pc := 226) hx hb dX1_reckon_226 rfl ?_
    refine lv_goto (tgt := 232) (pc := 227) hx hb dX1_reckon_227 (by decide) ?_
    exact bX1_reckon_232 E hr hlk hf hI (lv_sub hl [0] rfl)
def wX1_reckon_j199 (a1 : Int32) (q2 : Nat) (a3 : Int32) (q4 : Nat) (a5 : Int32) (a6 : Int32) (a7 : Int32) (σ : St) (K : Int32 → Nat → Int32 → Nat → Int32 → Int32 → Int32 → St → Prop) (Q : Int32 → St → Prop) : Prop := ∀ x18 : Int32, x18 = a7 + 1 → (K a1 q2 a3 q4 a5 a6 x18 σ)
set_option maxRecDepth 100000 in
set_option maxHeartbeats 4000000 in
theorem bX1_reckon_199 {p : Program} {l : Launch} {e : Env} {s : State} {m : MethodId} {args : Array Value} {below : List Frame} {meth : Method} {c : Code} {H : Heap} {locs : List Loc} {ls : Array Slot} {D : va_G} {z : Nat → Nat} {A : Nat → Prop} {σ : St} {ad : Nat → Nat → Nat} {cy : Nat → ClassId} {Rr : va_W} {Q : Int32 → St → Prop} {a1 : Int32} {q2 : Nat} {a3 : Int32} {q4 : Nat} {a5 : Int32} {a6 : Int32} {a7 : Int32} {K : Int32 → Nat → Int32 → Nat → Int32 → Int32 → Int32 → St → Prop} (E : CallFix p m c cX1_reckon 9 s args TB RX1) (hr : meth.sig.returnType = some .int) (hlk : meth.locks = false) (hq2 : kd q2 = 4) (hq4 : kd q4 = 3) (hK : ∀ (a1 : Int32) (q2 : Nat) (a3 : Int32) (q4 : Nat) (a5 : Int32) (a6 : Int32) (a7 : Int32) (_ : kd q2 = 4) (_ : kd q4 = 3) (σ : St) (H : Heap) (locs : List Loc) (ls : Array Slot), K a1 q2 a3 q4 a5 a6 a7 σ → In (D, tysC cy, SF z) (LC ad cy Rr σ) A s H locs → lv_has ls 9 [(0, .ref (ad 4 99)), (1, .int a1), (2, .ref (ad q2 99)), (3, .int a3), (4, .ref (ad q4 99)), (5, .int a5), (6, .int a6), (7, .int a7)] → W p l e (rmD 2) s m args below meth c H locs 0 0 (PI below args s (D, tysC cy, SF z) A (LC ad cy Rr) Q) (F0 m 58 ls [])) (hf : wX1_reckon_j199 a1 q2 a3 q4 a5 a6 a7 σ K Q) (hI : In (D, tysC cy, SF z) (LC ad cy Rr σ) A s H locs) (hl : lv_has ls 9 [(0, .ref (ad 4 99)), (1, .int a1), (2, .ref (ad q2 99)), (3, .int a3), (4, .ref (ad q4 99)), (5, .int a5), (6, .int a6), (7, .int a7)]) : W p l e (rmD 2) s m args below meth c H locs 0 0 (PI below args s (D, tysC cy, SF z) A (LC ad cy Rr) Q) (F0 m 199 ls []) := by
  have hx := E.1
  have hb := E.2.1
  unfold wX1_reckon_j199 at hf
  obtain ⟨x18, ex18⟩ : ∃ y : Int32, y = a7 + 1 := ⟨_, rfl⟩
  have hf := hf x18 ex18
  refine lv_iinc (v := x18) (lv' := [(7, .int x18), (0, .ref (ad 4 99)), (1, .int a1), (2, .ref (ad q2 99)), (3, .int a3), (4, .ref (ad q4 99)), (5, .int a5), (6, .int a6)]) (pc := 199) hx hb dX1_reckon_199 hl (k := 7) rfl (by rw [ex18]; rfl) (by decide) rfl (fun ls hl => ?_)
  refine lv_goto (tgt := 58) (pc := 202) hx hb dX1_reckon_202 (by decide) ?_
  exact hK _ _ _ _ _ _ _ hq2 hq4 _ _ _ _ hf hI (lv_sub hl [1, 2, 3, 4, 5, 6, 7, 0] rfl)
def wX1_reckon_j115 (a1 : Int32) (q2 : Nat) (a3 : Int32) (q4 : Nat) (a5 : Int32) (a6 : Int32) (a7 : Int32) (s1 : Int32) (s2 : Int32) (σ : St) (K : Int32 → Nat → Int32 → Nat → Int32 → Int32 → Int32 → St → Prop) (Q : Int32 → St → Prop) : Prop := vp_in s1 160 ∧ ∀ σ37 : St, σ37 = sA σ 4 2 s1.toNatClampNeg s2 → ∀ x38 : Int32, x38 = a5 + 1 → (wX1_reckon_j199 a1 q2 a3 q4 x38 a6 a7 σ37 K Q)
set_option maxRecDepth 100000 in
set_option maxHeartbeats 4000000 in
theorem bX1_reckon_115 {p : Program} {l : Launch} {e : Env} {s : State} {m : MethodId} {args : Array Value} {below : List Frame} {meth : Method} {c : Code} {H : Heap} {locs : List Loc} {ls : Array Slot} {D : va_G} {z : Nat → Nat} {A : Nat → Prop} {σ : St} {ad : Nat → Nat → Nat} {cy : Nat → ClassId} {Rr : va_W} {Q : Int32 → St → Prop} {a1 : Int32} {q2 : Nat} {a3 : Int32} {q4 : Nat} {a5 : Int32} {a6 : Int32} {a7 : Int32} {s1 : Int32} {s2 : Int32} {K : Int32 → Nat → Int32 → Nat → Int32 → Int32 → Int32 → St → Prop} (E : CallFix p m c cX1_reckon 9 s args TB RX1) (hr : meth.sig.returnType = some .int) (hlk : meth.locks = false) (hq2 : kd q2 = 4) (hq4 : kd q4 = 3) (hK : ∀ (a1 : Int32) (q2 : Nat) (a3 : Int32) (q4 : Nat) (a5 : Int32) (a6 : Int32) (a7 : Int32) (_ : kd q2 = 4) (_ : kd q4 = 3) (σ : St) (H : Heap) (locs : List Loc) (ls : Array Slot), K a1 q2 a3 q4 a5 a6 a7 σ → In (D, tysC cy, SF z) (LC ad cy Rr σ) A s H locs → lv_has ls 9 [(0, .ref (ad 4 99)), (1, .int a1), (2, .ref (ad q2 99)), (3, .int a3), (4, .ref (ad q4 99)), (5, .int a5), (6, .int a6), (7, .int a7)] → W p l e (rmD 2) s m args below meth c H locs 0 0 (PI below args s (D, tysC cy, SF z) A (LC ad cy Rr) Q) (F0 m 58 ls [])) (hf : wX1_reckon_j115 a1 q2 a3 q4 a5 a6 a7 s1 s2 σ K Q) (hI : In (D, tysC cy, SF z) (LC ad cy Rr σ) A s H locs) (hl : lv_has ls 9 [(0, .ref (ad 4 99)), (1, .int a1), (2, .ref (ad q2 99)), (3, .int a3), (4, .ref (ad q4 99)), (5, .int a5), (6, .int a6), (7, .int a7)]) : W p l e (rmD 2) s m args below meth c H locs 0 0 (PI below args s (D, tysC cy, SF z) A (LC ad cy Rr) Q) (F0 m 115 ls [.int s2, .int s1, .ref (ad 4 2)]) := by
  have hx := E.1
  have hb := E.2.1
  unfold wX1_reckon_j115 at hf
  have g36 := hf.1
  have hf := hf.2
  refine s1_2 (pc := 115) E hI rfl g36 dX1_reckon_115 (fun H locs σ37 eσ37 hI => ?_)
  have hf := hf σ37 eσ37
  obtain ⟨x38, ex38⟩ : ∃ y : Int32, y = a5 + 1 := ⟨_, rfl⟩
  have hf := hf x38 ex38
  refine lv_iinc (v := x38) (lv' := [(5, .int x38), (0, .ref (ad 4 99)), (1, .int a1), (2, .ref (ad q2 99)), (3, .int a3), (4, .ref (ad q4 99)), (6, .int a6), (7, .int a7)]) (pc := 116) hx hb dX1_reckon_116 hl (k := 5) rfl (by rw [ex38]; rfl) (by decide) rfl (fun ls hl => ?_)
  refine lv_goto (tgt := 199) (pc := 119) hx hb dX1_reckon_119 (by decide) ?_
  exact bX1_reckon_199 E hr hlk hq2 hq4 hK hf hI (lv_sub hl [1, 2, 3, 4, 5, 0, 6, 7] rfl)
def wX1_reckon_l58s (ih : Int32 → Nat → Int32 → Nat → Int32 → Int32 → Int32 → St → Prop) (a1 : Int32) (q2 : Nat) (a3 : Int32) (q4 : Nat) (a5 : Int32) (a6 : Int32) (a7 : Int32) (σ : St) (Q : Int32 → St → Prop) : Prop := ((a6 ≤ a7 → ((a5 ≤ 0 → (wX1_reckon_j220 a1 0 σ Q)) ∧ (¬ a5 ≤ 0 → (wX1_reckon_j220 a1 (gA σ 4 2 (0 : Int32).toNatClampNeg) σ Q)))) ∧ (¬ a6 ≤ a7 → vp_in a7 160 ∧ ∀ x14 : Int32, x14 = (gA σ q4 0 a7.toNatClampNeg) → ((x14 ≤ (-10) → ((x14 ≤ (-20) → ((a5 ≤ 1 → (wX1_reckon_j199 a1 q2 a3 q4 a5 a6 a7 σ ih Q)) ∧ (¬ a5 ≤ 1 → ∀ x19 : Int32, x19 = a5 + (-1) → vp_in (x19 - 1) 160 ∧ vp_in x19 160 ∧ wX1_ofTwo x14 (gA σ 4 2 (x19 - 1).toNatClampNeg) (gA σ 4 2 x19.toNatClampNeg) σ (fun r23 σ22 => vp_in (x19 - 1) 160 ∧ ∀ σ25 : St, σ25 = sA σ22 4 2 (x19 - 1).toNatClampNeg r23 → (wX1_reckon_j199 a1 q2 a3 q4 x19 a6 a7 σ25 ih Q))))) ∧ (¬ x14 ≤ (-20) → ((a5 ≤ 0 → (wX1_reckon_j199 a1 q2 a3 q4 a5 a6 a7 σ ih Q)) ∧ (¬ a5 ≤ 0 → vp_in (a5 - 1) 160 ∧ wX1_ofOne x14 (gA σ 4 2 (a5 - 1).toNatClampNeg) σ (fun r29 σ28 => vp_in (a5 - 1) 160 ∧ ∀ σ31 : St, σ31 = sA σ28 4 2 (a5 - 1).toNatClampNeg r29 → (wX1_reckon_j199 a1 q2 a3 q4 a5 a6 a7 σ31 ih Q))))))) ∧ (¬ x14 ≤ (-10) → ((160 ≤ a5 → (wX1_reckon_j199 a1 q2 a3 q4 a5 a6 a7 σ ih Q)) ∧ (¬ 160 ≤ a5 → ((x14 < 0 → wX1_named x14 q2 a3 σ (fun r35 σ34 => (wX1_reckon_j115 a1 q2 a3 q4 a5 a6 a7 a5 r35 σ34 ih Q))) ∧ (¬ x14 < 0 → (wX1_reckon_j115 a1 q2 a3 q4 a5 a6 a7 a5 x14 σ ih Q)))))))))
def wX1_reckon_l58 (n : Nat) : Int32 → Nat → Int32 → Nat → Int32 → Int32 → Int32 → St → (Int32 → St → Prop) → Prop := @Nat.rec (fun _ => Int32 → Nat → Int32 → Nat → Int32 → Int32 → Int32 → St → (Int32 → St → Prop) → Prop) (fun _ _ _ _ _ _ _ _ _ => False) (fun _ ih a1 q2 a3 q4 a5 a6 a7 σ Q => wX1_reckon_l58s (fun a1 q2 a3 q4 a5 a6 a7 σ => ih a1 q2 a3 q4 a5 a6 a7 σ Q) a1 q2 a3 q4 a5 a6 a7 σ Q) n
set_option maxRecDepth 100000 in
set_option maxHeartbeats 4000000 in
theorem bX1_reckon_58 {p : Program} {l : Launch} {e : Env} {s : State} {m : MethodId} {args : Array Value} {below : List Frame} {meth : Method} {c : Code} {D : va_G} {z : Nat → Nat} {A : Nat → Prop} {ad : Nat → Nat → Nat} {cy : Nat → ClassId} {Rr : va_W} {Q : Int32 → St → Prop} (E : CallFix p m c cX1_reckon 9 s args TB RX1) (hr : meth.sig.returnType = some .int) (hlk : meth.locks = false) : ∀ (n : Nat) {a1 : Int32} {q2 : Nat} {a3 : Int32} {q4 : Nat} {a5 : Int32} {a6 : Int32} {a7 : Int32} (hq2 : kd q2 = 4) (hq4 : kd q4 = 3) {σ : St} {H : Heap} {locs : List Loc} {ls : Array Slot}, wX1_reckon_l58 n a1 q2 a3 q4 a5 a6 a7 σ Q → In (D, tysC cy, SF z) (LC ad cy Rr σ) A s H locs → lv_has ls 9 [(0, .ref (ad 4 99)), (1, .int a1), (2, .ref (ad q2 99)), (3, .int a3), (4, .ref (ad q4 99)), (5, .int a5), (6, .int a6), (7, .int a7)] → W p l e (rmD 2) s m args below meth c H locs 0 0 (PI below args s (D, tysC cy, SF z) A (LC ad cy Rr) Q) (F0 m 58 ls []) := by
  have hx := E.1
  have hb := E.2.1
  intro n
  induction n with
  | zero => intro a1 q2 a3 q4 a5 a6 a7 hq2 hq4 σ H locs ls hf hI hl; exact False.elim hf
  | succ n ih =>
    intro a1 q2 a3 q4 a5 a6 a7 hq2 hq4 σ H locs ls hf hI hl
    have hf : wX1_reckon_l58s (fun a1 q2 a3 q4 a5 a6 a7 σ => wX1_reckon_l58 n a1 q2 a3 q4 a5 a6 a7 σ Q) a1 q2 a3 q4 a5 a6 a7 σ Q := hf
    unfold wX1_reckon_l58s at hf
    refine lv_iload (pc := 58) hx hb dX1_reckon_58 (lv_at hl 7 rfl) ?_
    refine lv_iload (pc := 60) hx hb dX1_reckon_60 (lv_at hl 6 rfl) ?_
    refine lv_icmp_ge (tgt := 205) (pc := 62) hx hb dX1_reckon_62 (by decide) (fun c10 => ?_) (fun c10 => ?_)
    · have hf := hf.1 c10
      refine lv_iload (pc := 205) hx hb dX1_reckon_205 (lv_at hl 5 rfl) ?_
      refine lv_if_le (tgt := 219) (pc := 207) hx hb dX1_reckon_207 (by decide) (fun c11 => ?_) (fun c11 => ?_)
      · have hf := hf.1 c11
        refine lv_iconst (v := 0) (pc := 219) hx hb dX1_reckon_219 rfl ?_
        exact bX1_reckon_220 E hr hlk hf hI (lv_sub hl [1] rfl)
      · have hf := hf.2 c11
        refine lv_aload_n (pc := 210) hx hb dX1_reckon_210 rfl (lv_at hl 0 rfl) ?_
        refine g1_2 (pc := 211) E hI rfl lkX1_21 dX1_reckon_211 ?_
        refine lv_iconst (v := 0) (pc := 214) hx hb dX1_reckon_214 rfl ?_
        refine a1_2 (pc := 215) E hI rfl (by unfold vp_in; decide) dX1_reckon_215 ?_
        refine lv_goto (tgt := 220) (pc := 216) hx hb dX1_reckon_216 (by decide) ?_
        exact bX1_reckon_220 E hr hlk hf hI (lv_sub hl [1] rfl)
    · have hf := hf.2 c10
      refine lv_aload (pc := 65) hx hb dX1_reckon_65 (lv_at hl 4 rfl) ?_
      refine g3_0 (pc := 67) E hI hq4 lkX1_106 dX1_reckon_67 ?_
      refine lv_iload (pc := 70) hx hb dX1_reckon_70 (lv_at hl 7 rfl) ?_
      have g13 := hf.1
      have hf := hf.2
      refine a3_0 (pc := 72) E hI hq4 g13 dX1_reckon_72 ?_
      refine lv_topi (fun x14 ex14 => ?_)
      have hf := hf x14 ex14
      refine lv_istore (lv' := [(8, .int x14), (0, .ref (ad 4 99)), (1, .int a1), (2, .ref (ad q2 99)), (3, .int a3), (4, .ref (ad q4 99)), (5, .int a5), (6, .int a6), (7, .int a7)]) (pc := 73) hx hb dX1_reckon_73 hl (by decide) rfl (fun ls hl => ?_)
      refine lv_iload (pc := 75) hx hb dX1_reckon_75 (lv_at hl 0 rfl) ?_
      refine lv_bipush (v := (-10)) (pc := 77) hx hb dX1_reckon_77 rfl ?_
      refine lv_icmp_le (tgt := 122) (pc := 79) hx hb dX1_reckon_79 (by decide) (fun c15 => ?_) (fun c15 => ?_)
      · have hf := hf.1 c15
        refine lv_iload (pc := 122) hx hb dX1_reckon_122 (lv_at hl 0 rfl) ?_
        refine lv_bipush (v := (-20)) (pc := 124) hx hb dX1_reckon_124 rfl ?_
        refine lv_icmp_le (tgt := 160) (pc := 126) hx hb dX1_reckon_126 (by decide) (fun c16 => ?_) (fun c16 => ?_)
        · have hf := hf.1 c16
          refine lv_iload (pc := 160) hx hb dX1_reckon_160 (lv_at hl 6 rfl) ?_
          refine lv_iconst (v := 1) (pc := 162) hx hb dX1_reckon_162 rfl ?_
          refine lv_icmp_le (tgt := 199) (pc := 163) hx hb dX1_reckon_163 (by decide) (fun c17 => ?_) (fun c17 => ?_)
          · have hf := hf.1 c17
            exact bX1_reckon_199 E hr hlk hq2 hq4 (fun _ _ _ _ _ _ _ hq2 hq4 _ _ _ _ hf hI hl => ih hq2 hq4 hf hI hl) hf hI (lv_sub hl [1, 2, 3, 4, 5, 6, 7, 8] rfl)
          · have hf := hf.2 c17
            obtain ⟨x19, ex19⟩ : ∃ y : Int32, y = a5 + (-1) := ⟨_, rfl⟩
            have hf := hf x19 ex19
            refine lv_iinc (v := x19) (lv' := [(5, .int x19), (8, .int x14), (0, .ref (ad 4 99)), (1, .int a1), (2, .ref (ad q2 99)), (3, .int a3), (4, .ref (ad q4 99)), (6, .int a6), (7, .int a7)]) (pc := 166) hx hb dX1_reckon_166 hl (k := 6) rfl (by rw [ex19]; rfl) (by decide) rfl (fun ls hl => ?_)
            refine lv_aload_n (pc := 169) hx hb dX1_reckon_169 rfl (lv_at hl 2 rfl) ?_
            refine g1_2 (pc := 170) E hI rfl lkX1_21 dX1_reckon_170 ?_
            refine lv_iload (pc := 173) hx hb dX1_reckon_173 (lv_at hl 0 rfl) ?_
            refine lv_iconst (v := 1) (pc := 175) hx hb dX1_reckon_175 rfl ?_
            refine lv_isub (pc := 176) hx hb dX1_reckon_176 ?_
            refine lv_iload (pc := 177) hx hb dX1_reckon_177 (lv_at hl 1 rfl) ?_
            refine lv_aload_n (pc := 179) hx hb dX1_reckon_179 rfl (lv_at hl 2 rfl) ?_
            refine g1_2 (pc := 180) E hI rfl lkX1_21 dX1_reckon_180 ?_
            refine lv_iload (pc := 183) hx hb dX1_reckon_183 (lv_at hl 0 rfl) ?_
            refine lv_iconst (v := 1) (pc := 185) hx hb dX1_reckon_185 rfl ?_
            refine lv_isub (pc := 186) hx hb dX1_reckon_186 ?_
            have g20 := hf.1
            have hf := hf.2
            refine a1_2 (pc := 187) E hI rfl g20 dX1_reckon_187 ?_
            refine lv_aload_n (pc := 188) hx hb dX1_reckon_188 rfl (lv_at hl 2 rfl) ?_
            refine g1_2 (pc := 189) E hI rfl lkX1_21 dX1_reckon_189 ?_
            refine lv_iload (pc := 192) hx hb dX1_reckon_192 (lv_at hl 0 rfl) ?_
            have g21 := hf.1
            have hf := hf.2
            refine a1_2 (pc := 194) E hI rfl g21 dX1_reckon_194 ?_
            refine callSI (G := (D, tysC cy, SF z)) (L := LC ad cy Rr) (pc := 195) (As := [.int x14, .int (gA σ 4 2 (x19 - 1).toNatClampNeg), .int (gA σ 4 2 x19.toNatClampNeg)]) (rest := [.int (x19 - 1), .ref (ad 4 2)]) stabSF E cs0 hl hI (tX1_ofTwo hf) mwX1_115 (fitD (by decide)) rfl rfl (Nat.le_of_ble_eq_true rfl) dX1_reckon_195 (fun r23 σ22 H locs hf hI => ?_)
            have g24 := hf.1
            have hf := hf.2
            refine s1_2 (pc := 198) E hI rfl g24 dX1_reckon_198 (fun H locs σ25 eσ25 hI => ?_)
            have hf := hf σ25 eσ25
            exact bX1_reckon_199 E hr hlk hq2 hq4 (fun _ _ _ _ _ _ _ hq2 hq4 _ _ _ _ hf hI hl => ih hq2 hq4 hf hI hl) hf hI (lv_sub hl [2, 3, 4, 5, 6, 0, 7, 8] rfl)
        · have hf := hf.2 c16
          refine lv_iload (pc := 129) hx hb dX1_reckon_129 (lv_at hl 6 rfl) ?_
          refine lv_if_le (tgt := 199) (pc := 131) hx hb dX1_reckon_131 (by decide) (fun c26 => ?_) (fun c26 => ?_)
          · have hf := hf.1 c26
            exact bX1_reckon_199 E hr hlk hq2 hq4 (fun _ _ _ _ _ _ _ hq2 hq4 _ _ _ _ hf hI hl => ih hq2 hq4 hf hI hl) hf hI (lv_sub hl [1, 2, 3, 4, 5, 6, 7, 8] rfl)
          · have hf := hf.2 c26
            refine lv_aload_n (pc := 134) hx hb dX1_reckon_134 rfl (lv_at hl 1 rfl) ?_
            refine g1_2 (pc := 135) E hI rfl lkX1_21 dX1_reckon_135 ?_
            refine lv_iload (pc := 138) hx hb dX1_reckon_138 (lv_at hl 6 rfl) ?_
            refine lv_iconst (v := 1) (pc := 140) hx hb dX1_reckon_140 rfl ?_
            refine lv_isub (pc := 141) hx hb dX1_reckon_141 ?_
            refine lv_iload (pc := 142) hx hb dX1_reckon_142 (lv_at hl 0 rfl) ?_
            refine lv_aload_n (pc := 144) hx hb dX1_reckon_144 rfl (lv_at hl 1 rfl) ?_
            refine g1_2 (pc := 145) E hI rfl lkX1_21 dX1_reckon_145 ?_
            refine lv_iload (pc := 148) hx hb dX1_reckon_148 (lv_at hl 6 rfl) ?_
            refine lv_iconst (v := 1) (pc := 150) hx hb dX1_reckon_150 rfl ?_
            refine lv_isub (pc := 151) hx hb dX1_reckon_151 ?_
            have g27 := hf.1
            have hf := hf.2
            refine a1_2 (pc := 152) E hI rfl g27 dX1_reckon_152 ?_
            refine callSI (G := (D, tysC cy, SF z)) (L := LC ad cy Rr) (pc := 153) (As := [.int x14, .int (gA σ 4 2 (a5 - 1).toNatClampNeg)]) (rest := [.int (a5 - 1), .ref (ad 4 2)]) stabSF E cs0 hl hI (tX1_ofOne hf) mwX1_112 (fitD (by decide)) rfl rfl (Nat.le_of_ble_eq_true rfl) dX1_reckon_153 (fun r29 σ28 H locs hf hI => ?_)
            have g30 := hf.1
            have hf := hf.2
            refine s1_2 (pc := 156) E hI rfl g30 dX1_reckon_156 (fun H locs σ31 eσ31 hI => ?_)
            have hf := hf σ31 eσ31
            refine lv_goto (tgt := 199) (pc := 157) hx hb dX1_reckon_157 (by decide) ?_
            exact bX1_reckon_199 E hr hlk hq2 hq4 (fun _ _ _ _ _ _ _ hq2 hq4 _ _ _ _ hf hI hl => ih hq2 hq4 hf hI hl) hf hI (lv_sub hl [1, 2, 3, 4, 5, 6, 7, 8] rfl)
      · have hf := hf.2 c15
        refine lv_iload (pc := 82) hx hb dX1_reckon_82 (lv_at hl 6 rfl) ?_
        refine lv_aload_n (pc := 84) hx hb dX1_reckon_84 rfl (lv_at hl 1 rfl) ?_
        refine g1_2 (pc := 85) E hI rfl lkX1_21 dX1_reckon_85 ?_
        refine n1_2 (pc := 88) E hI rfl dX1_reckon_88 ?_
        refine lv_icmp_ge (tgt := 199) (pc := 89) hx hb dX1_reckon_89 (by decide) (fun c32 => ?_) (fun c32 => ?_)
        · have hf := hf.1 c32
          exact bX1_reckon_199 E hr hlk hq2 hq4 (fun _ _ _ _ _ _ _ hq2 hq4 _ _ _ _ hf hI hl => ih hq2 hq4 hf hI hl) hf hI (lv_sub hl [1, 2, 3, 4, 5, 6, 7, 8] rfl)
        · have hf := hf.2 c32
          refine lv_aload_n (pc := 92) hx hb dX1_reckon_92 rfl (lv_at hl 1 rfl) ?_
          refine g1_2 (pc := 93) E hI rfl lkX1_21 dX1_reckon_93 ?_
          refine lv_iload (pc := 96) hx hb dX1_reckon_96 (lv_at hl 6 rfl) ?_
          refine lv_iload (pc := 98) hx hb dX1_reckon_98 (lv_at hl 0 rfl) ?_
          refine lv_if_lt (tgt := 108) (pc := 100) hx hb dX1_reckon_100 (by decide) (fun c33 => ?_) (fun c33 => ?_)
          · have hf := hf.1 c33
            refine lv_iload (pc := 108) hx hb dX1_reckon_108 (lv_at hl 0 rfl) ?_
            refine lv_aload_n (pc := 110) hx hb dX1_reckon_110 rfl (lv_at hl 3 rfl) ?_
            refine lv_iload_n (pc := 111) hx hb dX1_reckon_111 rfl (lv_at hl 4 rfl) ?_
            refine callSI (G := (D, tysC cy, SF z)) (L := LC ad cy Rr) (pc := 112) (As := [.int x14, .ref (ad q2 99), .int a3]) (rest := [.int a5, .ref (ad 4 2)]) stabSF E cs0 hl hI (tX1_named hq2 hf) mwX1_109 (fitD (by decide)) rfl rfl (Nat.le_of_ble_eq_true rfl) dX1_reckon_112 (fun r35 σ34 H locs hf hI => ?_)
            exact bX1_reckon_115 E hr hlk hq2 hq4 (fun _ _ _ _ _ _ _ hq2 hq4 _ _ _ _ hf hI hl => ih hq2 hq4 hf hI hl) hf hI (lv_sub hl [1, 2, 3, 4, 5, 6, 7, 8] rfl)
          · have hf := hf.2 c33
            refine lv_iload (pc := 103) hx hb dX1_reckon_103 (lv_at hl 0 rfl) ?_
            refine lv_goto (tgt := 115) (pc := 105) hx hb dX1_reckon_105 (by decide) ?_
            exact bX1_reckon_115 E hr hlk hq2 hq4 (fun _ _ _ _ _ _ _ hq2 hq4 _ _ _ _ hf hI hl => ih hq2 hq4 hf hI hl) hf hI (lv_sub hl [1, 2, 3, 4, 5, 6, 7, 8] rfl)
def wX1_reckon_j56 (a1 : Int32) (q2 : Nat) (a3 : Int32) (q4 : Nat) (a5 : Int32) (a6 : Int32) (s0 : Int32) (σ : St) (Q : Int32 → St → Prop) : Prop := ∃ n39 : Nat, wX1_reckon_l58 n39 a1 q2 a3 q4 a5 a6 s0 σ Q
set_option maxRecDepth 100000 in
set_option maxHeartbeats 4000000 in
theorem bX1_reckon_56 {p : Program} {l : Launch} {e : Env} {s : State} {m : MethodId} {args : Array Value} {below : List Frame} {meth : Method} {c : Code} {H : Heap} {locs : List Loc} {ls : Array Slot} {D : va_G} {z : Nat → Nat} {A : Nat → Prop} {σ : St} {ad : Nat → Nat → Nat} {cy : Nat → ClassId} {Rr : va_W} {Q : Int32 → St → Prop} {a1 : Int32} {q2 : Nat} {a3 : Int32} {q4 : Nat} {a5 : Int32} {a6 : Int32} {s0 : Int32} (E : CallFix p m c cX1_reckon 9 s args TB RX1) (hr : meth.sig.returnType = some .int) (hlk : meth.locks = false) (hq2 : kd q2 = 4) (hq4 : kd q4 = 3) (hf : wX1_reckon_j56 a1 q2 a3 q4 a5 a6 s0 σ Q) (hI : In (D, tysC cy, SF z) (LC ad cy Rr σ) A s H locs) (hl : lv_has ls 9 [(0, .ref (ad 4 99)), (1, .int a1), (2, .ref (ad q2 99)), (3, .int a3), (4, .ref (ad q4 99)), (5, .int a5), (6, .int a6)]) : W p l e (rmD 2) s m args below meth c H locs 0 0 (PI below args s (D, tysC cy, SF z) A (LC ad cy Rr) Q) (F0 m 56 ls [.int s0]) := by
  have hx := E.1
  have hb := E.2.1
  unfold wX1_reckon_j56 at hf
  refine lv_istore (lv' := [(7, .int s0), (0, .ref (ad 4 99)), (1, .int a1), (2, .ref (ad q2 99)), (3, .int a3), (4, .ref (ad q4 99)), (5, .int a5), (6, .int a6)]) (pc := 56) hx hb dX1_reckon_56 hl (by decide) rfl (fun ls hl => ?_)
  obtain ⟨n39, hf⟩ := hf
  exact bX1_reckon_58 E hr hlk n39 hq2 hq4 hf hI (lv_sub hl [1, 2, 3, 4, 5, 6, 7, 0] rfl)
def wX1_reckon (p1 : Int32) (ob : Nat) (p3 : Int32) (σ : St) (Q : Int32 → St → Prop) : Prop := wX5_isIn (gI σ ob 3) (gI σ 4 1) σ (fun r2 σ1 => ((¬ r2 = 0 → vp_in (gI σ1 ob 3) 6 ∧ ∀ o5 : Nat, o5 = 6 + (gI σ1 ob 3).toNatClampNeg → vp_in p1 3 ∧ ∀ x7 : Int32, x7 = (gA σ1 o5 1 p1.toNatClampNeg) → ((¬ p1 = 0 → vp_in (p1 - 1) 3 ∧ (wX1_reckon_j56 p1 ob p3 o5 0 x7 (gA σ1 o5 1 (p1 - 1).toNatClampNeg) σ1 Q)) ∧ (p1 = 0 → (wX1_reckon_j56 p1 ob p3 o5 0 x7 0 σ1 Q)))) ∧ (r2 = 0 → Q 0 σ1)))
set_option maxRecDepth 100000 in
set_option maxHeartbeats 4000000 in
theorem bX1_reckon {p : Program} {l : Launch} {e : Env} {s : State} {m : MethodId} {args : Array Value} {below : List Frame} {meth : Method} {c : Code} {H : Heap} {locs : List Loc} {ls : Array Slot} {D : va_G} {z : Nat → Nat} {A : Nat → Prop} {σ : St} {ad : Nat → Nat → Nat} {cy : Nat → ClassId} {Rr : va_W} {Q : Int32 → St → Prop} {p1 : Int32} {ob : Nat} {p3 : Int32} (E : CallFix p m c cX1_reckon 9 s args TB RX1) (hr : meth.sig.returnType = some .int) (hlk : meth.locks = false) (hob : kd ob = 4) (hf : wX1_reckon p1 ob p3 σ Q) (hI : In (D, tysC cy, SF z) (LC ad cy Rr σ) A s H locs) (hl : lv_has ls 9 [(0, .ref (ad 4 99)), (1, .int p1), (2, .ref (ad ob 99)), (3, .int p3)]) : W p l e (rmD 2) s m args below meth c H locs 0 0 (PI below args s (D, tysC cy, SF z) A (LC ad cy Rr) Q) (F0 m 0 ls []) := by
  have hx := E.1
  have hb := E.2.1
  unfold wX1_reckon at hf
  refine lv_aload_n (pc := 0) hx hb dX1_reckon_0 rfl (lv_at hl 2 rfl) ?_
  refine g4_3 (pc := 1) E hI hob lkX1_96 dX1_reckon_1 ?_
  refine lv_aload_n (pc := 4) hx hb dX1_reckon_4 rfl (lv_at hl 0 rfl) ?_
  refine g1_1 (pc := 5) E hI rfl lkX1_17 dX1_reckon_5 ?_
  refine callNI (G := (D, tysC cy, SF z)) (L := LC ad cy Rr) (pc := 8) (As := [.int (gI σ ob 3), .int (gI σ 4 1)]) (rest := []) stabSF E cs0 hl hI (tX5_isIn hf) nwIsIn hI.2.2.2.2.2.1.1 (fitD (by decide)) rfl rfl (Nat.le_of_ble_eq_true rfl) dX1_reckon_8 (fun r2 σ1 H locs hf hI => ?_)
  refine lv_if_ne (tgt := 16) (pc := 11) hx hb dX1_reckon_11 (by decide) (fun c3 => ?_) (fun c3 => ?_)
  · have hf := hf.1 c3
    refine lv_aload_n (pc := 16) hx hb dX1_reckon_16 rfl (lv_at hl 0 rfl) ?_
    refine g1_0 (pc := 17) E hI rfl lkX1_11 dX1_reckon_17 ?_
    refine lv_aload_n (pc := 20) hx hb dX1_reckon_20 rfl (lv_at hl 2 rfl) ?_
    refine g4_3 (pc := 21) E hI hob lkX1_96 dX1_reckon_21 ?_
    have g4 := hf.1
    have hf := hf.2
    refine a1_0n (pc := 24) E hI rfl g4 dX1_reckon_24 (fun o5 eo5 ho5 => ?_)
    have hf := hf o5 eo5
    refine lv_astore (lv' := [(4, .ref (ad o5 99)), (0, .ref (ad 4 99)), (1, .int p1), (2, .ref (ad ob 99)), (3, .int p3)]) (pc := 25) hx hb dX1_reckon_25 hl (by decide) rfl (fun ls hl => ?_)
    refine lv_iconst (v := 0) (pc := 27) hx hb dX1_reckon_27 rfl ?_
    refine lv_istore (lv' := [(5, .int 0), (4, .ref (ad o5 99)), (0, .ref (ad 4 99)), (1, .int p1), (2, .ref (ad ob 99)), (3, .int p3)]) (pc := 28) hx hb dX1_reckon_28 hl (by decide) rfl (fun ls hl => ?_)
    refine lv_aload (pc := 30) hx hb dX1_reckon_30 (lv_at hl 1 rfl) ?_
    refine g3_1 (pc := 32) E hI ho5 lkX1_103 dX1_reckon_32 ?_
    refine lv_iload_n (pc := 35) hx hb dX1_reckon_35 rfl (lv_at hl 3 rfl) ?_
    have g6 := hf.1
    have hf := hf.2
    refine a3_1 (pc := 36) E hI ho5 g6 dX1_reckon_36 ?_
    refine lv_topi (fun x7 ex7 => ?_)
    have hf := hf x7 ex7
    refine lv_istore (lv' := [(6, .int x7), (5, .int 0), (4, .ref (ad o5 99)), (0, .ref (ad 4 99)), (1, .int p1), (2, .ref (ad ob 99)), (3, .int p3)]) (pc := 37) hx hb dX1_reckon_37 hl (by decide) rfl (fun ls hl => ?_)
    refine lv_iload_n (pc := 39) hx hb dX1_reckon_39 rfl (lv_at hl 4 rfl) ?_
    refine lv_if_ne (tgt := 47) (pc := 40) hx hb dX1_reckon_40 (by decide) (fun c8 => ?_) (fun c8 => ?_)
    · have hf := hf.1 c8
      refine lv_aload (pc := 47) hx hb dX1_reckon_47 (lv_at hl 2 rfl) ?_
      refine g3_1 (pc := 49) E hI ho5 lkX1_103 dX1_reckon_49 ?_
      refine lv_iload_n (pc := 52) hx hb dX1_reckon_52 rfl (lv_at hl 4 rfl) ?_
      refine lv_iconst (v := 1) (pc := 53) hx hb dX1_reckon_53 rfl ?_
      refine lv_isub (pc := 54) hx hb dX1_reckon_54 ?_
      have g9 := hf.1
      have hf := hf.2
      refine a3_1 (pc := 55) E hI ho5 g9 dX1_reckon_55 ?_
      exact bX1_reckon_56 E hr hlk hob ho5 hf hI (lv_sub hl [3, 4, 5, 6, 2, 1, 0] rfl)
    · have hf := hf.2 c8
      refine lv_iconst (v := 0) (pc := 43) hx hb dX1_reckon_43 rfl ?_
      refine lv_goto (tgt := 56) (pc := 44) hx hb dX1_reckon_44 (by decide) ?_
      exact bX1_reckon_56 E hr hlk hob ho5 hf hI (lv_sub hl [3, 4, 5, 6, 2, 1, 0] rfl)
  · have hf := hf.2 c3
    refine lv_iconst (v := 0) (pc := 14) hx hb dX1_reckon_14 rfl ?_
    exact rI (pc := 15) E hr hlk hI hf dX1_reckon_15
theorem tX1_reckon {l : Launch} {D : va_G} {z : Nat → Nat} {σ : St} {ad : Nat → Nat → Nat} {cy : Nat → ClassId} {Rr : va_W} {Q : Int32 → St → Prop} {p1 : Int32} {ob : Nat} {p3 : Int32} (hob : kd ob = 4) (hf : wX1_reckon p1 ob p3 σ Q) : CtI l yX1_reckon cX1_reckon 9 .int 2 (D, tysC cy, SF z) (LC ad cy Rr) [.ref (ad 4 99), .int p1, .ref (ad ob 99), .int p3] σ Q := mkI (by decide) (Nat.le_of_ble_eq_true rfl) (fun p e s m below meth c A E hr hlk hI ls hl => bX1_reckon E hr hlk hob hf hI hl)
