def wX6_term0_l5s (ih : Int32 → St → Prop) (a1 : Int32) (σ : St) (Q : Int32 → St → Prop) : Prop := wX6_isSign 42 σ (fun r4 σ3 => ((r4 = 0 → Q a1 σ3) ∧ (¬ r4 = 0 → wX6_next σ3 (fun σ6 => wX6_atom0 σ6 (fun r8 σ7 => ∀ x9 : Int32, x9 = (a1 * r8) → (ih x9 σ7))))))
def wX6_term0_l5 (n : Nat) : Int32 → St → (Int32 → St → Prop) → Prop := @Nat.rec (fun _ => Int32 → St → (Int32 → St → Prop) → Prop) (fun _ _ _ => False) (fun _ ih a1 σ Q => wX6_term0_l5s (fun a1 σ => ih a1 σ Q) a1 σ Q) n
set_option maxRecDepth 100000 in
set_option maxHeartbeats 4000000 in
theorem bX6_term0_5 {p : Program} {l : Launch} {e : Env} {s : State} {m : MethodId} {args : Array Value} {below : List Frame} {meth : Method} {c : Code} {D : va_G} {F : (Nat → Prop) → State → Prop} {A : Nat → Prop} {ad : Nat → Nat → Nat} {cy : Nat → ClassId} {Rr : va_W} {Q : Int32 → St → Prop} (hF : Stab F) (E : CallFix p m c cX6_term0 2 s args TB RX6) (hr : meth.sig.returnType = some .int) (hlk : meth.locks = false) : ∀ (n : Nat) {a1 : Int32} {σ : St} {H : Heap} {locs : List Loc} {ls : Array Slot}, wX6_term0_l5 n a1 σ Q → In (D, tysM cy, F) (LM ad cy Rr σ) A s H locs → lv_has ls 2 [(0, .ref (ad 16 99)), (1, .int a1)] → W p l e (rmD 35) s m args below meth c H locs 0 0 (PI below args s (D, tysM cy, F) A (LM ad cy Rr) Q) (F0 m 5 ls []) := by
  have hx := E.1
  have hb := E.2.1
  intro n
  induction n with
  | zero => intro a1 σ H locs ls hf hI hl; exact False.elim hf
  | succ n ih =>
    intro a1 σ H locs ls hf hI hl
    have hf : wX6_term0_l5s (fun a1 σ => wX6_term0_l5 n a1 σ Q) a1 σ Q := hf
    unfold wX6_term0_l5s at hf
    refine lv_aload_n (pc := 5) hx hb dX6_term0_5 rfl (lv_at hl 0 rfl) ?_
    refine lv_bipush (v := 42) (pc := 6) hx hb dX6_term0_6 rfl ?_
    refine callVI (G := (D, tysM cy, F)) (L := LM ad cy Rr) (pc := 8) (As := [.int 42]) (rest := []) hF E cs0 hl hI (tX6_isSign hF hf) mwX6_222 (fitD (by decide)) (at6) rfl rfl rfl rfl (Nat.le_of_ble_eq_true rfl) dX6_term0_8 (fun r4 σ3 H locs hf hI => ?_)
    refine lv_if_eq (tgt := 28) (pc := 11) hx hb dX6_term0_11 (by decide) (fun c5 => ?_) (fun c5 => ?_)
    · have hf := hf.1 c5
      refine lv_iload_n (pc := 28) hx hb dX6_term0_28 rfl (lv_at hl 1 rfl) ?_
      exact rI (pc := 29) E hr hlk hI hf dX6_term0_29
    · have hf := hf.2 c5
      refine lv_aload_n (pc := 14) hx hb dX6_term0_14 rfl (lv_at hl 0 rfl) ?_
      refine callVV (G := (D, tysM cy, F)) (L := LM ad cy Rr) (pc := 15) (As := []) (rest := []) hF E cs0 hl hI (tX6_next hF hf) mwX6_197 (fitD (by decide)) (at6) rfl rfl rfl rfl (Nat.le_of_ble_eq_true rfl) dX6_term0_15 (fun σ6 H locs hf hI => ?_)
      refine lv_iload_n (pc := 18) hx hb dX6_term0_18 rfl (lv_at hl 1 rfl) ?_
      refine lv_aload_n (pc := 19) hx hb dX6_term0_19 rfl (lv_at hl 0 rfl) ?_
      refine callVI (G := (D, tysM cy, F)) (L := LM ad cy Rr) (pc := 20) (As := []) (rest := [.int a1]) hF E cs0 hl hI (tX6_atom0 hF hf) mwX6_327 (fitD (by decide)) (at6) rfl rfl rfl rfl (Nat.le_of_ble_eq_true rfl) dX6_term0_20 (fun r8 σ7 H locs hf hI => ?_)
      refine lv_imul (pc := 23) hx hb dX6_term0_23 ?_
      refine lv_topi (fun x9 ex9 => ?_)
      have hf := hf x9 ex9
      refine lv_istore_n (lv' := [(1, .int x9), (0, .ref (ad 16 99))]) (pc := 24) hx hb dX6_term0_24 rfl hl (by decide) rfl (fun ls hl => ?_)
      refine lv_goto (tgt := 5) (pc := 25) hx hb dX6_term0_25 (by decide) ?_
      exact ih hf hI (lv_sub hl [1, 0] rfl)
def wX6_term0 (σ : St) (Q : Int32 → St → Prop) : Prop := wX6_atom0 σ (fun r2 σ1 => ∃ n10 : Nat, wX6_term0_l5 n10 r2 σ1 Q)
set_option maxRecDepth 100000 in
set_option maxHeartbeats 4000000 in
theorem bX6_term0 {p : Program} {l : Launch} {e : Env} {s : State} {m : MethodId} {args : Array Value} {below : List Frame} {meth : Method} {c : Code} {H : Heap} {locs : List Loc} {ls : Array Slot} {D : va_G} {F : (Nat → Prop) → State → Prop} {A : Nat → Prop} {σ : St} {ad : Nat → Nat → Nat} {cy : Nat → ClassId} {Rr : va_W} {Q : Int32 → St → Prop} (hF : Stab F) (E : CallFix p m c cX6_term0 2 s args TB RX6) (hr : meth.sig.returnType = some .int) (hlk : meth.locks = false) (hf : wX6_term0 σ Q) (hI : In (D, tysM cy, F) (LM ad cy Rr σ) A s H locs) (hl : lv_has ls 2 [(0, .ref (ad 16 99))]) : W p l e (rmD 35) s m args below meth c H locs 0 0 (PI below args s (D, tysM cy, F) A (LM ad cy Rr) Q) (F0 m 0 ls []) := by
  have hx := E.1
  have hb := E.2.1
  unfold wX6_term0 at hf
  refine lv_aload_n (pc := 0) hx hb dX6_term0_0 rfl (lv_at hl 0 rfl) ?_
  refine callVI (G := (D, tysM cy, F)) (L := LM ad cy Rr) (pc := 1) (As := []) (rest := []) hF E cs0 hl hI (tX6_atom0 hF hf) mwX6_327 (fitD (by decide)) (at6) rfl rfl rfl rfl (Nat.le_of_ble_eq_true rfl) dX6_term0_1 (fun r2 σ1 H locs hf hI => ?_)
  refine lv_istore_n (lv' := [(1, .int r2), (0, .ref (ad 16 99))]) (pc := 4) hx hb dX6_term0_4 rfl hl (by decide) rfl (fun ls hl => ?_)
  obtain ⟨n10, hf⟩ := hf
  exact bX6_term0_5 hF E hr hlk n10 hf hI (lv_sub hl [1, 0] rfl)
theorem tX6_term0 {l : Launch} {D : va_G} {F : (Nat → Prop) → State → Prop} {σ : St} {ad : Nat → Nat → Nat} {cy : Nat → ClassId} {Rr : va_W} {Q : Int32 → St → Prop} (hF : Stab F) (hf : wX6_term0 σ Q) : CtI l yX6_term0 cX6_term0 2 .int 35 (D, tysM cy, F) (LM ad cy Rr) [.ref (ad 16 99)] σ Q := mkI (by decide) (Nat.le_of_ble_eq_true rfl) (fun p e s m below meth c A E hr hlk hI ls hl => bX6_term0 hF E hr hlk hf hI hl)

def wX6_added0_j62 (s0 : Int32) (σ : St) (K : Int32 → St → Prop) (Q : Int32 → St → Prop) : Prop := (K s0 σ)
set_option maxRecDepth 100000 in
set_option maxHeartbeats 4000000 in
theorem bX6_added0_62 {p : Program} {l : Launch} {e : Env} {s : State} {m : MethodId} {args : Array Value} {below : List Frame} {meth : Method} {c : Code} {H : Heap} {locs : List Loc} {ls : Array Slot} {D : va_G} {F : (Nat → Prop) → State → Prop} {A : Nat → Prop} {σ : St} {ad : Nat → Nat → Nat} {cy : Nat → ClassId} {Rr : va_W} {Q : Int32 → St → Prop} {s0 : Int32} {K : Int32 → St → Prop} (hF : Stab F) (E : CallFix p m c cX6_added0 4 s args TB RX6) (hr : meth.sig.returnType = some .int) (hlk : meth.locks = false) (hK : ∀ (a1 : Int32) (σ : St) (H : Heap) (locs : List Loc) (ls : Array Slot), K a1 σ → In (D, tysM cy, F) (LM ad cy Rr σ) A s H locs → lv_has ls 4 [(0, .ref (ad 16 99)), (1, .int a1)] → W p l e (rmD 36) s m args below meth c H locs 0 0 (PI below args s (D, tysM cy, F) A (LM ad cy Rr) Q) (F0 m 5 ls [])) (hf : wX6_added0_j62 s0 σ K Q) (hI : In (D, tysM cy, F) (LM ad cy Rr σ) A s H locs) (hl : lv_has ls 4 [(0, .ref (ad 16 99))]) : W p l e (rmD 36) s m args below meth c H locs 0 0 (PI below args s (D, tysM cy, F) A (LM ad cy Rr) Q) (F0 m 62 ls [.int s0]) := by
  have hx := E.1
  have hb := E.2.1
  unfold wX6_added0_j62 at hf
  refine lv_istore_n (lv' := [(1, .int s0), (0, .ref (ad 16 99))]) (pc := 62) hx hb dX6_added0_62 rfl hl (by decide) rfl (fun ls hl => ?_)
  refine lv_goto (tgt := 5) (pc := 63) hx hb dX6_added0_63 (by decide) ?_
  exact hK _ _ _ _ _ hf hI (lv_sub hl [1, 0] rfl)
def wX6_added0_j39 (a1 : Int32) (s0 : Int32) (σ : St) (K : Int32 → St → Prop) (Q : Int32 → St → Prop) : Prop := wX6_next σ (fun σ7 => wX6_term0 σ7 (fun r9 σ8 => ((s0 = 0 → (wX6_added0_j62 (a1 - r9) σ8 K Q)) ∧ (¬ s0 = 0 → (wX6_added0_j62 (a1 + r9) σ8 K Q)))))
set_option maxRecDepth 100000 in
set_option maxHeartbeats 4000000 in
theorem bX6_added0_39 {p : Program} {l : Launch} {e : Env} {s : State} {m : MethodId} {args : Array Value} {below : List Frame} {meth : Method} {c : Code} {H : Heap} {locs : List Loc} {ls : Array Slot} {D : va_G} {F : (Nat → Prop) → State → Prop} {A : Nat → Prop} {σ : St} {ad : Nat → Nat → Nat} {cy : Nat → ClassId} {Rr : va_W} {Q : Int32 → St → Prop} {a1 : Int32} {s0 : Int32} {K : Int32 → St → Prop} (hF : Stab F) (E : CallFix p m c cX6_added0 4 s args TB RX6) (hr : meth.sig.returnType = some .int) (hlk : meth.locks = false) (hK : ∀ (a1 : Int32) (σ : St) (H : Heap) (locs : List Loc) (ls : Array Slot), K a1 σ → In (D, tysM cy, F) (LM ad cy Rr σ) A s H locs → lv_has ls 4 [(0, .ref (ad 16 99)), (1, .int a1)] → W p l e (rmD 36) s m args below meth c H locs 0 0 (PI below args s (D, tysM cy, F) A (LM ad cy Rr) Q) (F0 m 5 ls [])) (hf : wX6_added0_j39 a1 s0 σ K Q) (hI : In (D, tysM cy, F) (LM ad cy Rr σ) A s H locs) (hl : lv_has ls 4 [(0, .ref (ad 16 99)), (1, .int a1)]) : W p l e (rmD 36) s m args below meth c H locs 0 0 (PI below args s (D, tysM cy, F) A (LM ad cy Rr) Q) (F0 m 39 ls [.int s0]) := by
  have hx := E.1
  have hb := E.2.1
  unfold wX6_added0_j39 at hf
  refine lv_istore_n (lv' := [(2, .int s0), (0, .ref (ad 16 99)), (1, .int a1)]) (pc := 39) hx hb dX6_added0_39 rfl hl (by decide) rfl (fun ls hl => ?_)
  refine lv_aload_n (pc := 40) hx hb dX6_added0_40 rfl (lv_at hl 1 rfl) ?_
  refine callVV (G := (D, tysM cy, F)) (L := LM ad cy Rr) (pc := 41) (As := []) (rest := []) hF E cs0 hl hI (tX6_next hF hf) mwX6_197 (fitD (by decide)) (at6) rfl rfl rfl rfl (Nat.le_of_ble_eq_true rfl) dX6_added0_41 (fun σ7 H locs hf hI => ?_)
  refine lv_aload_n (pc := 44) hx hb dX6_added0_44 rfl (lv_at hl 1 rfl) ?_
  refine callVI (G := (D, tysM cy, F)) (L := LM ad cy Rr) (pc := 45) (As := []) (rest := []) hF E cs0 hl hI (tX6_term0 hF hf) mwX6_330 (fitD (by decide)) (at6) rfl rfl rfl rfl (Nat.le_of_ble_eq_true rfl) dX6_added0_45 (fun r9 σ8 H locs hf hI => ?_)
  refine lv_istore_n (lv' := [(3, .int r9), (2, .int s0), (0, .ref (ad 16 99)), (1, .int a1)]) (pc := 48) hx hb dX6_added0_48 rfl hl (by decide) rfl (fun ls hl => ?_)
  refine lv_iload_n (pc := 49) hx hb dX6_added0_49 rfl (lv_at hl 1 rfl) ?_
  refine lv_if_eq (tgt := 59) (pc := 50) hx hb dX6_added0_50 (by decide) (fun c10 => ?_) (fun c10 => ?_)
  · have hf := hf.1 c10
    refine lv_iload_n (pc := 59) hx hb dX6_added0_59 rfl (lv_at hl 3 rfl) ?_
    refine lv_iload_n (pc := 60) hx hb dX6_added0_60 rfl (lv_at hl 0 rfl) ?_
    refine lv_isub (pc := 61) hx hb dX6_added0_61 ?_
    exact bX6_added0_62 hF E hr hlk hK hf hI (lv_sub hl [2] rfl)
  · have hf := hf.2 c10
    refine lv_iload_n (pc := 53) hx hb dX6_added0_53 rfl (lv_at hl 3 rfl) ?_
    refine lv_iload_n (pc := 54) hx hb dX6_added0_54 rfl (lv_at hl 0 rfl) ?_
    refine lv_iadd (pc := 55) hx hb dX6_added0_55 ?_
    refine lv_goto (tgt := 62) (pc := 56) hx hb dX6_added0_56 (by decide) ?_
    exact bX6_added0_62 hF E hr hlk hK hf hI (lv_sub hl [2] rfl)
def wX6_added0_j23 (a1 : Int32) (σ : St) (K : Int32 → St → Prop) (Q : Int32 → St → Prop) : Prop := ((¬ (lg_cmp (gJ σ 16 25) 43) = 0 → (wX6_added0_j39 a1 0 σ K Q)) ∧ ((lg_cmp (gJ σ 16 25) 43) = 0 → (wX6_added0_j39 a1 1 σ K Q)))
set_option maxRecDepth 100000 in
set_option maxHeartbeats 4000000 in
theorem bX6_added0_23 {p : Program} {l : Launch} {e : Env} {s : State} {m : MethodId} {args : Array Value} {below : List Frame} {meth : Method} {c : Code} {H : Heap} {locs : List Loc} {ls : Array Slot} {D : va_G} {F : (Nat → Prop) → State → Prop} {A : Nat → Prop} {σ : St} {ad : Nat → Nat → Nat} {cy : Nat → ClassId} {Rr : va_W} {Q : Int32 → St → Prop} {a1 : Int32} {K : Int32 → St → Prop} (hF : Stab F) (E : CallFix p m c cX6_added0 4 s args TB RX6) (hr : meth.sig.returnType = some .int) (hlk : meth.locks = false) (hK : ∀ (a1 : Int32) (σ : St) (H : Heap) (locs : List Loc) (ls : Array Slot), K a1 σ → In (D, tysM cy, F) (LM ad cy Rr σ) A s H locs → lv_has ls 4 [(0, .ref (ad 16 99)), (1, .int a1)] → W p l e (rmD 36) s m args below meth c H locs 0 0 (PI below args s (D, tysM cy, F) A (LM ad cy Rr) Q) (F0 m 5 ls [])) (hf : wX6_added0_j23 a1 σ K Q) (hI : In (D, tysM cy, F) (LM ad cy Rr σ) A s H locs) (hl : lv_has ls 4 [(0, .ref (ad 16 99)), (1, .int a1)]) : W p l e (rmD 36) s m args below meth c H locs 0 0 (PI below args s (D, tysM cy, F) A (LM ad cy Rr) Q) (F0 m 23 ls []) := by
  have hx := E.1
  have hb := E.2.1
  unfold wX6_added0_j23 at hf
  refine lv_aload_n (pc := 23) hx hb dX6_added0_23 rfl (lv_at hl 0 rfl) ?_
  refine g6_25 (pc := 24) E hI lkX6_176 dX6_added0_24 ?_
  refine lv_ldc2 (pc := 27) E.1 E.2.1 E.2.2.2.1 (E.2.2.2.2 _ kcX6_239) dX6_added0_27 ?_
  refine W.lcmp (pc := 30) hx hb dX6_added0_30 ?_
  refine lv_if_ne (tgt := 38) (pc := 31) hx hb dX6_added0_31 (by decide) (fun c6 => ?_) (fun c6 => ?_)
  · have hf := hf.1 c6
    refine lv_iconst (v := 0) (pc := 38) hx hb dX6_added0_38 rfl ?_
    exact bX6_added0_39 hF E hr hlk hK hf hI (lv_sub hl [0, 1] rfl)
  · have hf := hf.2 c6
    refine lv_iconst (v := 1) (pc := 34) hx hb dX6_added0_34 rfl ?_
    refine lv_goto (tgt := 39) (pc := 35) hx hb dX6_added0_35 (by decide) ?_
    exact bX6_added0_39 hF E hr hlk hK hf hI (lv_sub hl [0, 1] rfl)
def wX6_added0_l5s (ih : Int32 → St → Prop) (a1 : Int32) (σ : St) (Q : Int32 → St → Prop) : Prop := wX6_isSign 43 σ (fun r4 σ3 => ((¬ r4 = 0 → (wX6_added0_j23 a1 σ3 ih Q)) ∧ (r4 = 0 → wX6_isSign 45 σ3 (fun r12 σ11 => ((r12 = 0 → Q a1 σ11) ∧ (¬ r12 = 0 → (wX6_added0_j23 a1 σ11 ih Q)))))))
def wX6_added0_l5 (n : Nat) : Int32 → St → (Int32 → St → Prop) → Prop := @Nat.rec (fun _ => Int32 → St → (Int32 → St → Prop) → Prop) (fun _ _ _ => False) (fun _ ih a1 σ Q => wX6_added0_l5s (fun a1 σ => ih a1 σ Q) a1 σ Q) n
set_option maxRecDepth 100000 in
set_option maxHeartbeats 4000000 in
theorem bX6_added0_5 {p : Program} {l : Launch} {e : Env} {s : State} {m : MethodId} {args : Array Value} {below : List Frame} {meth : Method} {c : Code} {D : va_G} {F : (Nat → Prop) → State → Prop} {A : Nat → Prop} {ad : Nat → Nat → Nat} {cy : Nat → ClassId} {Rr : va_W} {Q : Int32 → St → Prop} (hF : Stab F) (E : CallFix p m c cX6_added0 4 s args TB RX6) (hr : meth.sig.returnType = some .int) (hlk : meth.locks = false) : ∀ (n : Nat) {a1 : Int32} {σ : St} {H : Heap} {locs : List Loc} {ls : Array Slot}, wX6_added0_l5 n a1 σ Q → In (D, tysM cy, F) (LM ad cy Rr σ) A s H locs → lv_has ls 4 [(0, .ref (ad 16 99)), (1, .int a1)] → W p l e (rmD 36) s m args below meth c H locs 0 0 (PI below args s (D, tysM cy, F) A (LM ad cy Rr) Q) (F0 m 5 ls []) := by
  have hx := E.1
  have hb := E.2.1
  intro n
  induction n with
  | zero => intro a1 σ H locs ls hf hI hl; exact False.elim hf
  | succ n ih =>
    intro a1 σ H locs ls hf hI hl
    have hf : wX6_added0_l5s (fun a1 σ => wX6_added0_l5 n a1 σ Q) a1 σ Q := hf
    unfold wX6_added0_l5s at hf
    refine lv_aload_n (pc := 5) hx hb dX6_added0_5 rfl (lv_at hl 0 rfl) ?_
    refine lv_bipush (v := 43) (pc := 6) hx hb dX6_added0_6 rfl ?_
    refine callVI (G := (D, tysM cy, F)) (L := LM ad cy Rr) (pc := 8) (As := [.int 43]) (rest := []) hF E cs0 hl hI (tX6_isSign hF hf) mwX6_222 (fitD (by decide)) (at6) rfl rfl rfl rfl (Nat.le_of_ble_eq_true rfl) dX6_added0_8 (fun r4 σ3 H locs hf hI => ?_)
    refine lv_if_ne (tgt := 23) (pc := 11) hx hb dX6_added0_11 (by decide) (fun c5 => ?_) (fun c5 => ?_)
    · have hf := hf.1 c5
      exact bX6_added0_23 hF E hr hlk (fun _ _ _ _ _ hf hI hl => ih hf hI hl) hf hI (lv_sub hl [0, 1] rfl)
    · have hf := hf.2 c5
      refine lv_aload_n (pc := 14) hx hb dX6_added0_14 rfl (lv_at hl 0 rfl) ?_
      refine lv_bipush (v := 45) (pc := 15) hx hb dX6_added0_15 rfl ?_
      refine callVI (G := (D, tysM cy, F)) (L := LM ad cy Rr) (pc := 17) (As := [.int 45]) (rest := []) hF E cs0 hl hI (tX6_isSign hF hf) mwX6_222 (fitD (by decide)) (at6) rfl rfl rfl rfl (Nat.le_of_ble_eq_true rfl) dX6_added0_17 (fun r12 σ11 H locs hf hI => ?_)
      refine lv_if_eq (tgt := 66) (pc := 20) hx hb dX6_added0_20 (by decide) (fun c13 => ?_) (fun c13 => ?_)
      · have hf := hf.1 c13
        refine lv_iload_n (pc := 66) hx hb dX6_added0_66 rfl (lv_at hl 1 rfl) ?_
        exact rI (pc := 67) E hr hlk hI hf dX6_added0_67
      · have hf := hf.2 c13
        exact bX6_added0_23 hF E hr hlk (fun _ _ _ _ _ hf hI hl => ih hf hI hl) hf hI (lv_sub hl [0, 1] rfl)
def wX6_added0 (σ : St) (Q : Int32 → St → Prop) : Prop := wX6_term0 σ (fun r2 σ1 => ∃ n14 : Nat, wX6_added0_l5 n14 r2 σ1 Q)
set_option maxRecDepth 100000 in
set_option maxHeartbeats 4000000 in
theorem bX6_added0 {p : Program} {l : Launch} {e : Env} {s : State} {m : MethodId} {args : Array Value} {below : List Frame} {meth : Method} {c : Code} {H : Heap} {locs : List Loc} {ls : Array Slot} {D : va_G} {F : (Nat → Prop) → State → Prop} {A : Nat → Prop} {σ : St} {ad : Nat → Nat → Nat} {cy : Nat → ClassId} {Rr : va_W} {Q : Int32 → St → Prop} (hF : Stab F) (E : CallFix p m c cX6_added0 4 s args TB RX6) (hr : meth.sig.returnType = some .int) (hlk : meth.locks = false) (hf : wX6_added0 σ Q) (hI : In (D, tysM cy, F) (LM ad cy Rr σ) A s H locs) (hl : lv_has ls 4 [(0, .ref (ad 16 99))]) : W p l e (rmD 36) s m args below meth c H locs 0 0 (PI below args s (D, tysM cy, F) A (LM ad cy Rr) Q) (F0 m 0 ls []) := by
  have hx := E.1
  have hb := E.2.1
  unfold wX6_added0 at hf
  refine lv_aload_n (pc := 0) hx hb dX6_added0_0 rfl (lv_at hl 0 rfl) ?_
  refine callVI (G := (D, tysM cy, F)) (L := LM ad cy Rr) (pc := 1) (As := []) (rest := []) hF E cs0 hl hI (tX6_term0 hF hf) mwX6_330 (fitD (by decide)) (at6) rfl rfl rfl rfl (Nat.le_of_ble_eq_true rfl) dX6_added0_1 (fun r2 σ1 H locs hf hI => ?_)
  refine lv_istore_n (lv' := [(1, .int r2), (0, .ref (ad 16 99))]) (pc := 4) hx hb dX6_added0_4 rfl hl (by decide) rfl (fun ls hl => ?_)
  obtain ⟨n14, hf⟩ := hf
  exact bX6_added0_5 hF E hr hlk n14 hf hI (lv_sub hl [1, 0] rfl)
theorem tX6_added0 {l : Launch} {D : va_G} {F : (Nat → Prop) → State → Prop} {σ : St} {ad : Nat → Nat → Nat} {cy : Nat → ClassId} {Rr : va_W} {Q : Int32 → St → Prop} (hF : Stab F) (hf : wX6_added0 σ Q) : CtI l yX6_added0 cX6_added0 4 .int 36 (D, tysM cy, F) (LM ad cy Rr) [.ref (ad 16 99)] σ Q := mkI (by decide) (Nat.le_of_ble_eq_true rfl) (fun p e s m below meth c A E hr hlk hI ls hl => bX6_added0 hF E hr hlk hf hI hl)

def wX6_not0_j93 (a1 : Int32) (s0 : Int32) (σ : St) (Q : Int32 → St → Prop) : Prop := wX6_next σ (fun σ10 => wX6_added0 σ10 (fun r12 σ11 => ((s0 = 0 → ((¬ a1 = r12 → Q 0 σ11) ∧ (a1 = r12 → Q 1 σ11))) ∧ (¬ s0 = 0 → ((r12 ≤ a1 → Q 0 σ11) ∧ (¬ r12 ≤ a1 → Q 1 σ11))))))
set_option maxRecDepth 100000 in
set_option maxHeartbeats 4000000 in
theorem bX6_not0_93 {p : Program} {l : Launch} {e : Env} {s : State} {m : MethodId} {args : Array Value} {below : List Frame} {meth : Method} {c : Code} {H : Heap} {locs : List Loc} {ls : Array Slot} {D : va_G} {F : (Nat → Prop) → State → Prop} {A : Nat → Prop} {σ : St} {ad : Nat → Nat → Nat} {cy : Nat → ClassId} {Rr : va_W} {Q : Int32 → St → Prop} {a1 : Int32} {s0 : Int32} (hF : Stab F) (E : CallFix p m c cX6_not0 4 s args TB RX6) (hr : meth.sig.returnType = some .int) (hlk : meth.locks = false) (hf : wX6_not0_j93 a1 s0 σ Q) (hI : In (D, tysM cy, F) (LM ad cy Rr σ) A s H locs) (hl : lv_has ls 4 [(0, .ref (ad 16 99)), (1, .int a1)]) : W p l e (rmD 37) s m args below meth c H locs 0 0 (PI below args s (D, tysM cy, F) A (LM ad cy Rr) Q) (F0 m 93 ls [.int s0]) := by
  have hx := E.1
  have hb := E.2.1
  unfold wX6_not0_j93 at hf
  refine lv_istore_n (lv' := [(2, .int s0), (0, .ref (ad 16 99)), (1, .int a1)]) (pc := 93) hx hb dX6_not0_93 rfl hl (by decide) rfl (fun ls hl => ?_)
  refine lv_aload_n (pc := 94) hx hb dX6_not0_94 rfl (lv_at hl 1 rfl) ?_
  refine callVV (G := (D, tysM cy, F)) (L := LM ad cy Rr) (pc := 95) (As := []) (rest := []) hF E cs0 hl hI (tX6_next hF hf) mwX6_197 (fitD (by decide)) (at6) rfl rfl rfl rfl (Nat.le_of_ble_eq_true rfl) dX6_not0_95 (fun σ10 H locs hf hI => ?_)
  refine lv_aload_n (pc := 98) hx hb dX6_not0_98 rfl (lv_at hl 1 rfl) ?_
  refine callVI (G := (D, tysM cy, F)) (L := LM ad cy Rr) (pc := 99) (As := []) (rest := []) hF E cs0 hl hI (tX6_added0 hF hf) mwX6_333 (fitD (by decide)) (at6) rfl rfl rfl rfl (Nat.le_of_ble_eq_true rfl) dX6_not0_99 (fun r12 σ11 H locs hf hI => ?_)
  refine lv_istore_n (lv' := [(3, .int r12), (2, .int s0), (0, .ref (ad 16 99)), (1, .int a1)]) (pc := 102) hx hb dX6_not0_102 rfl hl (by decide) rfl (fun ls hl => ?_)
  refine lv_iload_n (pc := 103) hx hb dX6_not0_103 rfl (lv_at hl 1 rfl) ?_
  refine lv_if_eq (tgt := 115) (pc := 104) hx hb dX6_not0_104 (by decide) (fun c13 => ?_) (fun c13 => ?_)
  · have hf := hf.1 c13
    refine lv_iload_n (pc := 115) hx hb dX6_not0_115 rfl (lv_at hl 3 rfl) ?_
    refine lv_iload_n (pc := 116) hx hb dX6_not0_116 rfl (lv_at hl 0 rfl) ?_
    refine lv_icmp_ne (tgt := 124) (pc := 117) hx hb dX6_not0_117 (by decide) (fun c14 => ?_) (fun c14 => ?_)
    · have hf := hf.1 c14
      refine lv_iconst (v := 0) (pc := 124) hx hb dX6_not0_124 rfl ?_
      exact rI (pc := 125) E hr hlk hI hf dX6_not0_125
    · have hf := hf.2 c14
      refine lv_iconst (v := 1) (pc := 120) hx hb dX6_not0_120 rfl ?_
      refine lv_goto (tgt := 125) (pc := 121) hx hb dX6_not0_121 (by decide) ?_
      exact rI (pc := 125) E hr hlk hI hf dX6_not0_125
  · have hf := hf.2 c13
    refine lv_iload_n (pc := 107) hx hb dX6_not0_107 rfl (lv_at hl 3 rfl) ?_
    refine lv_iload_n (pc := 108) hx hb dX6_not0_108 rfl (lv_at hl 0 rfl) ?_
    refine lv_icmp_ge (tgt := 124) (pc := 109) hx hb dX6_not0_109 (by decide) (fun c15 => ?_) (fun c15 => ?_)
    · have hf := hf.1 c15
      refine lv_iconst (v := 0) (pc := 124) hx hb dX6_not0_124 rfl ?_
      exact rI (pc := 125) E hr hlk hI hf dX6_not0_125
    · have hf := hf.2 c15
      refine lv_goto (tgt := 120) (pc := 112) hx hb dX6_not0_112 (by decide) ?_
      refine lv_iconst (v := 1) (pc := 120) hx hb dX6_not0_120 rfl ?_
      refine lv_goto (tgt := 125) (pc := 121) hx hb dX6_not0_121 (by decide) ?_
      exact rI (pc := 125) E hr hlk hI hf dX6_not0_125
def wX6_not0_j77 (a1 : Int32) (σ : St) (Q : Int32 → St → Prop) : Prop := ((¬ (lg_cmp (gJ σ 16 25) 60) = 0 → (wX6_not0_j93 a1 0 σ Q)) ∧ ((lg_cmp (gJ σ 16 25) 60) = 0 → (wX6_not0_j93 a1 1 σ Q)))
set_option maxRecDepth 100000 in
set_option maxHeartbeats 4000000 in
theorem bX6_not0_77 {p : Program} {l : Launch} {e : Env} {s : State} {m : MethodId} {args : Array Value} {below : List Frame} {meth : Method} {c : Code} {H : Heap} {locs : List Loc} {ls : Array Slot} {D : va_G} {F : (Nat → Prop) → State → Prop} {A : Nat → Prop} {σ : St} {ad : Nat → Nat → Nat} {cy : Nat → ClassId} {Rr : va_W} {Q : Int32 → St → Prop} {a1 : Int32} (hF : Stab F) (E : CallFix p m c cX6_not0 4 s args TB RX6) (hr : meth.sig.returnType = some .int) (hlk : meth.locks = false) (hf : wX6_not0_j77 a1 σ Q) (hI : In (D, tysM cy, F) (LM ad cy Rr σ) A s H locs) (hl : lv_has ls 4 [(0, .ref (ad 16 99)), (1, .int a1)]) : W p l e (rmD 37) s m args below meth c H locs 0 0 (PI below args s (D, tysM cy, F) A (LM ad cy Rr) Q) (F0 m 77 ls []) := by
  have hx := E.1
  have hb := E.2.1
  unfold wX6_not0_j77 at hf
  refine lv_aload_n (pc := 77) hx hb dX6_not0_77 rfl (lv_at hl 0 rfl) ?_
  refine g6_25 (pc := 78) E hI lkX6_176 dX6_not0_78 ?_
  refine lv_ldc2 (pc := 81) E.1 E.2.1 E.2.2.2.1 (E.2.2.2.2 _ kcX6_244) dX6_not0_81 ?_
  refine W.lcmp (pc := 84) hx hb dX6_not0_84 ?_
  refine lv_if_ne (tgt := 92) (pc := 85) hx hb dX6_not0_85 (by decide) (fun c9 => ?_) (fun c9 => ?_)
  · have hf := hf.1 c9
    refine lv_iconst (v := 0) (pc := 92) hx hb dX6_not0_92 rfl ?_
    exact bX6_not0_93 hF E hr hlk hf hI (lv_sub hl [0, 1] rfl)
  · have hf := hf.2 c9
    refine lv_iconst (v := 1) (pc := 88) hx hb dX6_not0_88 rfl ?_
    refine lv_goto (tgt := 93) (pc := 89) hx hb dX6_not0_89 (by decide) ?_
    exact bX6_not0_93 hF E hr hlk hf hI (lv_sub hl [0, 1] rfl)
def wX6_not0 (σ : St) (Q : Int32 → St → Prop) : Prop := wX6_isWord 110 111 116 0 0 0 0 0 σ (fun r2 σ1 => ((r2 = 0 → wX6_added0 σ1 (fun r5 σ4 => wX6_isSign 60 σ4 (fun r7 σ6 => ((¬ r7 = 0 → (wX6_not0_j77 r5 σ6 Q)) ∧ (r7 = 0 → wX6_isSign 61 σ6 (fun r17 σ16 => ((¬ r17 = 0 → (wX6_not0_j77 r5 σ16 Q)) ∧ (r17 = 0 → Q r5 σ16)))))))) ∧ (¬ r2 = 0 → wX6_opens σ1 (fun r20 σ19 => ((¬ r20 = 0 → wX6_not1 σ19 (fun r23 σ22 => ∀ σ24 : St, σ24 = sI σ22 16 26 ((gI σ22 16 26) - 1) → ((¬ r23 = 0 → Q 0 σ24) ∧ (r23 = 0 → Q 1 σ24)))) ∧ (r20 = 0 → Q 0 σ19))))))
set_option maxRecDepth 100000 in
set_option maxHeartbeats 4000000 in
theorem bX6_not0 {p : Program} {l : Launch} {e : Env} {s : State} {m : MethodId} {args : Array Value} {below : List Frame} {meth : Method} {c : Code} {H : Heap} {locs : List Loc} {ls : Array Slot} {D : va_G} {F : (Nat → Prop) → State → Prop} {A : Nat → Prop} {σ : St} {ad : Nat → Nat → Nat} {cy : Nat → ClassId} {Rr : va_W} {Q : Int32 → St → Prop} (hF : Stab F) (E : CallFix p m c cX6_not0 4 s args TB RX6) (hr : meth.sig.returnType = some .int) (hlk : meth.locks = false) (hf : wX6_not0 σ Q) (hI : In (D, tysM cy, F) (LM ad cy Rr σ) A s H locs) (hl : lv_has ls 4 [(0, .ref (ad 16 99))]) : W p l e (rmD 37) s m args below meth c H locs 0 0 (PI below args s (D, tysM cy, F) A (LM ad cy Rr) Q) (F0 m 0 ls []) := by
  have hx := E.1
  have hb := E.2.1
  unfold wX6_not0 at hf
  refine lv_aload_n (pc := 0) hx hb dX6_not0_0 rfl (lv_at hl 0 rfl) ?_
  refine lv_bipush (v := 110) (pc := 1) hx hb dX6_not0_1 rfl ?_
  refine lv_bipush (v := 111) (pc := 3) hx hb dX6_not0_3 rfl ?_
  refine lv_bipush (v := 116) (pc := 5) hx hb dX6_not0_5 rfl ?_
  refine lv_iconst (v := 0) (pc := 7) hx hb dX6_not0_7 rfl ?_
  refine lv_iconst (v := 0) (pc := 8) hx hb dX6_not0_8 rfl ?_
  refine lv_iconst (v := 0) (pc := 9) hx hb dX6_not0_9 rfl ?_
  refine lv_iconst (v := 0) (pc := 10) hx hb dX6_not0_10 rfl ?_
  refine lv_iconst (v := 0) (pc := 11) hx hb dX6_not0_11 rfl ?_
  refine callVI (G := (D, tysM cy, F)) (L := LM ad cy Rr) (pc := 12) (As := [.int 110, .int 111, .int 116, .int 0, .int 0, .int 0, .int 0, .int 0]) (rest := []) hF E cs0 hl hI (tX6_isWord hF hf) mwX6_200 (fitD (by decide)) (at6) rfl rfl rfl rfl (Nat.le_of_ble_eq_true rfl) dX6_not0_12 (fun r2 σ1 H locs hf hI => ?_)
  refine lv_if_eq (tgt := 52) (pc := 15) hx hb dX6_not0_15 (by decide) (fun c3 => ?_) (fun c3 => ?_)
  · have hf := hf.1 c3
    refine lv_aload_n (pc := 52) hx hb dX6_not0_52 rfl (lv_at hl 0 rfl) ?_
    refine callVI (G := (D, tysM cy, F)) (L := LM ad cy Rr) (pc := 53) (As := []) (rest := []) hF E cs0 hl hI (tX6_added0 hF hf) mwX6_333 (fitD (by decide)) (at6) rfl rfl rfl rfl (Nat.le_of_ble_eq_true rfl) dX6_not0_53 (fun r5 σ4 H locs hf hI => ?_)
    refine lv_istore_n (lv' := [(1, .int r5), (0, .ref (ad 16 99))]) (pc := 56) hx hb dX6_not0_56 rfl hl (by decide) rfl (fun ls hl => ?_)
    refine lv_aload_n (pc := 57) hx hb dX6_not0_57 rfl (lv_at hl 1 rfl) ?_
    refine lv_bipush (v := 60) (pc := 58) hx hb dX6_not0_58 rfl ?_
    refine callVI (G := (D, tysM cy, F)) (L := LM ad cy Rr) (pc := 60) (As := [.int 60]) (rest := []) hF E cs0 hl hI (tX6_isSign hF hf) mwX6_222 (fitD (by decide)) (at6) rfl rfl rfl rfl (Nat.le_of_ble_eq_true rfl) dX6_not0_60 (fun r7 σ6 H locs hf hI => ?_)
    refine lv_if_ne (tgt := 77) (pc := 63) hx hb dX6_not0_63 (by decide) (fun c8 => ?_) (fun c8 => ?_)
    · have hf := hf.1 c8
      exact bX6_not0_77 hF E hr hlk hf hI (lv_sub hl [1, 0] rfl)
    · have hf := hf.2 c8
      refine lv_aload_n (pc := 66) hx hb dX6_not0_66 rfl (lv_at hl 1 rfl) ?_
      refine lv_bipush (v := 61) (pc := 67) hx hb dX6_not0_67 rfl ?_
      refine callVI (G := (D, tysM cy, F)) (L := LM ad cy Rr) (pc := 69) (As := [.int 61]) (rest := []) hF E cs0 hl hI (tX6_isSign hF hf) mwX6_222 (fitD (by decide)) (at6) rfl rfl rfl rfl (Nat.le_of_ble_eq_true rfl) dX6_not0_69 (fun r17 σ16 H locs hf hI => ?_)
      refine lv_if_ne (tgt := 77) (pc := 72) hx hb dX6_not0_72 (by decide) (fun c18 => ?_) (fun c18 => ?_)
      · have hf := hf.1 c18
        exact bX6_not0_77 hF E hr hlk hf hI (lv_sub hl [1, 0] rfl)
      · have hf := hf.2 c18
        refine lv_iload_n (pc := 75) hx hb dX6_not0_75 rfl (lv_at hl 0 rfl) ?_
        exact rI (pc := 76) E hr hlk hI hf dX6_not0_76
  · have hf := hf.2 c3
    refine lv_aload_n (pc := 18) hx hb dX6_not0_18 rfl (lv_at hl 0 rfl) ?_
    refine callVI (G := (D, tysM cy, F)) (L := LM ad cy Rr) (pc := 19) (As := []) (rest := []) hF E cs0 hl hI (tX6_opens hF hf) mwX6_225 (fitD (by decide)) (at6) rfl rfl rfl rfl (Nat.le_of_ble_eq_true rfl) dX6_not0_19 (fun r20 σ19 H locs hf hI => ?_)
    refine lv_if_ne (tgt := 27) (pc := 22) hx hb dX6_not0_22 (by decide) (fun c21 => ?_) (fun c21 => ?_)
    · have hf := hf.1 c21
      refine lv_aload_n (pc := 27) hx hb dX6_not0_27 rfl (lv_at hl 0 rfl) ?_
      refine callVI (G := (D, tysM cy, F)) (L := LM ad cy Rr) (pc := 28) (As := []) (rest := []) hF E cs0 hl hI (tX6_not1 hF hf) mwX6_318 (fitD (by decide)) (at6) rfl rfl rfl rfl (Nat.le_of_ble_eq_true rfl) dX6_not0_28 (fun r23 σ22 H locs hf hI => ?_)
      refine lv_istore_n (lv' := [(1, .int r23), (0, .ref (ad 16 99))]) (pc := 31) hx hb dX6_not0_31 rfl hl (by decide) rfl (fun ls hl => ?_)
      refine lv_aload_n (pc := 32) hx hb dX6_not0_32 rfl (lv_at hl 1 rfl) ?_
      refine lv_dup (pc := 33) hx hb dX6_not0_33 rfl ?_
      refine g6_26 (pc := 34) E hI lkX6_191 dX6_not0_34 ?_
      refine lv_iconst (v := 1) (pc := 37) hx hb dX6_not0_37 rfl ?_
      refine lv_isub (pc := 38) hx hb dX6_not0_38 ?_
      refine p6_26 (pc := 39) E hI lkX6_191 dX6_not0_39 (fun H locs σ24 eσ24 hI => ?_)
      have hf := hf σ24 eσ24
      refine lv_iload_n (pc := 42) hx hb dX6_not0_42 rfl (lv_at hl 0 rfl) ?_
      refine lv_if_ne (tgt := 50) (pc := 43) hx hb dX6_not0_43 (by decide) (fun c25 => ?_) (fun c25 => ?_)
      · have hf := hf.1 c25
        refine lv_iconst (v := 0) (pc := 50) hx hb dX6_not0_50 rfl ?_
        exact rI (pc := 51) E hr hlk hI hf dX6_not0_51
      · have hf := hf.2 c25
        refine lv_iconst (v := 1) (pc := 46) hx hb dX6_not0_46 rfl ?_
        refine lv_goto (tgt := 51) (pc := 47) hx hb dX6_not0_47 (by decide) ?_
        exact rI (pc := 51) E hr hlk hI hf dX6_not0_51
    · have hf := hf.2 c21
      refine lv_iconst (v := 0) (pc := 25) hx hb dX6_not0_25 rfl ?_
      exact rI (pc := 26) E hr hlk hI hf dX6_not0_26
theorem tX6_not0 {l : Launch} {D : va_G} {F : (Nat → Prop) → State → Prop} {σ : St} {ad : Nat → Nat → Nat} {cy : Nat → ClassId} {Rr : va_W} {Q : Int32 → St → Prop} (hF : Stab F) (hf : wX6_not0 σ Q) : CtI l yX6_not0 cX6_not0 4 .int 37 (D, tysM cy, F) (LM ad cy Rr) [.ref (ad 16 99)] σ Q := mkI (by decide) (Nat.le_of_ble_eq_true rfl) (fun p e s m below meth c A E hr hlk hI ls hl => bX6_not0 hF E hr hlk hf hI hl)

def wX6_both0_j45 (s0 : Int32) (σ : St) (K : Int32 → St → Prop) (Q : Int32 → St → Prop) : Prop := (K s0 σ)
set_option maxRecDepth 100000 in
set_option maxHeartbeats 4000000 in
theorem bX6_both0_45 {p : Program} {l : Launch} {e : Env} {s : State} {m : MethodId} {args : Array Value} {below : List Frame} {meth : Method} {c : Code} {H : Heap} {locs : List Loc} {ls : Array Slot} {D : va_G} {F : (Nat → Prop) → State → Prop} {A : Nat → Prop} {σ : St} {ad : Nat → Nat → Nat} {cy : Nat → ClassId} {Rr : va_W} {Q : Int32 → St → Prop} {s0 : Int32} {K : Int32 → St → Prop} (hF : Stab F) (E : CallFix p m c cX6_both0 3 s args TB RX6) (hr : meth.sig.returnType = some .int) (hlk : meth.locks = false) (hK : ∀ (a1 : Int32) (σ : St) (H : Heap) (locs : List Loc) (ls : Array Slot), K a1 σ → In (D, tysM cy, F) (LM ad cy Rr σ) A s H locs → lv_has ls 3 [(0, .ref (ad 16 99)), (1, .int a1)] → W p l e (rmD 38) s m args below meth c H locs 0 0 (PI below args s (D, tysM cy, F) A (LM ad cy Rr) Q) (F0 m 5 ls [])) (hf : wX6_both0_j45 s0 σ K Q) (hI : In (D, tysM cy, F) (LM ad cy Rr σ) A s H locs) (hl : lv_has ls 3 [(0, .ref (ad 16 99))]) : W p l e (rmD 38) s m args below meth c H locs 0 0 (PI below args s (D, tysM cy, F) A (LM ad cy Rr) Q) (F0 m 45 ls [.int s0]) := by
  have hx := E.1
  have hb := E.2.1
  unfold wX6_both0_j45 at hf
  refine lv_istore_n (lv' := [(1, .int s0), (0, .ref (ad 16 99))]) (pc := 45) hx hb dX6_both0_45 rfl hl (by decide) rfl (fun ls hl => ?_)
  refine lv_goto (tgt := 5) (pc := 46) hx hb dX6_both0_46 (by decide) ?_
  exact hK _ _ _ _ _ hf hI (lv_sub hl [1, 0] rfl)
def wX6_both0_j44 (σ : St) (K : Int32 → St → Prop) (Q : Int32 → St → Prop) : Prop := (wX6_both0_j45 0 σ K Q)
set_option maxRecDepth 100000 in
set_option maxHeartbeats 4000000 in
theorem bX6_both0_44 {p : Program} {l : Launch} {e : Env} {s : State} {m : MethodId} {args : Array Value} {below : List Frame} {meth : Method} {c : Code} {H : Heap} {locs : List Loc} {ls : Array Slot} {D : va_G} {F : (Nat → Prop) → State → Prop} {A : Nat → Prop} {σ : St} {ad : Nat → Nat → Nat} {cy : Nat → ClassId} {Rr : va_W} {Q : Int32 → St → Prop} {K : Int32 → St → Prop} (hF : Stab F) (E : CallFix p m c cX6_both0 3 s args TB RX6) (hr : meth.sig.returnType = some .int) (hlk : meth.locks = false) (hK : ∀ (a1 : Int32) (σ : St) (H : Heap) (locs : List Loc) (ls : Array Slot), K a1 σ → In (D, tysM cy, F) (LM ad cy Rr σ) A s H locs → lv_has ls 3 [(0, .ref (ad 16 99)), (1, .int a1)] → W p l e (rmD 38) s m args below meth c H locs 0 0 (PI below args s (D, tysM cy, F) A (LM ad cy Rr) Q) (F0 m 5 ls [])) (hf : wX6_both0_j44 σ K Q) (hI : In (D, tysM cy, F) (LM ad cy Rr σ) A s H locs) (hl : lv_has ls 3 [(0, .ref (ad 16 99))]) : W p l e (rmD 38) s m args below meth c H locs 0 0 (PI below args s (D, tysM cy, F) A (LM ad cy Rr) Q) (F0 m 44 ls []) := by
  have hx := E.1
  have hb := E.2.1
  unfold wX6_both0_j44 at hf
  refine lv_iconst (v := 0) (pc := 44) hx hb dX6_both0_44 rfl ?_
  exact bX6_both0_45 hF E hr hlk hK hf hI (lv_sub hl [0] rfl)
def wX6_both0_l5s (ih : Int32 → St → Prop) (a1 : Int32) (σ : St) (Q : Int32 → St → Prop) : Prop := wX6_isWord 97 110 100 0 0 0 0 0 σ (fun r4 σ3 => ((r4 = 0 → Q a1 σ3) ∧ (¬ r4 = 0 → wX6_next σ3 (fun σ6 => wX6_not0 σ6 (fun r8 σ7 => ((a1 = 0 → (wX6_both0_j44 σ7 ih Q)) ∧ (¬ a1 = 0 → ((r8 = 0 → (wX6_both0_j44 σ7 ih Q)) ∧ (¬ r8 = 0 → (wX6_both0_j45 1 σ7 ih Q))))))))))
def wX6_both0_l5 (n : Nat) : Int32 → St → (Int32 → St → Prop) → Prop := @Nat.rec (fun _ => Int32 → St → (Int32 → St → Prop) → Prop) (fun _ _ _ => False) (fun _ ih a1 σ Q => wX6_both0_l5s (fun a1 σ => ih a1 σ Q) a1 σ Q) n
set_option maxRecDepth 100000 in
set_option maxHeartbeats 4000000 in
theorem bX6_both0_5 {p : Program} {l : Launch} {e : Env} {s : State} {m : MethodId} {args : Array Value} {below : List Frame} {meth : Method} {c : Code} {D : va_G} {F : (Nat → Prop) → State → Prop} {A : Nat → Prop} {ad : Nat → Nat → Nat} {cy : Nat → ClassId} {Rr : va_W} {Q : Int32 → St → Prop} (hF : Stab F) (E : CallFix p m c cX6_both0 3 s args TB RX6) (hr : meth.sig.returnType = some .int) (hlk : meth.locks = false) : ∀ (n : Nat) {a1 : Int32} {σ : St} {H : Heap} {locs : List Loc} {ls : Array Slot}, wX6_both0_l5 n a1 σ Q → In (D, tysM cy, F) (LM ad cy Rr σ) A s H locs → lv_has ls 3 [(0, .ref (ad 16 99)), (1, .int a1)] → W p l e (rmD 38) s m args below meth c H locs 0 0 (PI below args s (D, tysM cy, F) A (LM ad cy Rr) Q) (F0 m 5 ls []) := by
  have hx := E.1
  have hb := E.2.1
  intro n
  induction n with
  | zero => intro a1 σ H locs ls hf hI hl; exact False.elim hf
  | succ n ih =>
    intro a1 σ H locs ls hf hI hl
    have hf : wX6_both0_l5s (fun a1 σ => wX6_both0_l5 n a1 σ Q) a1 σ Q := hf
    unfold wX6_both0_l5s at hf
    refine lv_aload_n (pc := 5) hx hb dX6_both0_5 rfl (lv_at hl 0 rfl) ?_
    refine lv_bipush (v := 97) (pc := 6) hx hb dX6_both0_6 rfl ?_
    refine lv_bipush (v := 110) (pc := 8) hx hb dX6_both0_8 rfl ?_
    refine lv_bipush (v := 100) (pc := 10) hx hb dX6_both0_10 rfl ?_
    refine lv_iconst (v := 0) (pc := 12) hx hb dX6_both0_12 rfl ?_
    refine lv_iconst (v := 0) (pc := 13) hx hb dX6_both0_13 rfl ?_
    refine lv_iconst (v := 0) (pc := 14) hx hb dX6_both0_14 rfl ?_
    refine lv_iconst (v := 0) (pc := 15) hx hb dX6_both0_15 rfl ?_
    refine lv_iconst (v := 0) (pc := 16) hx hb dX6_both0_16 rfl ?_
    refine callVI (G := (D, tysM cy, F)) (L := LM ad cy Rr) (pc := 17) (As := [.int 97, .int 110, .int 100, .int 0, .int 0, .int 0, .int 0, .int 0]) (rest := []) hF E cs0 hl hI (tX6_isWord hF hf) mwX6_200 (fitD (by decide)) (at6) rfl rfl rfl rfl (Nat.le_of_ble_eq_true rfl) dX6_both0_17 (fun r4 σ3 H locs hf hI => ?_)
    refine lv_if_eq (tgt := 49) (pc := 20) hx hb dX6_both0_20 (by decide) (fun c5 => ?_) (fun c5 => ?_)
    · have hf := hf.1 c5
      refine lv_iload_n (pc := 49) hx hb dX6_both0_49 rfl (lv_at hl 1 rfl) ?_
      exact rI (pc := 50) E hr hlk hI hf dX6_both0_50
    · have hf := hf.2 c5
      refine lv_aload_n (pc := 23) hx hb dX6_both0_23 rfl (lv_at hl 0 rfl) ?_
      refine callVV (G := (D, tysM cy, F)) (L := LM ad cy Rr) (pc := 24) (As := []) (rest := []) hF E cs0 hl hI (tX6_next hF hf) mwX6_197 (fitD (by decide)) (at6) rfl rfl rfl rfl (Nat.le_of_ble_eq_true rfl) dX6_both0_24 (fun σ6 H locs hf hI => ?_)
      refine lv_aload_n (pc := 27) hx hb dX6_both0_27 rfl (lv_at hl 0 rfl) ?_
      refine callVI (G := (D, tysM cy, F)) (L := LM ad cy Rr) (pc := 28) (As := []) (rest := []) hF E cs0 hl hI (tX6_not0 hF hf) mwX6_336 (fitD (by decide)) (at6) rfl rfl rfl rfl (Nat.le_of_ble_eq_true rfl) dX6_both0_28 (fun r8 σ7 H locs hf hI => ?_)
      refine lv_istore_n (lv' := [(2, .int r8), (0, .ref (ad 16 99)), (1, .int a1)]) (pc := 31) hx hb dX6_both0_31 rfl hl (by decide) rfl (fun ls hl => ?_)
      refine lv_iload_n (pc := 32) hx hb dX6_both0_32 rfl (lv_at hl 2 rfl) ?_
      refine lv_if_eq (tgt := 44) (pc := 33) hx hb dX6_both0_33 (by decide) (fun c9 => ?_) (fun c9 => ?_)
      · have hf := hf.1 c9
        exact bX6_both0_44 hF E hr hlk (fun _ _ _ _ _ hf hI hl => ih hf hI hl) hf hI (lv_sub hl [1] rfl)
      · have hf := hf.2 c9
        refine lv_iload_n (pc := 36) hx hb dX6_both0_36 rfl (lv_at hl 0 rfl) ?_
        refine lv_if_eq (tgt := 44) (pc := 37) hx hb dX6_both0_37 (by decide) (fun c10 => ?_) (fun c10 => ?_)
        · have hf := hf.1 c10
          exact bX6_both0_44 hF E hr hlk (fun _ _ _ _ _ hf hI hl => ih hf hI hl) hf hI (lv_sub hl [1] rfl)
        · have hf := hf.2 c10
          refine lv_iconst (v := 1) (pc := 40) hx hb dX6_both0_40 rfl ?_
          refine lv_goto (tgt := 45) (pc := 41) hx hb dX6_both0_41 (by decide) ?_
          exact bX6_both0_45 hF E hr hlk (fun _ _ _ _ _ hf hI hl => ih hf hI hl) hf hI (lv_sub hl [1] rfl)
def wX6_both0 (σ : St) (Q : Int32 → St → Prop) : Prop := wX6_not0 σ (fun r2 σ1 => ∃ n11 : Nat, wX6_both0_l5 n11 r2 σ1 Q)
set_option maxRecDepth 100000 in
set_option maxHeartbeats 4000000 in
theorem bX6_both0 {p : Program} {l : Launch} {e : Env} {s : State} {m : MethodId} {args : Array Value} {below : List Frame} {meth : Method} {c : Code} {H : Heap} {locs : List Loc} {ls : Array Slot} {D : va_G} {F : (Nat → Prop) → State → Prop} {A : Nat → Prop} {σ : St} {ad : Nat → Nat → Nat} {cy : Nat → ClassId} {Rr : va_W} {Q : Int32 → St → Prop} (hF : Stab F) (E : CallFix p m c cX6_both0 3 s args TB RX6) (hr : meth.sig.returnType = some .int) (hlk : meth.locks = false) (hf : wX6_both0 σ Q) (hI : In (D, tysM cy, F) (LM ad cy Rr σ) A s H locs) (hl : lv_has ls 3 [(0, .ref (ad 16 99))]) : W p l e (rmD 38) s m args below meth c H locs 0 0 (PI below args s (D, tysM cy, F) A (LM ad cy Rr) Q) (F0 m 0 ls []) := by
  have hx := E.1
  have hb := E.2.1
  unfold wX6_both0 at hf
  refine lv_aload_n (pc := 0) hx hb dX6_both0_0 rfl (lv_at hl 0 rfl) ?_
  refine callVI (G := (D, tysM cy, F)) (L := LM ad cy Rr) (pc := 1) (As := []) (rest := []) hF E cs0 hl hI (tX6_not0 hF hf) mwX6_336 (fitD (by decide)) (at6) rfl rfl rfl rfl (Nat.le_of_ble_eq_true rfl) dX6_both0_1 (fun r2 σ1 H locs hf hI => ?_)
  refine lv_istore_n (lv' := [(1, .int r2), (0, .ref (ad 16 99))]) (pc := 4) hx hb dX6_both0_4 rfl hl (by decide) rfl (fun ls hl => ?_)
  obtain ⟨n11, hf⟩ := hf
  exact bX6_both0_5 hF E hr hlk n11 hf hI (lv_sub hl [1, 0] rfl)
theorem tX6_both0 {l : Launch} {D : va_G} {F : (Nat → Prop) → State → Prop} {σ : St} {ad : Nat → Nat → Nat} {cy : Nat → ClassId} {Rr : va_W} {Q : Int32 → St → Prop} (hF : Stab F) (hf : wX6_both0 σ Q) : CtI l yX6_both0 cX6_both0 3 .int 38 (D, tysM cy, F) (LM ad cy Rr) [.ref (ad 16 99)] σ Q := mkI (by decide) (Nat.le_of_ble_eq_true rfl) (fun p e s m below meth c A E hr hlk hI ls hl => bX6_both0 hF E hr hlk hf hI hl)

def wX6_either0_j44 (s0 : Int32) (σ : St) (K : Int32 → St → Prop) (Q : Int32 → St → Prop) : Prop := (K s0 σ)
set_option maxRecDepth 100000 in
set_option maxHeartbeats 4000000 in
theorem bX6_either0_44 {p : Program} {l : Launch} {e : Env} {s : State} {m : MethodId} {args : Array Value} {below : List Frame} {meth : Method} {c : Code} {H : Heap} {locs : List Loc} {ls : Array Slot} {D : va_G} {F : (Nat → Prop) → State → Prop} {A : Nat → Prop} {σ : St} {ad : Nat → Nat → Nat} {cy : Nat → ClassId} {Rr : va_W} {Q : Int32 → St → Prop} {s0 : Int32} {K : Int32 → St → Prop} (hF : Stab F) (E : CallFix p m c cX6_either0 3 s args TB RX6) (hr : meth.sig.returnType = some .int) (hlk : meth.locks = false) (hK : ∀ (a1 : Int32) (σ : St) (H : Heap) (locs : List Loc) (ls : Array Slot), K a1 σ → In (D, tysM cy, F) (LM ad cy Rr σ) A s H locs → lv_has ls 3 [(0, .ref (ad 16 99)), (1, .int a1)] → W p l e (rmD 39) s m args below meth c H locs 0 0 (PI below args s (D, tysM cy, F) A (LM ad cy Rr) Q) (F0 m 5 ls [])) (hf : wX6_either0_j44 s0 σ K Q) (hI : In (D, tysM cy, F) (LM ad cy Rr σ) A s H locs) (hl : lv_has ls 3 [(0, .ref (ad 16 99))]) : W p l e (rmD 39) s m args below meth c H locs 0 0 (PI below args s (D, tysM cy, F) A (LM ad cy Rr) Q) (F0 m 44 ls [.int s0]) := by
  have hx := E.1
  have hb := E.2.1
  unfold wX6_either0_j44 at hf
  refine lv_istore_n (lv' := [(1, .int s0), (0, .ref (ad 16 99))]) (pc := 44) hx hb dX6_either0_44 rfl hl (by decide) rfl (fun ls hl => ?_)
  refine lv_goto (tgt := 5) (pc := 45) hx hb dX6_either0_45 (by decide) ?_
  exact hK _ _ _ _ _ hf hI (lv_sub hl [1, 0] rfl)
def wX6_either0_j39 (σ : St) (K : Int32 → St → Prop) (Q : Int32 → St → Prop) : Prop := (wX6_either0_j44 1 σ K Q)
set_option maxRecDepth 100000 in
set_option maxHeartbeats 4000000 in
theorem bX6_either0_39 {p : Program} {l : Launch} {e : Env} {s : State} {m : MethodId} {args : Array Value} {below : List Frame} {meth : Method} {c : Code} {H : Heap} {locs : List Loc} {ls : Array Slot} {D : va_G} {F : (Nat → Prop) → State → Prop} {A : Nat → Prop} {σ : St} {ad : Nat → Nat → Nat} {cy : Nat → ClassId} {Rr : va_W} {Q : Int32 → St → Prop} {K : Int32 → St → Prop} (hF : Stab F) (E : CallFix p m c cX6_either0 3 s args TB RX6) (hr : meth.sig.returnType = some .int) (hlk : meth.locks = false) (hK : ∀ (a1 : Int32) (σ : St) (H : Heap) (locs : List Loc) (ls : Array Slot), K a1 σ → In (D, tysM cy, F) (LM ad cy Rr σ) A s H locs → lv_has ls 3 [(0, .ref (ad 16 99)), (1, .int a1)] → W p l e (rmD 39) s m args below meth c H locs 0 0 (PI below args s (D, tysM cy, F) A (LM ad cy Rr) Q) (F0 m 5 ls [])) (hf : wX6_either0_j39 σ K Q) (hI : In (D, tysM cy, F) (LM ad cy Rr σ) A s H locs) (hl : lv_has ls 3 [(0, .ref (ad 16 99))]) : W p l e (rmD 39) s m args below meth c H locs 0 0 (PI below args s (D, tysM cy, F) A (LM ad cy Rr) Q) (F0 m 39 ls []) := by
  have hx := E.1
  have hb := E.2.1
  unfold wX6_either0_j39 at hf
  refine lv_iconst (v := 1) (pc := 39) hx hb dX6_either0_39 rfl ?_
  refine lv_goto (tgt := 44) (pc := 40) hx hb dX6_either0_40 (by decide) ?_
  exact bX6_either0_44 hF E hr hlk hK hf hI (lv_sub hl [0] rfl)
def wX6_either0_l5s (ih : Int32 → St → Prop) (a1 : Int32) (σ : St) (Q : Int32 → St → Prop) : Prop := wX6_isWord 111 114 0 0 0 0 0 0 σ (fun r4 σ3 => ((r4 = 0 → Q a1 σ3) ∧ (¬ r4 = 0 → wX6_next σ3 (fun σ6 => wX6_both0 σ6 (fun r8 σ7 => ((¬ a1 = 0 → (wX6_either0_j39 σ7 ih Q)) ∧ (a1 = 0 → ((r8 = 0 → (wX6_either0_j44 0 σ7 ih Q)) ∧ (¬ r8 = 0 → (wX6_either0_j39 σ7 ih Q))))))))))
def wX6_either0_l5 (n : Nat) : Int32 → St → (Int32 → St → Prop) → Prop := @Nat.rec (fun _ => Int32 → St → (Int32 → St → Prop) → Prop) (fun _ _ _ => False) (fun _ ih a1 σ Q => wX6_either0_l5s (fun a1 σ => ih a1 σ Q) a1 σ Q) n
set_option maxRecDepth 100000 in
set_option maxHeartbeats 4000000 in
theorem bX6_either0_5 {p : Program} {l : Launch} {e : Env} {s : State} {m : MethodId} {args : Array Value} {below : List Frame} {meth : Method} {c : Code} {D : va_G} {F : (Nat → Prop) → State → Prop} {A : Nat → Prop} {ad : Nat → Nat → Nat} {cy : Nat → ClassId} {Rr : va_W} {Q : Int32 → St → Prop} (hF : Stab F) (E : CallFix p m c cX6_either0 3 s args TB RX6) (hr : meth.sig.returnType = some .int) (hlk : meth.locks = false) : ∀ (n : Nat) {a1 : Int32} {σ : St} {H : Heap} {locs : List Loc} {ls : Array Slot}, wX6_either0_l5 n a1 σ Q → In (D, tysM cy, F) (LM ad cy Rr σ) A s H locs → lv_has ls 3 [(0, .ref (ad 16 99)), (1, .int a1)] → W p l e (rmD 39) s m args below meth c H locs 0 0 (PI below args s (D, tysM cy, F) A (LM ad cy Rr) Q) (F0 m 5 ls []) := by
  have hx := E.1
  have hb := E.2.1
  intro n
  induction n with
  | zero => intro a1 σ H locs ls hf hI hl; exact False.elim hf
  | succ n ih =>
    intro a1 σ H locs ls hf hI hl
    have hf : wX6_either0_l5s (fun a1 σ => wX6_either0_l5 n a1 σ Q) a1 σ Q := hf
    unfold wX6_either0_l5s at hf
    refine lv_aload_n (pc := 5) hx hb dX6_either0_5 rfl (lv_at hl 0 rfl) ?_
    refine lv_bipush (v := 111) (pc := 6) hx hb dX6_either0_6 rfl ?_
    refine lv_bipush (v := 114) (pc := 8) hx hb dX6_either0_8 rfl ?_
    refine lv_iconst (v := 0) (pc := 10) hx hb dX6_either0_10 rfl ?_
    refine lv_iconst (v := 0) (pc := 11) hx hb dX6_either0_11 rfl ?_
    refine lv_iconst (v := 0) (pc := 12) hx hb dX6_either0_12 rfl ?_
    refine lv_iconst (v := 0) (pc := 13) hx hb dX6_either0_13 rfl ?_
    refine lv_iconst (v := 0) (pc := 14) hx hb dX6_either0_14 rfl ?_
    refine lv_iconst (v := 0) (pc := 15) hx hb dX6_either0_15 rfl ?_
    refine callVI (G := (D, tysM cy, F)) (L := LM ad cy Rr) (pc := 16) (As := [.int 111, .int 114, .int 0, .int 0, .int 0, .int 0, .int 0, .int 0]) (rest := []) hF E cs0 hl hI (tX6_isWord hF hf) mwX6_200 (fitD (by decide)) (at6) rfl rfl rfl rfl (Nat.le_of_ble_eq_true rfl) dX6_either0_16 (fun r4 σ3 H locs hf hI => ?_)
    refine lv_if_eq (tgt := 48) (pc := 19) hx hb dX6_either0_19 (by decide) (fun c5 => ?_) (fun c5 => ?_)
    · have hf := hf.1 c5
      refine lv_iload_n (pc := 48) hx hb dX6_either0_48 rfl (lv_at hl 1 rfl) ?_
      exact rI (pc := 49) E hr hlk hI hf dX6_either0_49
    · have hf := hf.2 c5
      refine lv_aload_n (pc := 22) hx hb dX6_either0_22 rfl (lv_at hl 0 rfl) ?_
      refine callVV (G := (D, tysM cy, F)) (L := LM ad cy Rr) (pc := 23) (As := []) (rest := []) hF E cs0 hl hI (tX6_next hF hf) mwX6_197 (fitD (by decide)) (at6) rfl rfl rfl rfl (Nat.le_of_ble_eq_true rfl) dX6_either0_23 (fun σ6 H locs hf hI => ?_)
      refine lv_aload_n (pc := 26) hx hb dX6_either0_26 rfl (lv_at hl 0 rfl) ?_
      refine callVI (G := (D, tysM cy, F)) (L := LM ad cy Rr) (pc := 27) (As := []) (rest := []) hF E cs0 hl hI (tX6_both0 hF hf) mwX6_339 (fitD (by decide)) (at6) rfl rfl rfl rfl (Nat.le_of_ble_eq_true rfl) dX6_either0_27 (fun r8 σ7 H locs hf hI => ?_)
      refine lv_istore_n (lv' := [(2, .int r8), (0, .ref (ad 16 99)), (1, .int a1)]) (pc := 30) hx hb dX6_either0_30 rfl hl (by decide) rfl (fun ls hl => ?_)
      refine lv_iload_n (pc := 31) hx hb dX6_either0_31 rfl (lv_at hl 2 rfl) ?_
      refine lv_if_ne (tgt := 39) (pc := 32) hx hb dX6_either0_32 (by decide) (fun c9 => ?_) (fun c9 => ?_)
      · have hf := hf.1 c9
        exact bX6_either0_39 hF E hr hlk (fun _ _ _ _ _ hf hI hl => ih hf hI hl) hf hI (lv_sub hl [1] rfl)
      · have hf := hf.2 c9
        refine lv_iload_n (pc := 35) hx hb dX6_either0_35 rfl (lv_at hl 0 rfl) ?_
        refine lv_if_eq (tgt := 43) (pc := 36) hx hb dX6_either0_36 (by decide) (fun c10 => ?_) (fun c10 => ?_)
        · have hf := hf.1 c10
          refine lv_iconst (v := 0) (pc := 43) hx hb dX6_either0_43 rfl ?_
          exact bX6_either0_44 hF E hr hlk (fun _ _ _ _ _ hf hI hl => ih hf hI hl) hf hI (lv_sub hl [1] rfl)
        · have hf := hf.2 c10
          exact bX6_either0_39 hF E hr hlk (fun _ _ _ _ _ hf hI hl => ih hf hI hl) hf hI (lv_sub hl [1] rfl)
def wX6_either0 (σ : St) (Q : Int32 → St → Prop) : Prop := wX6_both0 σ (fun r2 σ1 => ∃ n11 : Nat, wX6_either0_l5 n11 r2 σ1 Q)
set_option maxRecDepth 100000 in
set_option maxHeartbeats 4000000 in
theorem bX6_either0 {p : Program} {l : Launch} {e : Env} {s : State} {m : MethodId} {args : Array Value} {below : List Frame} {meth : Method} {c : Code} {H : Heap} {locs : List Loc} {ls : Array Slot} {D : va_G} {F : (Nat → Prop) → State → Prop} {A : Nat → Prop} {σ : St} {ad : Nat → Nat → Nat} {cy : Nat → ClassId} {Rr : va_W} {Q : Int32 → St → Prop} (hF : Stab F) (E : CallFix p m c cX6_either0 3 s args TB RX6) (hr : meth.sig.returnType = some .int) (hlk : meth.locks = false) (hf : wX6_either0 σ Q) (hI : In (D, tysM cy, F) (LM ad cy Rr σ) A s H locs) (hl : lv_has ls 3 [(0, .ref (ad 16 99))]) : W p l e (rmD 39) s m args below meth c H locs 0 0 (PI below args s (D, tysM cy, F) A (LM ad cy Rr) Q) (F0 m 0 ls []) := by
  have hx := E.1
  have hb := E.2.1
  unfold wX6_either0 at hf
  refine lv_aload_n (pc := 0) hx hb dX6_either0_0 rfl (lv_at hl 0 rfl) ?_
  refine callVI (G := (D, tysM cy, F)) (L := LM ad cy Rr) (pc := 1) (As := []) (rest := []) hF E cs0 hl hI (tX6_both0 hF hf) mwX6_339 (fitD (by decide)) (at6) rfl rfl rfl rfl (Nat.le_of_ble_eq_true rfl) dX6_either0_1 (fun r2 σ1 H locs hf hI => ?_)
  refine lv_istore_n (lv' := [(1, .int r2), (0, .ref (ad 16 99))]) (pc := 4) hx hb dX6_either0_4 rfl hl (by decide) rfl (fun ls hl => ?_)
  obtain ⟨n11, hf⟩ := hf
  exact bX6_either0_5 hF E hr hlk n11 hf hI (lv_sub hl [1, 0] rfl)
theorem tX6_either0 {l : Launch} {D : va_G} {F : (Nat → Prop) → State → Prop} {σ : St} {ad : Nat → Nat → Nat} {cy : Nat → ClassId} {Rr : va_W} {Q : Int32 → St → Prop} (hF : Stab F) (hf : wX6_either0 σ Q) : CtI l yX6_either0 cX6_either0 3 .int 39 (D, tysM cy, F) (LM ad cy Rr) [.ref (ad 16 99)] σ Q := mkI (by decide) (Nat.le_of_ble_eq_true rfl) (fun p e s m below meth c A E hr hlk hI ls hl => bX6_either0 hF E hr hlk hf hI hl)

def wX6_part_j48 (a2 : Int32) (σ : St) (Q : Int32 → St → Prop) : Prop := ((¬ (gI σ 16 27) = 0 → Q a2 σ) ∧ ((gI σ 16 27) = 0 → wX6_next σ (fun σ10 => Q a2 σ10)))
set_option maxRecDepth 100000 in
set_option maxHeartbeats 4000000 in
theorem bX6_part_48 {p : Program} {l : Launch} {e : Env} {s : State} {m : MethodId} {args : Array Value} {below : List Frame} {meth : Method} {c : Code} {H : Heap} {locs : List Loc} {ls : Array Slot} {D : va_G} {F : (Nat → Prop) → State → Prop} {A : Nat → Prop} {σ : St} {ad : Nat → Nat → Nat} {cy : Nat → ClassId} {Rr : va_W} {Q : Int32 → St → Prop} {a2 : Int32} (hF : Stab F) (E : CallFix p m c cX6_part 3 s args TB RX6) (hr : meth.sig.returnType = some .int) (hlk : meth.locks = false) (hf : wX6_part_j48 a2 σ Q) (hI : In (D, tysM cy, F) (LM ad cy Rr σ) A s H locs) (hl : lv_has ls 3 [(0, .ref (ad 16 99)), (2, .int a2)]) : W p l e (rmD 40) s m args below meth c H locs 0 0 (PI below args s (D, tysM cy, F) A (LM ad cy Rr) Q) (F0 m 48 ls []) := by
  have hx := E.1
  have hb := E.2.1
  unfold wX6_part_j48 at hf
  refine lv_aload_n (pc := 48) hx hb dX6_part_48 rfl (lv_at hl 0 rfl) ?_
  refine g6_27 (pc := 49) E hI lkX6_181 dX6_part_49 ?_
  refine lv_if_ne (tgt := 59) (pc := 52) hx hb dX6_part_52 (by decide) (fun c9 => ?_) (fun c9 => ?_)
  · have hf := hf.1 c9
    refine lv_iload_n (pc := 59) hx hb dX6_part_59 rfl (lv_at hl 1 rfl) ?_
    exact rI (pc := 60) E hr hlk hI hf dX6_part_60
  · have hf := hf.2 c9
    refine lv_aload_n (pc := 55) hx hb dX6_part_55 rfl (lv_at hl 0 rfl) ?_
    refine callVV (G := (D, tysM cy, F)) (L := LM ad cy Rr) (pc := 56) (As := []) (rest := []) hF E cs0 hl hI (tX6_next hF hf) mwX6_197 (fitD (by decide)) (at6) rfl rfl rfl rfl (Nat.le_of_ble_eq_true rfl) dX6_part_56 (fun σ10 H locs hf hI => ?_)
    refine lv_iload_n (pc := 59) hx hb dX6_part_59 rfl (lv_at hl 1 rfl) ?_
    exact rI (pc := 60) E hr hlk hI hf dX6_part_60
def wX6_part_j34 (s0 : Int32) (σ : St) (Q : Int32 → St → Prop) : Prop := wX6_isSign 59 σ (fun r7 σ6 => ((¬ r7 = 0 → (wX6_part_j48 s0 σ6 Q)) ∧ (r7 = 0 → wX6_fail σ6 (fun σ11 => (wX6_part_j48 s0 σ11 Q)))))
set_option maxRecDepth 100000 in
set_option maxHeartbeats 4000000 in
theorem bX6_part_34 {p : Program} {l : Launch} {e : Env} {s : State} {m : MethodId} {args : Array Value} {below : List Frame} {meth : Method} {c : Code} {H : Heap} {locs : List Loc} {ls : Array Slot} {D : va_G} {F : (Nat → Prop) → State → Prop} {A : Nat → Prop} {σ : St} {ad : Nat → Nat → Nat} {cy : Nat → ClassId} {Rr : va_W} {Q : Int32 → St → Prop} {s0 : Int32} (hF : Stab F) (E : CallFix p m c cX6_part 3 s args TB RX6) (hr : meth.sig.returnType = some .int) (hlk : meth.locks = false) (hf : wX6_part_j34 s0 σ Q) (hI : In (D, tysM cy, F) (LM ad cy Rr σ) A s H locs) (hl : lv_has ls 3 [(0, .ref (ad 16 99))]) : W p l e (rmD 40) s m args below meth c H locs 0 0 (PI below args s (D, tysM cy, F) A (LM ad cy Rr) Q) (F0 m 34 ls [.int s0]) := by
  have hx := E.1
  have hb := E.2.1
  unfold wX6_part_j34 at hf
  refine lv_istore_n (lv' := [(2, .int s0), (0, .ref (ad 16 99))]) (pc := 34) hx hb dX6_part_34 rfl hl (by decide) rfl (fun ls hl => ?_)
  refine lv_aload_n (pc := 35) hx hb dX6_part_35 rfl (lv_at hl 1 rfl) ?_
  refine lv_bipush (v := 59) (pc := 36) hx hb dX6_part_36 rfl ?_
  refine callVI (G := (D, tysM cy, F)) (L := LM ad cy Rr) (pc := 38) (As := [.int 59]) (rest := []) hF E cs0 hl hI (tX6_isSign hF hf) mwX6_222 (fitD (by decide)) (at6) rfl rfl rfl rfl (Nat.le_of_ble_eq_true rfl) dX6_part_38 (fun r7 σ6 H locs hf hI => ?_)
  refine lv_if_ne (tgt := 48) (pc := 41) hx hb dX6_part_41 (by decide) (fun c8 => ?_) (fun c8 => ?_)
  · have hf := hf.1 c8
    exact bX6_part_48 hF E hr hlk hf hI (lv_sub hl [1, 0] rfl)
  · have hf := hf.2 c8
    refine lv_aload_n (pc := 44) hx hb dX6_part_44 rfl (lv_at hl 1 rfl) ?_
    refine callVV (G := (D, tysM cy, F)) (L := LM ad cy Rr) (pc := 45) (As := []) (rest := []) hF E cs0 hl hI (tX6_fail hF hf) mwX6_194 (fitD (by decide)) (at6) rfl rfl rfl rfl (Nat.le_of_ble_eq_true rfl) dX6_part_45 (fun σ11 H locs hf hI => ?_)
    exact bX6_part_48 hF E hr hlk hf hI (lv_sub hl [1, 0] rfl)
def wX6_part_j19 (σ : St) (Q : Int32 → St → Prop) : Prop := (((gI σ 16 27) = 0 → wX6_either0 σ (fun r5 σ4 => (wX6_part_j34 r5 σ4 Q))) ∧ (¬ (gI σ 16 27) = 0 → (wX6_part_j34 0 σ Q)))
set_option maxRecDepth 100000 in
set_option maxHeartbeats 4000000 in
theorem bX6_part_19 {p : Program} {l : Launch} {e : Env} {s : State} {m : MethodId} {args : Array Value} {below : List Frame} {meth : Method} {c : Code} {H : Heap} {locs : List Loc} {ls : Array Slot} {D : va_G} {F : (Nat → Prop) → State → Prop} {A : Nat → Prop} {σ : St} {ad : Nat → Nat → Nat} {cy : Nat → ClassId} {Rr : va_W} {Q : Int32 → St → Prop} (hF : Stab F) (E : CallFix p m c cX6_part 3 s args TB RX6) (hr : meth.sig.returnType = some .int) (hlk : meth.locks = false) (hf : wX6_part_j19 σ Q) (hI : In (D, tysM cy, F) (LM ad cy Rr σ) A s H locs) (hl : lv_has ls 3 [(0, .ref (ad 16 99))]) : W p l e (rmD 40) s m args below meth c H locs 0 0 (PI below args s (D, tysM cy, F) A (LM ad cy Rr) Q) (F0 m 19 ls []) := by
  have hx := E.1
  have hb := E.2.1
  unfold wX6_part_j19 at hf
  refine lv_aload_n (pc := 19) hx hb dX6_part_19 rfl (lv_at hl 0 rfl) ?_
  refine g6_27 (pc := 20) E hI lkX6_181 dX6_part_20 ?_
  refine lv_if_eq (tgt := 30) (pc := 23) hx hb dX6_part_23 (by decide) (fun c3 => ?_) (fun c3 => ?_)
  · have hf := hf.1 c3
    refine lv_aload_n (pc := 30) hx hb dX6_part_30 rfl (lv_at hl 0 rfl) ?_
    refine callVI (G := (D, tysM cy, F)) (L := LM ad cy Rr) (pc := 31) (As := []) (rest := []) hF E cs0 hl hI (tX6_either0 hF hf) mwX6_342 (fitD (by decide)) (at6) rfl rfl rfl rfl (Nat.le_of_ble_eq_true rfl) dX6_part_31 (fun r5 σ4 H locs hf hI => ?_)
    exact bX6_part_34 hF E hr hlk hf hI (lv_sub hl [0] rfl)
  · have hf := hf.2 c3
    refine lv_iconst (v := 0) (pc := 26) hx hb dX6_part_26 rfl ?_
    refine lv_goto (tgt := 34) (pc := 27) hx hb dX6_part_27 (by decide) ?_
    exact bX6_part_34 hF E hr hlk hf hI (lv_sub hl [0] rfl)
def wX6_part_j8 (σ : St) (Q : Int32 → St → Prop) : Prop := ((¬ (gI σ 16 27) = 0 → (wX6_part_j19 σ Q)) ∧ ((gI σ 16 27) = 0 → wX6_next σ (fun σ12 => (wX6_part_j19 σ12 Q))))
set_option maxRecDepth 100000 in
set_option maxHeartbeats 4000000 in
theorem bX6_part_8 {p : Program} {l : Launch} {e : Env} {s : State} {m : MethodId} {args : Array Value} {below : List Frame} {meth : Method} {c : Code} {H : Heap} {locs : List Loc} {ls : Array Slot} {D : va_G} {F : (Nat → Prop) → State → Prop} {A : Nat → Prop} {σ : St} {ad : Nat → Nat → Nat} {cy : Nat → ClassId} {Rr : va_W} {Q : Int32 → St → Prop} (hF : Stab F) (E : CallFix p m c cX6_part 3 s args TB RX6) (hr : meth.sig.returnType = some .int) (hlk : meth.locks = false) (hf : wX6_part_j8 σ Q) (hI : In (D, tysM cy, F) (LM ad cy Rr σ) A s H locs) (hl : lv_has ls 3 [(0, .ref (ad 16 99))]) : W p l e (rmD 40) s m args below meth c H locs 0 0 (PI below args s (D, tysM cy, F) A (LM ad cy Rr) Q) (F0 m 8 ls []) := by
  have hx := E.1
  have hb := E.2.1
  unfold wX6_part_j8 at hf
  refine lv_aload_n (pc := 8) hx hb dX6_part_8 rfl (lv_at hl 0 rfl) ?_
  refine g6_27 (pc := 9) E hI lkX6_181 dX6_part_9 ?_
  refine lv_if_ne (tgt := 19) (pc := 12) hx hb dX6_part_12 (by decide) (fun c2 => ?_) (fun c2 => ?_)
  · have hf := hf.1 c2
    exact bX6_part_19 hF E hr hlk hf hI (lv_sub hl [0] rfl)
  · have hf := hf.2 c2
    refine lv_aload_n (pc := 15) hx hb dX6_part_15 rfl (lv_at hl 0 rfl) ?_
    refine callVV (G := (D, tysM cy, F)) (L := LM ad cy Rr) (pc := 16) (As := []) (rest := []) hF E cs0 hl hI (tX6_next hF hf) mwX6_197 (fitD (by decide)) (at6) rfl rfl rfl rfl (Nat.le_of_ble_eq_true rfl) dX6_part_16 (fun σ12 H locs hf hI => ?_)
    exact bX6_part_19 hF E hr hlk hf hI (lv_sub hl [0] rfl)
def wX6_part (p1 : Int32) (σ : St) (Q : Int32 → St → Prop) : Prop := ((¬ p1 = 0 → (wX6_part_j8 σ Q)) ∧ (p1 = 0 → wX6_fail σ (fun σ13 => (wX6_part_j8 σ13 Q))))
set_option maxRecDepth 100000 in
set_option maxHeartbeats 4000000 in
theorem bX6_part {p : Program} {l : Launch} {e : Env} {s : State} {m : MethodId} {args : Array Value} {below : List Frame} {meth : Method} {c : Code} {H : Heap} {locs : List Loc} {ls : Array Slot} {D : va_G} {F : (Nat → Prop) → State → Prop} {A : Nat → Prop} {σ : St} {ad : Nat → Nat → Nat} {cy : Nat → ClassId} {Rr : va_W} {Q : Int32 → St → Prop} {p1 : Int32} (hF : Stab F) (E : CallFix p m c cX6_part 3 s args TB RX6) (hr : meth.sig.returnType = some .int) (hlk : meth.locks = false) (hf : wX6_part p1 σ Q) (hI : In (D, tysM cy, F) (LM ad cy Rr σ) A s H locs) (hl : lv_has ls 3 [(0, .ref (ad 16 99)), (1, .int p1)]) : W p l e (rmD 40) s m args below meth c H locs 0 0 (PI below args s (D, tysM cy, F) A (LM ad cy Rr) Q) (F0 m 0 ls []) := by
  have hx := E.1
  have hb := E.2.1
  unfold wX6_part at hf
  refine lv_iload_n (pc := 0) hx hb dX6_part_0 rfl (lv_at hl 1 rfl) ?_
  refine lv_if_ne (tgt := 8) (pc := 1) hx hb dX6_part_1 (by decide) (fun c1 => ?_) (fun c1 => ?_)
  · have hf := hf.1 c1
    exact bX6_part_8 hF E hr hlk hf hI (lv_sub hl [0] rfl)
  · have hf := hf.2 c1
    refine lv_aload_n (pc := 4) hx hb dX6_part_4 rfl (lv_at hl 0 rfl) ?_
    refine callVV (G := (D, tysM cy, F)) (L := LM ad cy Rr) (pc := 5) (As := []) (rest := []) hF E cs0 hl hI (tX6_fail hF hf) mwX6_194 (fitD (by decide)) (at6) rfl rfl rfl rfl (Nat.le_of_ble_eq_true rfl) dX6_part_5 (fun σ13 H locs hf hI => ?_)
    exact bX6_part_8 hF E hr hlk hf hI (lv_sub hl [0] rfl)
theorem tX6_part {l : Launch} {D : va_G} {F : (Nat → Prop) → State → Prop} {σ : St} {ad : Nat → Nat → Nat} {cy : Nat → ClassId} {Rr : va_W} {Q : Int32 → St → Prop} {p1 : Int32} (hF : Stab F) (hf : wX6_part p1 σ Q) : CtI l yX6_part cX6_part 3 .int 40 (D, tysM cy, F) (LM ad cy Rr) [.ref (ad 16 99), .int p1] σ Q := mkI (by decide) (Nat.le_of_ble_eq_true rfl) (fun p e s m below meth c A E hr hlk hI ls hl => bX6_part hF E hr hlk hf hI hl)

def wX6_read_j145 (a2 : Int32) (a3 : Int32) (a4 : Int32) (a5 : Int32) (σ : St) (Q : Int32 → St → Prop) : Prop := ((¬ a2 = 0 → ((¬ a2 = 1 → Q a5 σ) ∧ (a2 = 1 → Q a4 σ))) ∧ (a2 = 0 → Q a3 σ))
set_option maxRecDepth 100000 in
set_option maxHeartbeats 4000000 in
theorem bX6_read_145 {p : Program} {l : Launch} {e : Env} {s : State} {m : MethodId} {args : Array Value} {below : List Frame} {meth : Method} {c : Code} {H : Heap} {locs : List Loc} {ls : Array Slot} {D : va_G} {F : (Nat → Prop) → State → Prop} {A : Nat → Prop} {σ : St} {ad : Nat → Nat → Nat} {cy : Nat → ClassId} {Rr : va_W} {Q : Int32 → St → Prop} {a2 : Int32} {a3 : Int32} {a4 : Int32} {a5 : Int32} (hF : Stab F) (E : CallFix p m c cX6_read 6 s args TB RX6) (hr : meth.sig.returnType = some .int) (hlk : meth.locks = false) (hf : wX6_read_j145 a2 a3 a4 a5 σ Q) (hI : In (D, tysM cy, F) (LM ad cy Rr σ) A s H locs) (hl : lv_has ls 6 [(2, .int a2), (3, .int a3), (4, .int a4), (5, .int a5)]) : W p l e (rmD 41) s m args below meth c H locs 0 0 (PI below args s (D, tysM cy, F) A (LM ad cy Rr) Q) (F0 m 145 ls []) := by
  have hx := E.1
  have hb := E.2.1
  unfold wX6_read_j145 at hf
  refine lv_iload_n (pc := 145) hx hb dX6_read_145 rfl (lv_at hl 0 rfl) ?_
  refine lv_if_ne (tgt := 153) (pc := 146) hx hb dX6_read_146 (by decide) (fun c23 => ?_) (fun c23 => ?_)
  · have hf := hf.1 c23
    refine lv_iload_n (pc := 153) hx hb dX6_read_153 rfl (lv_at hl 0 rfl) ?_
    refine lv_iconst (v := 1) (pc := 154) hx hb dX6_read_154 rfl ?_
    refine lv_icmp_ne (tgt := 163) (pc := 155) hx hb dX6_read_155 (by decide) (fun c24 => ?_) (fun c24 => ?_)
    · have hf := hf.1 c24
      refine lv_iload (pc := 163) hx hb dX6_read_163 (lv_at hl 3 rfl) ?_
      exact rI (pc := 165) E hr hlk hI hf dX6_read_165
    · have hf := hf.2 c24
      refine lv_iload (pc := 158) hx hb dX6_read_158 (lv_at hl 2 rfl) ?_
      refine lv_goto (tgt := 165) (pc := 160) hx hb dX6_read_160 (by decide) ?_
      exact rI (pc := 165) E hr hlk hI hf dX6_read_165
  · have hf := hf.2 c23
    refine lv_iload_n (pc := 149) hx hb dX6_read_149 rfl (lv_at hl 1 rfl) ?_
    refine lv_goto (tgt := 165) (pc := 150) hx hb dX6_read_150 (by decide) ?_
    exact rI (pc := 165) E hr hlk hI hf dX6_read_165
def wX6_read_j125 (a2 : Int32) (a3 : Int32) (a4 : Int32) (s0 : Int32) (σ : St) (Q : Int32 → St → Prop) : Prop := ((¬ (gI σ 16 27) = 0 → (wX6_read_j145 a2 a3 a4 s0 σ Q)) ∧ ((gI σ 16 27) = 0 → (((gI σ 16 23) = 0 → (wX6_read_j145 a2 a3 a4 s0 σ Q)) ∧ (¬ (gI σ 16 23) = 0 → wX6_fail σ (fun σ26 => (wX6_read_j145 a2 a3 a4 s0 σ26 Q))))))
set_option maxRecDepth 100000 in
set_option maxHeartbeats 4000000 in
theorem bX6_read_125 {p : Program} {l : Launch} {e : Env} {s : State} {m : MethodId} {args : Array Value} {below : List Frame} {meth : Method} {c : Code} {H : Heap} {locs : List Loc} {ls : Array Slot} {D : va_G} {F : (Nat → Prop) → State → Prop} {A : Nat → Prop} {σ : St} {ad : Nat → Nat → Nat} {cy : Nat → ClassId} {Rr : va_W} {Q : Int32 → St → Prop} {a2 : Int32} {a3 : Int32} {a4 : Int32} {s0 : Int32} (hF : Stab F) (E : CallFix p m c cX6_read 6 s args TB RX6) (hr : meth.sig.returnType = some .int) (hlk : meth.locks = false) (hf : wX6_read_j125 a2 a3 a4 s0 σ Q) (hI : In (D, tysM cy, F) (LM ad cy Rr σ) A s H locs) (hl : lv_has ls 6 [(0, .ref (ad 16 99)), (2, .int a2), (3, .int a3), (4, .int a4)]) : W p l e (rmD 41) s m args below meth c H locs 0 0 (PI below args s (D, tysM cy, F) A (LM ad cy Rr) Q) (F0 m 125 ls [.int s0]) := by
  have hx := E.1
  have hb := E.2.1
  unfold wX6_read_j125 at hf
  refine lv_istore (lv' := [(5, .int s0), (0, .ref (ad 16 99)), (2, .int a2), (3, .int a3), (4, .int a4)]) (pc := 125) hx hb dX6_read_125 hl (by decide) rfl (fun ls hl => ?_)
  refine lv_aload_n (pc := 127) hx hb dX6_read_127 rfl (lv_at hl 1 rfl) ?_
  refine g6_27 (pc := 128) E hI lkX6_181 dX6_read_128 ?_
  refine lv_if_ne (tgt := 145) (pc := 131) hx hb dX6_read_131 (by decide) (fun c22 => ?_) (fun c22 => ?_)
  · have hf := hf.1 c22
    exact bX6_read_145 hF E hr hlk hf hI (lv_sub hl [2, 3, 4, 0] rfl)
  · have hf := hf.2 c22
    refine lv_aload_n (pc := 134) hx hb dX6_read_134 rfl (lv_at hl 1 rfl) ?_
    refine g6_23 (pc := 135) E hI lkX6_165 dX6_read_135 ?_
    refine lv_if_eq (tgt := 145) (pc := 138) hx hb dX6_read_138 (by decide) (fun c25 => ?_) (fun c25 => ?_)
    · have hf := hf.1 c25
      exact bX6_read_145 hF E hr hlk hf hI (lv_sub hl [2, 3, 4, 0] rfl)
    · have hf := hf.2 c25
      refine lv_aload_n (pc := 141) hx hb dX6_read_141 rfl (lv_at hl 1 rfl) ?_
      refine callVV (G := (D, tysM cy, F)) (L := LM ad cy Rr) (pc := 142) (As := []) (rest := []) hF E cs0 hl hI (tX6_fail hF hf) mwX6_194 (fitD (by decide)) (at6) rfl rfl rfl rfl (Nat.le_of_ble_eq_true rfl) dX6_read_142 (fun σ26 H locs hf hI => ?_)
      exact bX6_read_145 hF E hr hlk hf hI (lv_sub hl [2, 3, 4, 0] rfl)
def wX6_read_j91 (a2 : Int32) (a3 : Int32) (s0 : Int32) (σ : St) (Q : Int32 → St → Prop) : Prop := (((gI σ 16 27) = 0 → wX6_isWord 116 117 114 110 115 0 0 0 σ (fun r19 σ18 => wX6_part r19 σ18 (fun r21 σ20 => (wX6_read_j125 a2 a3 s0 r21 σ20 Q)))) ∧ (¬ (gI σ 16 27) = 0 → (wX6_read_j125 a2 a3 s0 0 σ Q)))
set_option maxRecDepth 100000 in
set_option maxHeartbeats 4000000 in
theorem bX6_read_91 {p : Program} {l : Launch} {e : Env} {s : State} {m : MethodId} {args : Array Value} {below : List Frame} {meth : Method} {c : Code} {H : Heap} {locs : List Loc} {ls : Array Slot} {D : va_G} {F : (Nat → Prop) → State → Prop} {A : Nat → Prop} {σ : St} {ad : Nat → Nat → Nat} {cy : Nat → ClassId} {Rr : va_W} {Q : Int32 → St → Prop} {a2 : Int32} {a3 : Int32} {s0 : Int32} (hF : Stab F) (E : CallFix p m c cX6_read 6 s args TB RX6) (hr : meth.sig.returnType = some .int) (hlk : meth.locks = false) (hf : wX6_read_j91 a2 a3 s0 σ Q) (hI : In (D, tysM cy, F) (LM ad cy Rr σ) A s H locs) (hl : lv_has ls 6 [(0, .ref (ad 16 99)), (2, .int a2), (3, .int a3)]) : W p l e (rmD 41) s m args below meth c H locs 0 0 (PI below args s (D, tysM cy, F) A (LM ad cy Rr) Q) (F0 m 91 ls [.int s0]) := by
  have hx := E.1
  have hb := E.2.1
  unfold wX6_read_j91 at hf
  refine lv_istore (lv' := [(4, .int s0), (0, .ref (ad 16 99)), (2, .int a2), (3, .int a3)]) (pc := 91) hx hb dX6_read_91 hl (by decide) rfl (fun ls hl => ?_)
  refine lv_aload_n (pc := 93) hx hb dX6_read_93 rfl (lv_at hl 1 rfl) ?_
  refine g6_27 (pc := 94) E hI lkX6_181 dX6_read_94 ?_
  refine lv_if_eq (tgt := 104) (pc := 97) hx hb dX6_read_97 (by decide) (fun c17 => ?_) (fun c17 => ?_)
  · have hf := hf.1 c17
    refine lv_aload_n (pc := 104) hx hb dX6_read_104 rfl (lv_at hl 1 rfl) ?_
    refine lv_aload_n (pc := 105) hx hb dX6_read_105 rfl (lv_at hl 1 rfl) ?_
    refine lv_bipush (v := 116) (pc := 106) hx hb dX6_read_106 rfl ?_
    refine lv_bipush (v := 117) (pc := 108) hx hb dX6_read_108 rfl ?_
    refine lv_bipush (v := 114) (pc := 110) hx hb dX6_read_110 rfl ?_
    refine lv_bipush (v := 110) (pc := 112) hx hb dX6_read_112 rfl ?_
    refine lv_bipush (v := 115) (pc := 114) hx hb dX6_read_114 rfl ?_
    refine lv_iconst (v := 0) (pc := 116) hx hb dX6_read_116 rfl ?_
    refine lv_iconst (v := 0) (pc := 117) hx hb dX6_read_117 rfl ?_
    refine lv_iconst (v := 0) (pc := 118) hx hb dX6_read_118 rfl ?_
    refine callVI (G := (D, tysM cy, F)) (L := LM ad cy Rr) (pc := 119) (As := [.int 116, .int 117, .int 114, .int 110, .int 115, .int 0, .int 0, .int 0]) (rest := [.ref (ad 16 99)]) hF E cs0 hl hI (tX6_isWord hF hf) mwX6_200 (fitD (by decide)) (at6) rfl rfl rfl rfl (Nat.le_of_ble_eq_true rfl) dX6_read_119 (fun r19 σ18 H locs hf hI => ?_)
    refine callVI (G := (D, tysM cy, F)) (L := LM ad cy Rr) (pc := 122) (As := [.int r19]) (rest := []) hF E cs0 hl hI (tX6_part hF hf) mwX6_345 (fitD (by decide)) (at6) rfl rfl rfl rfl (Nat.le_of_ble_eq_true rfl) dX6_read_122 (fun r21 σ20 H locs hf hI => ?_)
    exact bX6_read_125 hF E hr hlk hf hI (lv_sub hl [1, 2, 3, 0] rfl)
  · have hf := hf.2 c17
    refine lv_iconst (v := 0) (pc := 100) hx hb dX6_read_100 rfl ?_
    refine lv_goto (tgt := 125) (pc := 101) hx hb dX6_read_101 (by decide) ?_
    exact bX6_read_125 hF E hr hlk hf hI (lv_sub hl [1, 2, 3, 0] rfl)
def wX6_read (p1 : Int32) (p2 : Int32) (σ : St) (Q : Int32 → St → Prop) : Prop := ∀ σ1 : St, σ1 = sI σ 16 20 (160 * p1) → vp_in p1 6 ∧ ∀ σ3 : St, σ3 = sI σ1 16 21 (gA σ1 16 2 p1.toNatClampNeg) → ∀ σ4 : St, σ4 = sI σ3 16 22 0 → ∀ σ5 : St, σ5 = sI σ4 16 26 0 → ∀ σ6 : St, σ6 = sI σ5 16 27 0 → wX6_next σ6 (fun σ7 => wX6_isWord 110 101 101 100 115 0 0 0 σ7 (fun r9 σ8 => wX6_part r9 σ8 (fun r11 σ10 => (((gI σ10 16 27) = 0 → wX6_isWord 115 101 101 115 0 0 0 0 σ10 (fun r14 σ13 => wX6_part r14 σ13 (fun r16 σ15 => (wX6_read_j91 p2 r11 r16 σ15 Q)))) ∧ (¬ (gI σ10 16 27) = 0 → (wX6_read_j91 p2 r11 0 σ10 Q))))))
set_option maxRecDepth 100000 in
set_option maxHeartbeats 4000000 in
theorem bX6_read {p : Program} {l : Launch} {e : Env} {s : State} {m : MethodId} {args : Array Value} {below : List Frame} {meth : Method} {c : Code} {H : Heap} {locs : List Loc} {ls : Array Slot} {D : va_G} {F : (Nat → Prop) → State → Prop} {A : Nat → Prop} {σ : St} {ad : Nat → Nat → Nat} {cy : Nat → ClassId} {Rr : va_W} {Q : Int32 → St → Prop} {p1 : Int32} {p2 : Int32} (hF : Stab F) (E : CallFix p m c cX6_read 6 s args TB RX6) (hr : meth.sig.returnType = some .int) (hlk : meth.locks = false) (hf : wX6_read p1 p2 σ Q) (hI : In (D, tysM cy, F) (LM ad cy Rr σ) A s H locs) (hl : lv_has ls 6 [(0, .ref (ad 16 99)), (1, .int p1), (2, .int p2)]) : W p l e (rmD 41) s m args below meth c H locs 0 0 (PI below args s (D, tysM cy, F) A (LM ad cy Rr) Q) (F0 m 0 ls []) := by
  have hx := E.1
  have hb := E.2.1
  unfold wX6_read at hf
  refine lv_aload_n (pc := 0) hx hb dX6_read_0 rfl (lv_at hl 0 rfl) ?_
  refine lv_sipush (v := 160) (pc := 1) hx hb dX6_read_1 rfl ?_
  refine lv_iload_n (pc := 4) hx hb dX6_read_4 rfl (lv_at hl 1 rfl) ?_
  refine lv_imul (pc := 5) hx hb dX6_read_5 ?_
  refine p6_20 (pc := 6) E hI lkX6_153 dX6_read_6 (fun H locs σ1 eσ1 hI => ?_)
  have hf := hf σ1 eσ1
  refine lv_aload_n (pc := 9) hx hb dX6_read_9 rfl (lv_at hl 0 rfl) ?_
  refine lv_aload_n (pc := 10) hx hb dX6_read_10 rfl (lv_at hl 0 rfl) ?_
  refine g6_2 (pc := 11) E hI lkX6_17 dX6_read_11 ?_
  refine lv_iload_n (pc := 14) hx hb dX6_read_14 rfl (lv_at hl 1 rfl) ?_
  have g2 := hf.1
  have hf := hf.2
  refine a6_2 (pc := 15) E hI g2 dX6_read_15 ?_
  refine p6_21 (pc := 16) E hI lkX6_150 dX6_read_16 (fun H locs σ3 eσ3 hI => ?_)
  have hf := hf σ3 eσ3
  refine lv_aload_n (pc := 19) hx hb dX6_read_19 rfl (lv_at hl 0 rfl) ?_
  refine lv_iconst (v := 0) (pc := 20) hx hb dX6_read_20 rfl ?_
  refine p6_22 (pc := 21) E hI lkX6_156 dX6_read_21 (fun H locs σ4 eσ4 hI => ?_)
  have hf := hf σ4 eσ4
  refine lv_aload_n (pc := 24) hx hb dX6_read_24 rfl (lv_at hl 0 rfl) ?_
  refine lv_iconst (v := 0) (pc := 25) hx hb dX6_read_25 rfl ?_
  refine p6_26 (pc := 26) E hI lkX6_191 dX6_read_26 (fun H locs σ5 eσ5 hI => ?_)
  have hf := hf σ5 eσ5
  refine lv_aload_n (pc := 29) hx hb dX6_read_29 rfl (lv_at hl 0 rfl) ?_
  refine lv_iconst (v := 0) (pc := 30) hx hb dX6_read_30 rfl ?_
  refine p6_27 (pc := 31) E hI lkX6_181 (Or.inl rfl) dX6_read_31 (fun H locs σ6 eσ6 hI => ?_)
  have hf := hf σ6 eσ6
  refine lv_aload_n (pc := 34) hx hb dX6_read_34 rfl (lv_at hl 0 rfl) ?_
  refine callVV (G := (D, tysM cy, F)) (L := LM ad cy Rr) (pc := 35) (As := []) (rest := []) hF E cs0 hl hI (tX6_next hF hf) mwX6_197 (fitD (by decide)) (at6) rfl rfl rfl rfl (Nat.le_of_ble_eq_true rfl) dX6_read_35 (fun σ7 H locs hf hI => ?_)
  refine lv_aload_n (pc := 38) hx hb dX6_read_38 rfl (lv_at hl 0 rfl) ?_
  refine lv_aload_n (pc := 39) hx hb dX6_read_39 rfl (lv_at hl 0 rfl) ?_
  refine lv_bipush (v := 110) (pc := 40) hx hb dX6_read_40 rfl ?_
  refine lv_bipush (v := 101) (pc := 42) hx hb dX6_read_42 rfl ?_
  refine lv_bipush (v := 101) (pc := 44) hx hb dX6_read_44 rfl ?_
  refine lv_bipush (v := 100) (pc := 46) hx hb dX6_read_46 rfl ?_
  refine lv_bipush (v := 115) (pc := 48) hx hb dX6_read_48 rfl ?_
  refine lv_iconst (v := 0) (pc := 50) hx hb dX6_read_50 rfl ?_
  refine lv_iconst (v := 0) (pc := 51) hx hb dX6_read_51 rfl ?_
  refine lv_iconst (v := 0) (pc := 52) hx hb dX6_read_52 rfl ?_
  refine callVI (G := (D, tysM cy, F)) (L := LM ad cy Rr) (pc := 53) (As := [.int 110, .int 101, .int 101, .int 100, .int 115, .int 0, .int 0, .int 0]) (rest := [.ref (ad 16 99)]) hF E cs0 hl hI (tX6_isWord hF hf) mwX6_200 (fitD (by decide)) (at6) rfl rfl rfl rfl (Nat.le_of_ble_eq_true rfl) dX6_read_53 (fun r9 σ8 H locs hf hI => ?_)
  refine callVI (G := (D, tysM cy, F)) (L := LM ad cy Rr) (pc := 56) (As := [.int r9]) (rest := []) hF E cs0 hl hI (tX6_part hF hf) mwX6_345 (fitD (by decide)) (at6) rfl rfl rfl rfl (Nat.le_of_ble_eq_true rfl) dX6_read_56 (fun r11 σ10 H locs hf hI => ?_)
  refine lv_istore_n (lv' := [(3, .int r11), (0, .ref (ad 16 99)), (1, .int p1), (2, .int p2)]) (pc := 59) hx hb dX6_read_59 rfl hl (by decide) rfl (fun ls hl => ?_)
  refine lv_aload_n (pc := 60) hx hb dX6_read_60 rfl (lv_at hl 1 rfl) ?_
  refine g6_27 (pc := 61) E hI lkX6_181 dX6_read_61 ?_
  refine lv_if_eq (tgt := 71) (pc := 64) hx hb dX6_read_64 (by decide) (fun c12 => ?_) (fun c12 => ?_)
  · have hf := hf.1 c12
    refine lv_aload_n (pc := 71) hx hb dX6_read_71 rfl (lv_at hl 1 rfl) ?_
    refine lv_aload_n (pc := 72) hx hb dX6_read_72 rfl (lv_at hl 1 rfl) ?_
    refine lv_bipush (v := 115) (pc := 73) hx hb dX6_read_73 rfl ?_
    refine lv_bipush (v := 101) (pc := 75) hx hb dX6_read_75 rfl ?_
    refine lv_bipush (v := 101) (pc := 77) hx hb dX6_read_77 rfl ?_
    refine lv_bipush (v := 115) (pc := 79) hx hb dX6_read_79 rfl ?_
    refine lv_iconst (v := 0) (pc := 81) hx hb dX6_read_81 rfl ?_
    refine lv_iconst (v := 0) (pc := 82) hx hb dX6_read_82 rfl ?_
    refine lv_iconst (v := 0) (pc := 83) hx hb dX6_read_83 rfl ?_
    refine lv_iconst (v := 0) (pc := 84) hx hb dX6_read_84 rfl ?_
    refine callVI (G := (D, tysM cy, F)) (L := LM ad cy Rr) (pc := 85) (As := [.int 115, .int 101, .int 101, .int 115, .int 0, .int 0, .int 0, .int 0]) (rest := [.ref (ad 16 99)]) hF E cs0 hl hI (tX6_isWord hF hf) mwX6_200 (fitD (by decide)) (at6) rfl rfl rfl rfl (Nat.le_of_ble_eq_true rfl) dX6_read_85 (fun r14 σ13 H locs hf hI => ?_)
    refine callVI (G := (D, tysM cy, F)) (L := LM ad cy Rr) (pc := 88) (As := [.int r14]) (rest := []) hF E cs0 hl hI (tX6_part hF hf) mwX6_345 (fitD (by decide)) (at6) rfl rfl rfl rfl (Nat.le_of_ble_eq_true rfl) dX6_read_88 (fun r16 σ15 H locs hf hI => ?_)
    exact bX6_read_91 hF E hr hlk hf hI (lv_sub hl [1, 3, 0] rfl)
  · have hf := hf.2 c12
    refine lv_iconst (v := 0) (pc := 67) hx hb dX6_read_67 rfl ?_
    refine lv_goto (tgt := 91) (pc := 68) hx hb dX6_read_68 (by decide) ?_
    exact bX6_read_91 hF E hr hlk hf hI (lv_sub hl [1, 3, 0] rfl)
theorem tX6_read {l : Launch} {D : va_G} {F : (Nat → Prop) → State → Prop} {σ : St} {ad : Nat → Nat → Nat} {cy : Nat → ClassId} {Rr : va_W} {Q : Int32 → St → Prop} {p1 : Int32} {p2 : Int32} (hF : Stab F) (hf : wX6_read p1 p2 σ Q) : CtI l yX6_read cX6_read 6 .int 41 (D, tysM cy, F) (LM ad cy Rr) [.ref (ad 16 99), .int p1, .int p2] σ Q := mkI (by decide) (Nat.le_of_ble_eq_true rfl) (fun p e s m below meth c A E hr hlk hI ls hl => bX6_read hF E hr hlk hf hI hl)

def wX6_text_l14s (ih : Int32 → St → Prop) (a1 : Int32) (σ : St) (Q : Int32 → St → Prop) : Prop := (((gI σ 16 6) ≤ a1 → vp_in (gI σ 16 3) 6 ∧ ∀ σ4 : St, σ4 = sA σ 16 2 (gI σ 16 3).toNatClampNeg (gI σ 16 6) → ∀ σ5 : St, σ5 = sI σ4 16 6 0 → wX6_read (gI σ5 16 3) 0 σ5 (fun r7 σ6 => (((gI σ6 16 27) = 0 → ∀ σ9 : St, σ9 = sI σ6 16 3 ((gI σ6 16 3) + 1) → Q ((gI σ9 16 3) - 1) σ9) ∧ (¬ (gI σ6 16 27) = 0 → Q ((-100) - (gI σ6 16 28)) σ6)))) ∧ (¬ (gI σ 16 6) ≤ a1 → vp_in a1 160 ∧ vp_in ((160 * (gI σ 16 3)) + a1) 960 ∧ ∀ σ12 : St, σ12 = sA σ 16 1 ((160 * (gI σ 16 3)) + a1).toNatClampNeg (gA σ 16 5 a1.toNatClampNeg) → ∀ x13 : Int32, x13 = a1 + 1 → (ih x13 σ12)))
def wX6_text_l14 (n : Nat) : Int32 → St → (Int32 → St → Prop) → Prop := @Nat.rec (fun _ => Int32 → St → (Int32 → St → Prop) → Prop) (fun _ _ _ => False) (fun _ ih a1 σ Q => wX6_text_l14s (fun a1 σ => ih a1 σ Q) a1 σ Q) n
set_option maxRecDepth 100000 in
set_option maxHeartbeats 4000000 in
theorem bX6_text_14 {p : Program} {l : Launch} {e : Env} {s : State} {m : MethodId} {args : Array Value} {below : List Frame} {meth : Method} {c : Code} {D : va_G} {F : (Nat → Prop) → State → Prop} {A : Nat → Prop} {ad : Nat → Nat → Nat} {cy : Nat → ClassId} {Rr : va_W} {Q : Int32 → St → Prop} (hF : Stab F) (E : CallFix p m c cX6_text 2 s args TB RX6) (hr : meth.sig.returnType = some .int) (hlk : meth.locks = false) : ∀ (n : Nat) {a1 : Int32} {σ : St} {H : Heap} {locs : List Loc} {ls : Array Slot}, wX6_text_l14 n a1 σ Q → In (D, tysM cy, F) (LM ad cy Rr σ) A s H locs → lv_has ls 2 [(0, .ref (ad 16 99)), (1, .int a1)] → W p l e (rmD 42) s m args below meth c H locs 0 0 (PI below args s (D, tysM cy, F) A (LM ad cy Rr) Q) (F0 m 14 ls []) := by
  have hx := E.1
  have hb := E.2.1
  intro n
  induction n with
  | zero => intro a1 σ H locs ls hf hI hl; exact False.elim hf
  | succ n ih =>
    intro a1 σ H locs ls hf hI hl
    have hf : wX6_text_l14s (fun a1 σ => wX6_text_l14 n a1 σ Q) a1 σ Q := hf
    unfold wX6_text_l14s at hf
    refine lv_iload_n (pc := 14) hx hb dX6_text_14 rfl (lv_at hl 1 rfl) ?_
    refine lv_aload_n (pc := 15) hx hb dX6_text_15 rfl (lv_at hl 0 rfl) ?_
    refine g6_6 (pc := 16) E hI lkX6_147 dX6_text_16 ?_
    refine lv_icmp_ge (tgt := 49) (pc := 19) hx hb dX6_text_19 (by decide) (fun c2 => ?_) (fun c2 => ?_)
    · have hf := hf.1 c2
      refine lv_aload_n (pc := 49) hx hb dX6_text_49 rfl (lv_at hl 0 rfl) ?_
      refine g6_2 (pc := 50) E hI lkX6_17 dX6_text_50 ?_
      refine lv_aload_n (pc := 53) hx hb dX6_text_53 rfl (lv_at hl 0 rfl) ?_
      refine g6_3 (pc := 54) E hI lkX6_70 dX6_text_54 ?_
      refine lv_aload_n (pc := 57) hx hb dX6_text_57 rfl (lv_at hl 0 rfl) ?_
      refine g6_6 (pc := 58) E hI lkX6_147 dX6_text_58 ?_
      have g3 := hf.1
      have hf := hf.2
      refine s6_2 (pc := 61) E hI g3 dX6_text_61 (fun H locs σ4 eσ4 hI => ?_)
      have hf := hf σ4 eσ4
      refine lv_aload_n (pc := 62) hx hb dX6_text_62 rfl (lv_at hl 0 rfl) ?_
      refine lv_iconst (v := 0) (pc := 63) hx hb dX6_text_63 rfl ?_
      refine p6_6 (pc := 64) E hI lkX6_147 dX6_text_64 (fun H locs σ5 eσ5 hI => ?_)
      have hf := hf σ5 eσ5
      refine lv_aload_n (pc := 67) hx hb dX6_text_67 rfl (lv_at hl 0 rfl) ?_
      refine lv_aload_n (pc := 68) hx hb dX6_text_68 rfl (lv_at hl 0 rfl) ?_
      refine g6_3 (pc := 69) E hI lkX6_70 dX6_text_69 ?_
      refine lv_iconst (v := 0) (pc := 72) hx hb dX6_text_72 rfl ?_
      refine callVI (G := (D, tysM cy, F)) (L := LM ad cy Rr) (pc := 73) (As := [.int (gI σ5 16 3), .int 0]) (rest := []) hF E cs0 hl hI (tX6_read hF hf) mwX6_349 (fitD (by decide)) (at6) rfl rfl rfl rfl (Nat.le_of_ble_eq_true rfl) dX6_text_73 (fun r7 σ6 H locs hf hI => ?_)
      refine lv_istore_n (lv' := [(1, .int r7), (0, .ref (ad 16 99))]) (pc := 76) hx hb dX6_text_76 rfl hl (by decide) rfl (fun ls hl => ?_)
      refine lv_aload_n (pc := 77) hx hb dX6_text_77 rfl (lv_at hl 1 rfl) ?_
      refine g6_27 (pc := 78) E hI lkX6_181 dX6_text_78 ?_
      refine lv_if_eq (tgt := 92) (pc := 81) hx hb dX6_text_81 (by decide) (fun c8 => ?_) (fun c8 => ?_)
      · have hf := hf.1 c8
        refine lv_aload_n (pc := 92) hx hb dX6_text_92 rfl (lv_at hl 1 rfl) ?_
        refine lv_dup (pc := 93) hx hb dX6_text_93 rfl ?_
        refine g6_3 (pc := 94) E hI lkX6_70 dX6_text_94 ?_
        refine lv_iconst (v := 1) (pc := 97) hx hb dX6_text_97 rfl ?_
        refine lv_iadd (pc := 98) hx hb dX6_text_98 ?_
        refine p6_3 (pc := 99) E hI lkX6_70 dX6_text_99 (fun H locs σ9 eσ9 hI => ?_)
        have hf := hf σ9 eσ9
        refine lv_aload_n (pc := 102) hx hb dX6_text_102 rfl (lv_at hl 1 rfl) ?_
        refine g6_3 (pc := 103) E hI lkX6_70 dX6_text_103 ?_
        refine lv_iconst (v := 1) (pc := 106) hx hb dX6_text_106 rfl ?_
        refine lv_isub (pc := 107) hx hb dX6_text_107 ?_
        exact rI (pc := 108) E hr hlk hI hf dX6_text_108
      · have hf := hf.2 c8
        refine lv_bipush (v := (-100)) (pc := 84) hx hb dX6_text_84 rfl ?_
        refine lv_aload_n (pc := 86) hx hb dX6_text_86 rfl (lv_at hl 1 rfl) ?_
        refine g6_28 (pc := 87) E hI lkX6_185 dX6_text_87 ?_
        refine lv_isub (pc := 90) hx hb dX6_text_90 ?_
        exact rI (pc := 91) E hr hlk hI hf dX6_text_91
    · have hf := hf.2 c2
      refine lv_aload_n (pc := 22) hx hb dX6_text_22 rfl (lv_at hl 0 rfl) ?_
      refine g6_1 (pc := 23) E hI lkX6_13 dX6_text_23 ?_
      refine lv_sipush (v := 160) (pc := 26) hx hb dX6_text_26 rfl ?_
      refine lv_aload_n (pc := 29) hx hb dX6_text_29 rfl (lv_at hl 0 rfl) ?_
      refine g6_3 (pc := 30) E hI lkX6_70 dX6_text_30 ?_
      refine lv_imul (pc := 33) hx hb dX6_text_33 ?_
      refine lv_iload_n (pc := 34) hx hb dX6_text_34 rfl (lv_at hl 1 rfl) ?_
      refine lv_iadd (pc := 35) hx hb dX6_text_35 ?_
      refine lv_aload_n (pc := 36) hx hb dX6_text_36 rfl (lv_at hl 0 rfl) ?_
      refine g6_5 (pc := 37) E hI lkX6_20 dX6_text_37 ?_
      refine lv_iload_n (pc := 40) hx hb dX6_text_40 rfl (lv_at hl 1 rfl) ?_
      have g10 := hf.1
      have hf := hf.2
      refine a6_5 (pc := 41) E hI g10 dX6_text_41 ?_
      have g11 := hf.1
      have hf := hf.2
      refine s6_1 (pc := 42) E hI g11 dX6_text_42 (fun H locs σ12 eσ12 hI => ?_)
      have hf := hf σ12 eσ12
      obtain ⟨x13, ex13⟩ : ∃ y : Int32, y = a1 + 1 := ⟨_, rfl⟩
      have hf := hf x13 ex13
      refine lv_iinc (v := x13) (lv' := [(1, .int x13), (0, .ref (ad 16 99))]) (pc := 43) hx hb dX6_text_43 hl (k := 1) rfl (by rw [ex13]; rfl) (by decide) rfl (fun ls hl => ?_)
      refine lv_goto (tgt := 14) (pc := 46) hx hb dX6_text_46 (by decide) ?_
      exact ih hf hI (lv_sub hl [1, 0] rfl)
def wX6_text (σ : St) (Q : Int32 → St → Prop) : Prop := ((¬ (gI σ 16 3) = 6 → ∃ n14 : Nat, wX6_text_l14 n14 0 σ Q) ∧ ((gI σ 16 3) = 6 → Q (-4) σ))
set_option maxRecDepth 100000 in
set_option maxHeartbeats 4000000 in
theorem bX6_text {p : Program} {l : Launch} {e : Env} {s : State} {m : MethodId} {args : Array Value} {below : List Frame} {meth : Method} {c : Code} {H : Heap} {locs : List Loc} {ls : Array Slot} {D : va_G} {F : (Nat → Prop) → State → Prop} {A : Nat → Prop} {σ : St} {ad : Nat → Nat → Nat} {cy : Nat → ClassId} {Rr : va_W} {Q : Int32 → St → Prop} (hF : Stab F) (E : CallFix p m c cX6_text 2 s args TB RX6) (hr : meth.sig.returnType = some .int) (hlk : meth.locks = false) (hf : wX6_text σ Q) (hI : In (D, tysM cy, F) (LM ad cy Rr σ) A s H locs) (hl : lv_has ls 2 [(0, .ref (ad 16 99))]) : W p l e (rmD 42) s m args below meth c H locs 0 0 (PI below args s (D, tysM cy, F) A (LM ad cy Rr) Q) (F0 m 0 ls []) := by
  have hx := E.1
  have hb := E.2.1
  unfold wX6_text at hf
  refine lv_aload_n (pc := 0) hx hb dX6_text_0 rfl (lv_at hl 0 rfl) ?_
  refine g6_3 (pc := 1) E hI lkX6_70 dX6_text_1 ?_
  refine lv_bipush (v := 6) (pc := 4) hx hb dX6_text_4 rfl ?_
  refine lv_icmp_ne (tgt := 12) (pc := 6) hx hb dX6_text_6 (by decide) (fun c1 => ?_) (fun c1 => ?_)
  · have hf := hf.1 c1
    refine lv_iconst (v := 0) (pc := 12) hx hb dX6_text_12 rfl ?_
    refine lv_istore_n (lv' := [(1, .int 0), (0, .ref (ad 16 99))]) (pc := 13) hx hb dX6_text_13 rfl hl (by decide) rfl (fun ls hl => ?_)
    obtain ⟨n14, hf⟩ := hf
    exact bX6_text_14 hF E hr hlk n14 hf hI (lv_sub hl [1, 0] rfl)
  · have hf := hf.2 c1
    refine lv_bipush (v := (-4)) (pc := 9) hx hb dX6_text_9 rfl ?_
    exact rI (pc := 11) E hr hlk hI hf dX6_text_11
theorem tX6_text {l : Launch} {D : va_G} {F : (Nat → Prop) → State → Prop} {σ : St} {ad : Nat → Nat → Nat} {cy : Nat → ClassId} {Rr : va_W} {Q : Int32 → St → Prop} (hF : Stab F) (hf : wX6_text σ Q) : CtI l yX6_text cX6_text 2 .int 42 (D, tysM cy, F) (LM ad cy Rr) [.ref (ad 16 99)] σ Q := mkI (by decide) (Nat.le_of_ble_eq_true rfl) (fun p e s m below meth c A E hr hlk hI ls hl => bX6_text hF E hr hlk hf hI hl)

def wX6_says_j86 (s0 : Int32) (s1 : Int32) (σ : St) (Q : Int32 → St → Prop) : Prop := wX6_within s0 s1 99 σ (fun r18 σ17 => Q r18 σ17)
set_option maxRecDepth 100000 in
set_option maxHeartbeats 4000000 in
theorem bX6_says_86 {p : Program} {l : Launch} {e : Env} {s : State} {m : MethodId} {args : Array Value} {below : List Frame} {meth : Method} {c : Code} {H : Heap} {locs : List Loc} {ls : Array Slot} {D : va_G} {F : (Nat → Prop) → State → Prop} {A : Nat → Prop} {σ : St} {ad : Nat → Nat → Nat} {cy : Nat → ClassId} {Rr : va_W} {Q : Int32 → St → Prop} {s0 : Int32} {s1 : Int32} (hF : Stab F) (E : CallFix p m c cX6_says 3 s args TB RX6) (hr : meth.sig.returnType = some .int) (hlk : meth.locks = false) (hf : wX6_says_j86 s0 s1 σ Q) (hI : In (D, tysM cy, F) (LM ad cy Rr σ) A s H locs) (hl : lv_has ls 3 []) : W p l e (rmD 42) s m args below meth c H locs 0 0 (PI below args s (D, tysM cy, F) A (LM ad cy Rr) Q) (F0 m 86 ls [.int s1, .int s0]) := by
  have hx := E.1
  have hb := E.2.1
  unfold wX6_says_j86 at hf
  refine lv_bipush (v := 99) (pc := 86) hx hb dX6_says_86 rfl ?_
  refine callSI (G := (D, tysM cy, F)) (L := LM ad cy Rr) (pc := 88) (As := [.int s0, .int s1, .int 99]) (rest := []) hF E cs0 hl hI (tX6_within hF hf) mwX6_359 (fitD (by decide)) rfl rfl (Nat.le_of_ble_eq_true rfl) dX6_says_88 (fun r18 σ17 H locs hf hI => ?_)
  exact rI (pc := 91) E hr hlk hI hf dX6_says_91
def wX6_says (p1 : Int32) (p2 : Int32) (σ : St) (Q : Int32 → St → Prop) : Prop := vp_in ((5 * p2) + 2) 25 ∧ ∀ σ2 : St, σ2 = sI σ 16 14 (gA σ 16 11 ((5 * p2) + 2).toNatClampNeg) → vp_in ((5 * p2) + 1) 25 ∧ ∀ σ4 : St, σ4 = sI σ2 16 15 (gA σ2 16 11 ((5 * p2) + 1).toNatClampNeg) → vp_in (5 * p2) 25 ∧ ∀ σ6 : St, σ6 = sI σ4 16 16 (gA σ4 16 11 (5 * p2).toNatClampNeg) → ∀ σ7 : St, σ7 = sI σ6 16 17 (gI σ6 16 7) → wX6_bitsOf (gJ σ7 16 8) σ7 (fun r9 σ8 => ∀ σ10 : St, σ10 = sI σ8 16 18 r9 → wX6_boxAll σ10 (fun r12 σ11 => ∀ σ13 : St, σ13 = sI σ11 16 19 r12 → wX6_read (gI σ13 16 4) p1 σ13 (fun r15 σ14 => ((¬ p1 = 0 → (wX6_says_j86 r15 (-99) σ14 Q)) ∧ (p1 = 0 → (wX6_says_j86 r15 0 σ14 Q))))))
set_option maxRecDepth 100000 in
set_option maxHeartbeats 4000000 in
theorem bX6_says {p : Program} {l : Launch} {e : Env} {s : State} {m : MethodId} {args : Array Value} {below : List Frame} {meth : Method} {c : Code} {H : Heap} {locs : List Loc} {ls : Array Slot} {D : va_G} {F : (Nat → Prop) → State → Prop} {A : Nat → Prop} {σ : St} {ad : Nat → Nat → Nat} {cy : Nat → ClassId} {Rr : va_W} {Q : Int32 → St → Prop} {p1 : Int32} {p2 : Int32} (hF : Stab F) (E : CallFix p m c cX6_says 3 s args TB RX6) (hr : meth.sig.returnType = some .int) (hlk : meth.locks = false) (hf : wX6_says p1 p2 σ Q) (hI : In (D, tysM cy, F) (LM ad cy Rr σ) A s H locs) (hl : lv_has ls 3 [(0, .ref (ad 16 99)), (1, .int p1), (2, .int p2)]) : W p l e (rmD 42) s m args below meth c H locs 0 0 (PI below args s (D, tysM cy, F) A (LM ad cy Rr) Q) (F0 m 0 ls []) := by
  have hx := E.1
  have hb := E.2.1
  unfold wX6_says at hf
  refine lv_aload_n (pc := 0) hx hb dX6_says_0 rfl (lv_at hl 0 rfl) ?_
  refine lv_aload_n (pc := 1) hx hb dX6_says_1 rfl (lv_at hl 0 rfl) ?_
  refine g6_11 (pc := 2) E hI lkX6_29 dX6_says_2 ?_
  refine lv_iconst (v := 5) (pc := 5) hx hb dX6_says_5 rfl ?_
  refine lv_iload_n (pc := 6) hx hb dX6_says_6 rfl (lv_at hl 2 rfl) ?_
  refine lv_imul (pc := 7) hx hb dX6_says_7 ?_
  refine lv_iconst (v := 2) (pc := 8) hx hb dX6_says_8 rfl ?_
  refine lv_iadd (pc := 9) hx hb dX6_says_9 ?_
  have g1 := hf.1
  have hf := hf.2
  refine a6_11 (pc := 10) E hI g1 dX6_says_10 ?_
  refine p6_14 (pc := 11) E hI lkX6_204 dX6_says_11 (fun H locs σ2 eσ2 hI => ?_)
  have hf := hf σ2 eσ2
  refine lv_aload_n (pc := 14) hx hb dX6_says_14 rfl (lv_at hl 0 rfl) ?_
  refine lv_aload_n (pc := 15) hx hb dX6_says_15 rfl (lv_at hl 0 rfl) ?_
  refine g6_11 (pc := 16) E hI lkX6_29 dX6_says_16 ?_
  refine lv_iconst (v := 5) (pc := 19) hx hb dX6_says_19 rfl ?_
  refine lv_iload_n (pc := 20) hx hb dX6_says_20 rfl (lv_at hl 2 rfl) ?_
  refine lv_imul (pc := 21) hx hb dX6_says_21 ?_
  refine lv_iconst (v := 1) (pc := 22) hx hb dX6_says_22 rfl ?_
  refine lv_iadd (pc := 23) hx hb dX6_says_23 ?_
  have g3 := hf.1
  have hf := hf.2
  refine a6_11 (pc := 24) E hI g3 dX6_says_24 ?_
  refine p6_15 (pc := 25) E hI lkX6_207 dX6_says_25 (fun H locs σ4 eσ4 hI => ?_)
  have hf := hf σ4 eσ4
  refine lv_aload_n (pc := 28) hx hb dX6_says_28 rfl (lv_at hl 0 rfl) ?_
  refine lv_aload_n (pc := 29) hx hb dX6_says_29 rfl (lv_at hl 0 rfl) ?_
  refine g6_11 (pc := 30) E hI lkX6_29 dX6_says_30 ?_
  refine lv_iconst (v := 5) (pc := 33) hx hb dX6_says_33 rfl ?_
  refine lv_iload_n (pc := 34) hx hb dX6_says_34 rfl (lv_at hl 2 rfl) ?_
  refine lv_imul (pc := 35) hx hb dX6_says_35 ?_
  have g5 := hf.1
  have hf := hf.2
  refine a6_11 (pc := 36) E hI g5 dX6_says_36 ?_
  refine p6_16 (pc := 37) E hI lkX6_210 dX6_says_37 (fun H locs σ6 eσ6 hI => ?_)
  have hf := hf σ6 eσ6
  refine lv_aload_n (pc := 40) hx hb dX6_says_40 rfl (lv_at hl 0 rfl) ?_
  refine lv_aload_n (pc := 41) hx hb dX6_says_41 rfl (lv_at hl 0 rfl) ?_
  refine g6_7 (pc := 42) E hI lkX6_106 dX6_says_42 ?_
  refine p6_17 (pc := 45) E hI lkX6_213 dX6_says_45 (fun H locs σ7 eσ7 hI => ?_)
  have hf := hf σ7 eσ7
  refine lv_aload_n (pc := 48) hx hb dX6_says_48 rfl (lv_at hl 0 rfl) ?_
  refine lv_aload_n (pc := 49) hx hb dX6_says_49 rfl (lv_at hl 0 rfl) ?_
  refine g6_8 (pc := 50) E hI lkX6_109 dX6_says_50 ?_
  refine callSI (G := (D, tysM cy, F)) (L := LM ad cy Rr) (pc := 53) (As := [.long (gJ σ7 16 8)]) (rest := [.ref (ad 16 99)]) hF E cs0 hl hI (tX6_bitsOf hF hf) mwX6_352 (fitD (by decide)) rfl rfl (Nat.le_of_ble_eq_true rfl) dX6_says_53 (fun r9 σ8 H locs hf hI => ?_)
  refine p6_18 (pc := 56) E hI lkX6_216 dX6_says_56 (fun H locs σ10 eσ10 hI => ?_)
  have hf := hf σ10 eσ10
  refine lv_aload_n (pc := 59) hx hb dX6_says_59 rfl (lv_at hl 0 rfl) ?_
  refine lv_aload_n (pc := 60) hx hb dX6_says_60 rfl (lv_at hl 0 rfl) ?_
  refine callVI (G := (D, tysM cy, F)) (L := LM ad cy Rr) (pc := 61) (As := []) (rest := [.ref (ad 16 99)]) hF E cs0 hl hI (tX6_boxAll hF hf) mwX6_356 (fitD (by decide)) (at6) rfl rfl rfl rfl (Nat.le_of_ble_eq_true rfl) dX6_says_61 (fun r12 σ11 H locs hf hI => ?_)
  refine p6_19 (pc := 64) E hI lkX6_219 dX6_says_64 (fun H locs σ13 eσ13 hI => ?_)
  have hf := hf σ13 eσ13
  refine lv_aload_n (pc := 67) hx hb dX6_says_67 rfl (lv_at hl 0 rfl) ?_
  refine lv_aload_n (pc := 68) hx hb dX6_says_68 rfl (lv_at hl 0 rfl) ?_
  refine g6_4 (pc := 69) E hI lkX6_115 dX6_says_69 ?_
  refine lv_iload_n (pc := 72) hx hb dX6_says_72 rfl (lv_at hl 1 rfl) ?_
  refine callVI (G := (D, tysM cy, F)) (L := LM ad cy Rr) (pc := 73) (As := [.int (gI σ13 16 4), .int p1]) (rest := []) hF E cs0 hl hI (tX6_read hF hf) mwX6_349 (fitD (by decide)) (at6) rfl rfl rfl rfl (Nat.le_of_ble_eq_true rfl) dX6_says_73 (fun r15 σ14 H locs hf hI => ?_)
  refine lv_iload_n (pc := 76) hx hb dX6_says_76 rfl (lv_at hl 1 rfl) ?_
  refine lv_if_ne (tgt := 84) (pc := 77) hx hb dX6_says_77 (by decide) (fun c16 => ?_) (fun c16 => ?_)
  · have hf := hf.1 c16
    refine lv_bipush (v := (-99)) (pc := 84) hx hb dX6_says_84 rfl ?_
    exact bX6_says_86 hF E hr hlk hf hI (lv_sub hl [] rfl)
  · have hf := hf.2 c16
    refine lv_iconst (v := 0) (pc := 80) hx hb dX6_says_80 rfl ?_
    refine lv_goto (tgt := 86) (pc := 81) hx hb dX6_says_81 (by decide) ?_
    exact bX6_says_86 hF E hr hlk hf hI (lv_sub hl [] rfl)
theorem tX6_says {l : Launch} {D : va_G} {F : (Nat → Prop) → State → Prop} {σ : St} {ad : Nat → Nat → Nat} {cy : Nat → ClassId} {Rr : va_W} {Q : Int32 → St → Prop} {p1 : Int32} {p2 : Int32} (hF : Stab F) (hf : wX6_says p1 p2 σ Q) : CtI l yX6_says cX6_says 3 .int 42 (D, tysM cy, F) (LM ad cy Rr) [.ref (ad 16 99), .int p1, .int p2] σ Q := mkI (by decide) (Nat.le_of_ble_eq_true rfl) (fun p e s m below meth c A E hr hlk hI ls hl => bX6_says hF E hr hlk hf hI hl)

def wX6_needsOf_j28 (a2 : Int32) (σ : St) (Q : Int32 → St → Prop) : Prop := ((¬ a2 = 5 → Q 2 σ) ∧ (a2 = 5 → Q 1 σ))
set_option maxRecDepth 100000 in
set_option maxHeartbeats 4000000 in
theorem bX6_needsOf_28 {p : Program} {l : Launch} {e : Env} {s : State} {m : MethodId} {args : Array Value} {below : List Frame} {meth : Method} {c : Code} {H : Heap} {locs : List Loc} {ls : Array Slot} {D : va_G} {F : (Nat → Prop) → State → Prop} {A : Nat → Prop} {σ : St} {ad : Nat → Nat → Nat} {cy : Nat → ClassId} {Rr : va_W} {Q : Int32 → St → Prop} {a2 : Int32} (hF : Stab F) (E : CallFix p m c cX6_needsOf 4 s args TB RX6) (hr : meth.sig.returnType = some .int) (hlk : meth.locks = false) (hf : wX6_needsOf_j28 a2 σ Q) (hI : In (D, tysM cy, F) (LM ad cy Rr σ) A s H locs) (hl : lv_has ls 4 [(2, .int a2)]) : W p l e (rmD 43) s m args below meth c H locs 0 0 (PI below args s (D, tysM cy, F) A (LM ad cy Rr) Q) (F0 m 28 ls []) := by
  have hx := E.1
  have hb := E.2.1
  unfold wX6_needsOf_j28 at hf
  refine lv_iload_n (pc := 28) hx hb dX6_needsOf_28 rfl (lv_at hl 0 rfl) ?_
  refine lv_iconst (v := 5) (pc := 29) hx hb dX6_needsOf_29 rfl ?_
  refine lv_icmp_ne (tgt := 37) (pc := 30) hx hb dX6_needsOf_30 (by decide) (fun c4 => ?_) (fun c4 => ?_)
  · have hf := hf.1 c4
    refine lv_iconst (v := 2) (pc := 37) hx hb dX6_needsOf_37 rfl ?_
    exact rI (pc := 38) E hr hlk hI hf dX6_needsOf_38
  · have hf := hf.2 c4
    refine lv_iconst (v := 1) (pc := 33) hx hb dX6_needsOf_33 rfl ?_
    refine lv_goto (tgt := 38) (pc := 34) hx hb dX6_needsOf_34 (by decide) ?_
    exact rI (pc := 38) E hr hlk hI hf dX6_needsOf_38
def wX6_needsOf_j88 (s0 : Int32) (σ : St) (Q : Int32 → St → Prop) : Prop := wX6_within s0 1 99 σ (fun r13 σ12 => Q r13 σ12)
set_option maxRecDepth 100000 in
set_option maxHeartbeats 4000000 in
theorem bX6_needsOf_88 {p : Program} {l : Launch} {e : Env} {s : State} {m : MethodId} {args : Array Value} {below : List Frame} {meth : Method} {c : Code} {H : Heap} {locs : List Loc} {ls : Array Slot} {D : va_G} {F : (Nat → Prop) → State → Prop} {A : Nat → Prop} {σ : St} {ad : Nat → Nat → Nat} {cy : Nat → ClassId} {Rr : va_W} {Q : Int32 → St → Prop} {s0 : Int32} (hF : Stab F) (E : CallFix p m c cX6_needsOf 4 s args TB RX6) (hr : meth.sig.returnType = some .int) (hlk : meth.locks = false) (hf : wX6_needsOf_j88 s0 σ Q) (hI : In (D, tysM cy, F) (LM ad cy Rr σ) A s H locs) (hl : lv_has ls 4 []) : W p l e (rmD 43) s m args below meth c H locs 0 0 (PI below args s (D, tysM cy, F) A (LM ad cy Rr) Q) (F0 m 88 ls [.int s0]) := by
  have hx := E.1
  have hb := E.2.1
  unfold wX6_needsOf_j88 at hf
  refine lv_iconst (v := 1) (pc := 88) hx hb dX6_needsOf_88 rfl ?_
  refine lv_bipush (v := 99) (pc := 89) hx hb dX6_needsOf_89 rfl ?_
  refine callSI (G := (D, tysM cy, F)) (L := LM ad cy Rr) (pc := 91) (As := [.int s0, .int 1, .int 99]) (rest := []) hF E cs0 hl hI (tX6_within hF hf) mwX6_359 (fitD (by decide)) rfl rfl (Nat.le_of_ble_eq_true rfl) dX6_needsOf_91 (fun r13 σ12 H locs hf hI => ?_)
  exact rI (pc := 94) E hr hlk hI hf dX6_needsOf_94
def wX6_needsOf_j39 (a1 : Int32) (a2 : Int32) (σ : St) (Q : Int32 → St → Prop) : Prop := wX6_says 0 a1 σ (fun r7 σ6 => ((¬ a2 = 1 → ((¬ a2 = 3 → ((¬ a2 = 0 → vp_in (5 * a1) 25 ∧ (wX6_needsOf_j88 (r7 + (gA σ6 16 11 (5 * a1).toNatClampNeg)) σ6 Q)) ∧ (a2 = 0 → (wX6_needsOf_j88 r7 σ6 Q)))) ∧ (a2 = 3 → (wX6_needsOf_j88 ((r7 / 2) + 3) σ6 Q)))) ∧ (a2 = 1 → (wX6_needsOf_j88 (r7 / 2) σ6 Q))))
set_option maxRecDepth 100000 in
set_option maxHeartbeats 4000000 in
theorem bX6_needsOf_39 {p : Program} {l : Launch} {e : Env} {s : State} {m : MethodId} {args : Array Value} {below : List Frame} {meth : Method} {c : Code} {H : Heap} {locs : List Loc} {ls : Array Slot} {D : va_G} {F : (Nat → Prop) → State → Prop} {A : Nat → Prop} {σ : St} {ad : Nat → Nat → Nat} {cy : Nat → ClassId} {Rr : va_W} {Q : Int32 → St → Prop} {a1 : Int32} {a2 : Int32} (hF : Stab F) (E : CallFix p m c cX6_needsOf 4 s args TB RX6) (hr : meth.sig.returnType = some .int) (hlk : meth.locks = false) (hf : wX6_needsOf_j39 a1 a2 σ Q) (hI : In (D, tysM cy, F) (LM ad cy Rr σ) A s H locs) (hl : lv_has ls 4 [(0, .ref (ad 16 99)), (1, .int a1), (2, .int a2)]) : W p l e (rmD 43) s m args below meth c H locs 0 0 (PI below args s (D, tysM cy, F) A (LM ad cy Rr) Q) (F0 m 39 ls []) := by
  have hx := E.1
  have hb := E.2.1
  unfold wX6_needsOf_j39 at hf
  refine lv_aload_n (pc := 39) hx hb dX6_needsOf_39 rfl (lv_at hl 0 rfl) ?_
  refine lv_iconst (v := 0) (pc := 40) hx hb dX6_needsOf_40 rfl ?_
  refine lv_iload_n (pc := 41) hx hb dX6_needsOf_41 rfl (lv_at hl 1 rfl) ?_
  refine callVI (G := (D, tysM cy, F)) (L := LM ad cy Rr) (pc := 42) (As := [.int 0, .int a1]) (rest := []) hF E cs0 hl hI (tX6_says hF hf) mwX6_363 (fitD (by decide)) (at6) rfl rfl rfl rfl (Nat.le_of_ble_eq_true rfl) dX6_needsOf_42 (fun r7 σ6 H locs hf hI => ?_)
  refine lv_istore_n (lv' := [(3, .int r7), (0, .ref (ad 16 99)), (1, .int a1), (2, .int a2)]) (pc := 45) hx hb dX6_needsOf_45 rfl hl (by decide) rfl (fun ls hl => ?_)
  refine lv_iload_n (pc := 46) hx hb dX6_needsOf_46 rfl (lv_at hl 3 rfl) ?_
  refine lv_iconst (v := 1) (pc := 47) hx hb dX6_needsOf_47 rfl ?_
  refine lv_icmp_ne (tgt := 57) (pc := 48) hx hb dX6_needsOf_48 (by decide) (fun c8 => ?_) (fun c8 => ?_)
  · have hf := hf.1 c8
    refine lv_iload_n (pc := 57) hx hb dX6_needsOf_57 rfl (lv_at hl 3 rfl) ?_
    refine lv_iconst (v := 3) (pc := 58) hx hb dX6_needsOf_58 rfl ?_
    refine lv_icmp_ne (tgt := 70) (pc := 59) hx hb dX6_needsOf_59 (by decide) (fun c9 => ?_) (fun c9 => ?_)
    · have hf := hf.1 c9
      refine lv_iload_n (pc := 70) hx hb dX6_needsOf_70 rfl (lv_at hl 3 rfl) ?_
      refine lv_if_ne (tgt := 78) (pc := 71) hx hb dX6_needsOf_71 (by decide) (fun c10 => ?_) (fun c10 => ?_)
      · have hf := hf.1 c10
        refine lv_iload_n (pc := 78) hx hb dX6_needsOf_78 rfl (lv_at hl 0 rfl) ?_
        refine lv_aload_n (pc := 79) hx hb dX6_needsOf_79 rfl (lv_at hl 1 rfl) ?_
        refine g6_11 (pc := 80) E hI lkX6_29 dX6_needsOf_80 ?_
        refine lv_iconst (v := 5) (pc := 83) hx hb dX6_needsOf_83 rfl ?_
        refine lv_iload_n (pc := 84) hx hb dX6_needsOf_84 rfl (lv_at hl 2 rfl) ?_
        refine lv_imul (pc := 85) hx hb dX6_needsOf_85 ?_
        have g11 := hf.1
        have hf := hf.2
        refine a6_11 (pc := 86) E hI g11 dX6_needsOf_86 ?_
        refine lv_iadd (pc := 87) hx hb dX6_needsOf_87 ?_
        exact bX6_needsOf_88 hF E hr hlk hf hI (lv_sub hl [] rfl)
      · have hf := hf.2 c10
        refine lv_iload_n (pc := 74) hx hb dX6_needsOf_74 rfl (lv_at hl 0 rfl) ?_
        refine lv_goto (tgt := 88) (pc := 75) hx hb dX6_needsOf_75 (by decide) ?_
        exact bX6_needsOf_88 hF E hr hlk hf hI (lv_sub hl [] rfl)
    · have hf := hf.2 c9
      refine lv_iload_n (pc := 62) hx hb dX6_needsOf_62 rfl (lv_at hl 0 rfl) ?_
      refine lv_iconst (v := 2) (pc := 63) hx hb dX6_needsOf_63 rfl ?_
      refine lv_idiv (pc := 64) hx hb dX6_needsOf_64 (by decide) ?_
      refine lv_iconst (v := 3) (pc := 65) hx hb dX6_needsOf_65 rfl ?_
      refine lv_iadd (pc := 66) hx hb dX6_needsOf_66 ?_
      refine lv_goto (tgt := 88) (pc := 67) hx hb dX6_needsOf_67 (by decide) ?_
      exact bX6_needsOf_88 hF E hr hlk hf hI (lv_sub hl [] rfl)
  · have hf := hf.2 c8
    refine lv_iload_n (pc := 51) hx hb dX6_needsOf_51 rfl (lv_at hl 0 rfl) ?_
    refine lv_iconst (v := 2) (pc := 52) hx hb dX6_needsOf_52 rfl ?_
    refine lv_idiv (pc := 53) hx hb dX6_needsOf_53 (by decide) ?_
    refine lv_goto (tgt := 88) (pc := 54) hx hb dX6_needsOf_54 (by decide) ?_
    exact bX6_needsOf_88 hF E hr hlk hf hI (lv_sub hl [] rfl)
def wX6_needsOf (p1 : Int32) (σ : St) (Q : Int32 → St → Prop) : Prop := vp_in ((5 * p1) + 4) 25 ∧ ∀ x2 : Int32, x2 = (gA σ 16 11 ((5 * p1) + 4).toNatClampNeg) → ((x2 = 5 → (wX6_needsOf_j28 x2 σ Q)) ∧ (¬ x2 = 5 → ((¬ x2 = 4 → (wX6_needsOf_j39 p1 x2 σ Q)) ∧ (x2 = 4 → wX6_boxAll σ (fun r15 σ14 => ((¬ r15 = 0 → (wX6_needsOf_j39 p1 x2 σ14 Q)) ∧ (r15 = 0 → (wX6_needsOf_j28 x2 σ14 Q))))))))
set_option maxRecDepth 100000 in
set_option maxHeartbeats 4000000 in
theorem bX6_needsOf {p : Program} {l : Launch} {e : Env} {s : State} {m : MethodId} {args : Array Value} {below : List Frame} {meth : Method} {c : Code} {H : Heap} {locs : List Loc} {ls : Array Slot} {D : va_G} {F : (Nat → Prop) → State → Prop} {A : Nat → Prop} {σ : St} {ad : Nat → Nat → Nat} {cy : Nat → ClassId} {Rr : va_W} {Q : Int32 → St → Prop} {p1 : Int32} (hF : Stab F) (E : CallFix p m c cX6_needsOf 4 s args TB RX6) (hr : meth.sig.returnType = some .int) (hlk : meth.locks = false) (hf : wX6_needsOf p1 σ Q) (hI : In (D, tysM cy, F) (LM ad cy Rr σ) A s H locs) (hl : lv_has ls 4 [(0, .ref (ad 16 99)), (1, .int p1)]) : W p l e (rmD 43) s m args below meth c H locs 0 0 (PI below args s (D, tysM cy, F) A (LM ad cy Rr) Q) (F0 m 0 ls []) := by
  have hx := E.1
  have hb := E.2.1
  unfold wX6_needsOf at hf
  refine lv_aload_n (pc := 0) hx hb dX6_needsOf_0 rfl (lv_at hl 0 rfl) ?_
  refine g6_11 (pc := 1) E hI lkX6_29 dX6_needsOf_1 ?_
  refine lv_iconst (v := 5) (pc := 4) hx hb dX6_needsOf_4 rfl ?_
  refine lv_iload_n (pc := 5) hx hb dX6_needsOf_5 rfl (lv_at hl 1 rfl) ?_
  refine lv_imul (pc := 6) hx hb dX6_needsOf_6 ?_
  refine lv_iconst (v := 4) (pc := 7) hx hb dX6_needsOf_7 rfl ?_
  refine lv_iadd (pc := 8) hx hb dX6_needsOf_8 ?_
  have g1 := hf.1
  have hf := hf.2
  refine a6_11 (pc := 9) E hI g1 dX6_needsOf_9 ?_
  refine lv_topi (fun x2 ex2 => ?_)
  have hf := hf x2 ex2
  refine lv_istore_n (lv' := [(2, .int x2), (0, .ref (ad 16 99)), (1, .int p1)]) (pc := 10) hx hb dX6_needsOf_10 rfl hl (by decide) rfl (fun ls hl => ?_)
  refine lv_iload_n (pc := 11) hx hb dX6_needsOf_11 rfl (lv_at hl 0 rfl) ?_
  refine lv_iconst (v := 5) (pc := 12) hx hb dX6_needsOf_12 rfl ?_
  refine lv_icmp_eq (tgt := 28) (pc := 13) hx hb dX6_needsOf_13 (by decide) (fun c3 => ?_) (fun c3 => ?_)
  · have hf := hf.1 c3
    exact bX6_needsOf_28 hF E hr hlk hf hI (lv_sub hl [0] rfl)
  · have hf := hf.2 c3
    refine lv_iload_n (pc := 16) hx hb dX6_needsOf_16 rfl (lv_at hl 0 rfl) ?_
    refine lv_iconst (v := 4) (pc := 17) hx hb dX6_needsOf_17 rfl ?_
    refine lv_icmp_ne (tgt := 39) (pc := 18) hx hb dX6_needsOf_18 (by decide) (fun c5 => ?_) (fun c5 => ?_)
    · have hf := hf.1 c5
      exact bX6_needsOf_39 hF E hr hlk hf hI (lv_sub hl [1, 2, 0] rfl)
    · have hf := hf.2 c5
      refine lv_aload_n (pc := 21) hx hb dX6_needsOf_21 rfl (lv_at hl 1 rfl) ?_
      refine callVI (G := (D, tysM cy, F)) (L := LM ad cy Rr) (pc := 22) (As := []) (rest := []) hF E cs0 hl hI (tX6_boxAll hF hf) mwX6_356 (fitD (by decide)) (at6) rfl rfl rfl rfl (Nat.le_of_ble_eq_true rfl) dX6_needsOf_22 (fun r15 σ14 H locs hf hI => ?_)
      refine lv_if_ne (tgt := 39) (pc := 25) hx hb dX6_needsOf_25 (by decide) (fun c16 => ?_) (fun c16 => ?_)
      · have hf := hf.1 c16
        exact bX6_needsOf_39 hF E hr hlk hf hI (lv_sub hl [1, 2, 0] rfl)
      · have hf := hf.2 c16
        exact bX6_needsOf_28 hF E hr hlk hf hI (lv_sub hl [0] rfl)
theorem tX6_needsOf {l : Launch} {D : va_G} {F : (Nat → Prop) → State → Prop} {σ : St} {ad : Nat → Nat → Nat} {cy : Nat → ClassId} {Rr : va_W} {Q : Int32 → St → Prop} {p1 : Int32} (hF : Stab F) (hf : wX6_needsOf p1 σ Q) : CtI l yX6_needsOf cX6_needsOf 4 .int 43 (D, tysM cy, F) (LM ad cy Rr) [.ref (ad 16 99), .int p1] σ Q := mkI (by decide) (Nat.le_of_ble_eq_true rfl) (fun p e s m below meth c A E hr hlk hI ls hl => bX6_needsOf hF E hr hlk hf hI hl)

def wX6_givesOf_j42 (a1 : Int32) (σ : St) (Q : Int32 → St → Prop) : Prop := wX6_says 1 a1 σ (fun r7 σ6 => wX6_round r7 σ6 (fun r9 σ8 => Q r9 σ8))
set_option maxRecDepth 100000 in
set_option maxHeartbeats 4000000 in
theorem bX6_givesOf_42 {p : Program} {l : Launch} {e : Env} {s : State} {m : MethodId} {args : Array Value} {below : List Frame} {meth : Method} {c : Code} {H : Heap} {locs : List Loc} {ls : Array Slot} {D : va_G} {F : (Nat → Prop) → State → Prop} {A : Nat → Prop} {σ : St} {ad : Nat → Nat → Nat} {cy : Nat → ClassId} {Rr : va_W} {Q : Int32 → St → Prop} {a1 : Int32} (hF : Stab F) (E : CallFix p m c cX6_givesOf 5 s args TB RX6) (hr : meth.sig.returnType = some .int) (hlk : meth.locks = false) (hf : wX6_givesOf_j42 a1 σ Q) (hI : In (D, tysM cy, F) (LM ad cy Rr σ) A s H locs) (hl : lv_has ls 5 [(0, .ref (ad 16 99)), (1, .int a1)]) : W p l e (rmD 43) s m args below meth c H locs 0 0 (PI below args s (D, tysM cy, F) A (LM ad cy Rr) Q) (F0 m 42 ls []) := by
  have hx := E.1
  have hb := E.2.1
  unfold wX6_givesOf_j42 at hf
  refine lv_aload_n (pc := 42) hx hb dX6_givesOf_42 rfl (lv_at hl 0 rfl) ?_
  refine lv_iconst (v := 1) (pc := 43) hx hb dX6_givesOf_43 rfl ?_
  refine lv_iload_n (pc := 44) hx hb dX6_givesOf_44 rfl (lv_at hl 1 rfl) ?_
  refine callVI (G := (D, tysM cy, F)) (L := LM ad cy Rr) (pc := 45) (As := [.int 1, .int a1]) (rest := []) hF E cs0 hl hI (tX6_says hF hf) mwX6_363 (fitD (by decide)) (at6) rfl rfl rfl rfl (Nat.le_of_ble_eq_true rfl) dX6_givesOf_45 (fun r7 σ6 H locs hf hI => ?_)
  refine callSI (G := (D, tysM cy, F)) (L := LM ad cy Rr) (pc := 48) (As := [.int r7]) (rest := []) hF E cs0 hl hI (tX6_round hF hf) mwX6_366 (fitD (by decide)) rfl rfl (Nat.le_of_ble_eq_true rfl) dX6_givesOf_48 (fun r9 σ8 H locs hf hI => ?_)
  exact rI (pc := 51) E hr hlk hI hf dX6_givesOf_51
def wX6_givesOf_j111 (s0 : Int32) (σ : St) (Q : Int32 → St → Prop) : Prop := wX6_round s0 σ (fun r16 σ15 => Q r16 σ15)
set_option maxRecDepth 100000 in
set_option maxHeartbeats 4000000 in
theorem bX6_givesOf_111 {p : Program} {l : Launch} {e : Env} {s : State} {m : MethodId} {args : Array Value} {below : List Frame} {meth : Method} {c : Code} {H : Heap} {locs : List Loc} {ls : Array Slot} {D : va_G} {F : (Nat → Prop) → State → Prop} {A : Nat → Prop} {σ : St} {ad : Nat → Nat → Nat} {cy : Nat → ClassId} {Rr : va_W} {Q : Int32 → St → Prop} {s0 : Int32} (hF : Stab F) (E : CallFix p m c cX6_givesOf 5 s args TB RX6) (hr : meth.sig.returnType = some .int) (hlk : meth.locks = false) (hf : wX6_givesOf_j111 s0 σ Q) (hI : In (D, tysM cy, F) (LM ad cy Rr σ) A s H locs) (hl : lv_has ls 5 []) : W p l e (rmD 43) s m args below meth c H locs 0 0 (PI below args s (D, tysM cy, F) A (LM ad cy Rr) Q) (F0 m 111 ls [.int s0]) := by
  have hx := E.1
  have hb := E.2.1
  unfold wX6_givesOf_j111 at hf
  refine callSI (G := (D, tysM cy, F)) (L := LM ad cy Rr) (pc := 111) (As := [.int s0]) (rest := []) hF E cs0 hl hI (tX6_round hF hf) mwX6_366 (fitD (by decide)) rfl rfl (Nat.le_of_ble_eq_true rfl) dX6_givesOf_111 (fun r16 σ15 H locs hf hI => ?_)
  exact rI (pc := 114) E hr hlk hI hf dX6_givesOf_114
def wX6_givesOf_j88 (a3 : Int32) (σ : St) (Q : Int32 → St → Prop) : Prop := (wX6_givesOf_j111 (a3 + 1) σ Q)
set_option maxRecDepth 100000 in
set_option maxHeartbeats 4000000 in
theorem bX6_givesOf_88 {p : Program} {l : Launch} {e : Env} {s : State} {m : MethodId} {args : Array Value} {below : List Frame} {meth : Method} {c : Code} {H : Heap} {locs : List Loc} {ls : Array Slot} {D : va_G} {F : (Nat → Prop) → State → Prop} {A : Nat → Prop} {σ : St} {ad : Nat → Nat → Nat} {cy : Nat → ClassId} {Rr : va_W} {Q : Int32 → St → Prop} {a3 : Int32} (hF : Stab F) (E : CallFix p m c cX6_givesOf 5 s args TB RX6) (hr : meth.sig.returnType = some .int) (hlk : meth.locks = false) (hf : wX6_givesOf_j88 a3 σ Q) (hI : In (D, tysM cy, F) (LM ad cy Rr σ) A s H locs) (hl : lv_has ls 5 [(3, .int a3)]) : W p l e (rmD 43) s m args below meth c H locs 0 0 (PI below args s (D, tysM cy, F) A (LM ad cy Rr) Q) (F0 m 88 ls []) := by
  have hx := E.1
  have hb := E.2.1
  unfold wX6_givesOf_j88 at hf
  refine lv_iload_n (pc := 88) hx hb dX6_givesOf_88 rfl (lv_at hl 0 rfl) ?_
  refine lv_iconst (v := 1) (pc := 89) hx hb dX6_givesOf_89 rfl ?_
  refine lv_iadd (pc := 90) hx hb dX6_givesOf_90 ?_
  refine lv_goto (tgt := 111) (pc := 91) hx hb dX6_givesOf_91 (by decide) ?_
  exact bX6_givesOf_111 hF E hr hlk hf hI (lv_sub hl [] rfl)
def wX6_givesOf_j78 (a1 : Int32) (a2 : Int32) (a3 : Int32) (σ : St) (Q : Int32 → St → Prop) : Prop := ((a2 = 2 → (wX6_givesOf_j88 a3 σ Q)) ∧ (¬ a2 = 2 → ((¬ a2 = 4 → ((¬ a2 = 5 → (wX6_givesOf_j111 a3 σ Q)) ∧ (a2 = 5 → vp_in (5 * a1) 25 ∧ (wX6_givesOf_j111 (gA σ 16 11 (5 * a1).toNatClampNeg) σ Q)))) ∧ (a2 = 4 → (wX6_givesOf_j88 a3 σ Q)))))
set_option maxRecDepth 100000 in
set_option maxHeartbeats 4000000 in
theorem bX6_givesOf_78 {p : Program} {l : Launch} {e : Env} {s : State} {m : MethodId} {args : Array Value} {below : List Frame} {meth : Method} {c : Code} {H : Heap} {locs : List Loc} {ls : Array Slot} {D : va_G} {F : (Nat → Prop) → State → Prop} {A : Nat → Prop} {σ : St} {ad : Nat → Nat → Nat} {cy : Nat → ClassId} {Rr : va_W} {Q : Int32 → St → Prop} {a1 : Int32} {a2 : Int32} {a3 : Int32} (hF : Stab F) (E : CallFix p m c cX6_givesOf 5 s args TB RX6) (hr : meth.sig.returnType = some .int) (hlk : meth.locks = false) (hf : wX6_givesOf_j78 a1 a2 a3 σ Q) (hI : In (D, tysM cy, F) (LM ad cy Rr σ) A s H locs) (hl : lv_has ls 5 [(0, .ref (ad 16 99)), (1, .int a1), (2, .int a2), (3, .int a3)]) : W p l e (rmD 43) s m args below meth c H locs 0 0 (PI below args s (D, tysM cy, F) A (LM ad cy Rr) Q) (F0 m 78 ls []) := by
  have hx := E.1
  have hb := E.2.1
  unfold wX6_givesOf_j78 at hf
  refine lv_iload_n (pc := 78) hx hb dX6_givesOf_78 rfl (lv_at hl 2 rfl) ?_
  refine lv_iconst (v := 2) (pc := 79) hx hb dX6_givesOf_79 rfl ?_
  refine lv_icmp_eq (tgt := 88) (pc := 80) hx hb dX6_givesOf_80 (by decide) (fun c14 => ?_) (fun c14 => ?_)
  · have hf := hf.1 c14
    exact bX6_givesOf_88 hF E hr hlk hf hI (lv_sub hl [3] rfl)
  · have hf := hf.2 c14
    refine lv_iload_n (pc := 83) hx hb dX6_givesOf_83 rfl (lv_at hl 2 rfl) ?_
    refine lv_iconst (v := 4) (pc := 84) hx hb dX6_givesOf_84 rfl ?_
    refine lv_icmp_ne (tgt := 94) (pc := 85) hx hb dX6_givesOf_85 (by decide) (fun c17 => ?_) (fun c17 => ?_)
    · have hf := hf.1 c17
      refine lv_iload_n (pc := 94) hx hb dX6_givesOf_94 rfl (lv_at hl 2 rfl) ?_
      refine lv_iconst (v := 5) (pc := 95) hx hb dX6_givesOf_95 rfl ?_
      refine lv_icmp_ne (tgt := 110) (pc := 96) hx hb dX6_givesOf_96 (by decide) (fun c18 => ?_) (fun c18 => ?_)
      · have hf := hf.1 c18
        refine lv_iload_n (pc := 110) hx hb dX6_givesOf_110 rfl (lv_at hl 3 rfl) ?_
        exact bX6_givesOf_111 hF E hr hlk hf hI (lv_sub hl [] rfl)
      · have hf := hf.2 c18
        refine lv_aload_n (pc := 99) hx hb dX6_givesOf_99 rfl (lv_at hl 0 rfl) ?_
        refine g6_11 (pc := 100) E hI lkX6_29 dX6_givesOf_100 ?_
        refine lv_iconst (v := 5) (pc := 103) hx hb dX6_givesOf_103 rfl ?_
        refine lv_iload_n (pc := 104) hx hb dX6_givesOf_104 rfl (lv_at hl 1 rfl) ?_
        refine lv_imul (pc := 105) hx hb dX6_givesOf_105 ?_
        have g19 := hf.1
        have hf := hf.2
        refine a6_11 (pc := 106) E hI g19 dX6_givesOf_106 ?_
        refine lv_goto (tgt := 111) (pc := 107) hx hb dX6_givesOf_107 (by decide) ?_
        exact bX6_givesOf_111 hF E hr hlk hf hI (lv_sub hl [] rfl)
    · have hf := hf.2 c17
      exact bX6_givesOf_88 hF E hr hlk hf hI (lv_sub hl [3] rfl)
def wX6_givesOf_j52 (a1 : Int32) (a2 : Int32) (a3 : Int32) (σ : St) (Q : Int32 → St → Prop) : Prop := wX6_firstEmpty (-1) σ (fun r12 σ11 => ((¬ a2 = 4 → (wX6_givesOf_j78 a1 a2 a3 σ11 Q)) ∧ (a2 = 4 → ((r12 = (-1) → (wX6_givesOf_j78 a1 a2 a3 σ11 Q)) ∧ (¬ r12 = (-1) → vp_in r12 64 ∧ Q (gA σ11 16 9 r12.toNatClampNeg) σ11)))))
set_option maxRecDepth 100000 in
set_option maxHeartbeats 4000000 in
theorem bX6_givesOf_52 {p : Program} {l : Launch} {e : Env} {s : State} {m : MethodId} {args : Array Value} {below : List Frame} {meth : Method} {c : Code} {H : Heap} {locs : List Loc} {ls : Array Slot} {D : va_G} {F : (Nat → Prop) → State → Prop} {A : Nat → Prop} {σ : St} {ad : Nat → Nat → Nat} {cy : Nat → ClassId} {Rr : va_W} {Q : Int32 → St → Prop} {a1 : Int32} {a2 : Int32} {a3 : Int32} (hF : Stab F) (E : CallFix p m c cX6_givesOf 5 s args TB RX6) (hr : meth.sig.returnType = some .int) (hlk : meth.locks = false) (hf : wX6_givesOf_j52 a1 a2 a3 σ Q) (hI : In (D, tysM cy, F) (LM ad cy Rr σ) A s H locs) (hl : lv_has ls 5 [(0, .ref (ad 16 99)), (1, .int a1), (2, .int a2), (3, .int a3)]) : W p l e (rmD 43) s m args below meth c H locs 0 0 (PI below args s (D, tysM cy, F) A (LM ad cy Rr) Q) (F0 m 52 ls []) := by
  have hx := E.1
  have hb := E.2.1
  unfold wX6_givesOf_j52 at hf
  refine lv_aload_n (pc := 52) hx hb dX6_givesOf_52 rfl (lv_at hl 0 rfl) ?_
  refine lv_iconst (v := (-1)) (pc := 53) hx hb dX6_givesOf_53 rfl ?_
  refine callVI (G := (D, tysM cy, F)) (L := LM ad cy Rr) (pc := 54) (As := [.int (-1)]) (rest := []) hF E cs0 hl hI (tX6_firstEmpty hF hf) mwX6_369 (fitD (by decide)) (at6) rfl rfl rfl rfl (Nat.le_of_ble_eq_true rfl) dX6_givesOf_54 (fun r12 σ11 H locs hf hI => ?_)
  refine lv_istore (lv' := [(4, .int r12), (0, .ref (ad 16 99)), (1, .int a1), (2, .int a2), (3, .int a3)]) (pc := 57) hx hb dX6_givesOf_57 hl (by decide) rfl (fun ls hl => ?_)
  refine lv_iload_n (pc := 59) hx hb dX6_givesOf_59 rfl (lv_at hl 3 rfl) ?_
  refine lv_iconst (v := 4) (pc := 60) hx hb dX6_givesOf_60 rfl ?_
  refine lv_icmp_ne (tgt := 78) (pc := 61) hx hb dX6_givesOf_61 (by decide) (fun c13 => ?_) (fun c13 => ?_)
  · have hf := hf.1 c13
    exact bX6_givesOf_78 hF E hr hlk hf hI (lv_sub hl [1, 2, 3, 4] rfl)
  · have hf := hf.2 c13
    refine lv_iload (pc := 64) hx hb dX6_givesOf_64 (lv_at hl 0 rfl) ?_
    refine lv_iconst (v := (-1)) (pc := 66) hx hb dX6_givesOf_66 rfl ?_
    refine lv_icmp_eq (tgt := 78) (pc := 67) hx hb dX6_givesOf_67 (by decide) (fun c20 => ?_) (fun c20 => ?_)
    · have hf := hf.1 c20
      exact bX6_givesOf_78 hF E hr hlk hf hI (lv_sub hl [1, 2, 3, 4] rfl)
    · have hf := hf.2 c20
      refine lv_aload_n (pc := 70) hx hb dX6_givesOf_70 rfl (lv_at hl 1 rfl) ?_
      refine g6_9 (pc := 71) E hI lkX6_23 dX6_givesOf_71 ?_
      refine lv_iload (pc := 74) hx hb dX6_givesOf_74 (lv_at hl 0 rfl) ?_
      have g21 := hf.1
      have hf := hf.2
      refine a6_9 (pc := 76) E hI g21 dX6_givesOf_76 ?_
      exact rI (pc := 77) E hr hlk hI hf dX6_givesOf_77
def wX6_givesOf (p1 : Int32) (σ : St) (Q : Int32 → St → Prop) : Prop := vp_in ((5 * p1) + 4) 25 ∧ ∀ x2 : Int32, x2 = (gA σ 16 11 ((5 * p1) + 4).toNatClampNeg) → vp_in ((5 * p1) + 1) 25 ∧ ∀ x4 : Int32, x4 = (gA σ 16 11 ((5 * p1) + 1).toNatClampNeg) → ((x2 = 1 → (wX6_givesOf_j42 p1 σ Q)) ∧ (¬ x2 = 1 → ((¬ x2 = 3 → (wX6_givesOf_j52 p1 x2 x4 σ Q)) ∧ (x2 = 3 → ((¬ (irm (gI σ 16 7) 2) = 1 → (wX6_givesOf_j52 p1 x2 x4 σ Q)) ∧ ((irm (gI σ 16 7) 2) = 1 → (wX6_givesOf_j42 p1 σ Q)))))))
set_option maxRecDepth 100000 in
set_option maxHeartbeats 4000000 in
theorem bX6_givesOf {p : Program} {l : Launch} {e : Env} {s : State} {m : MethodId} {args : Array Value} {below : List Frame} {meth : Method} {c : Code} {H : Heap} {locs : List Loc} {ls : Array Slot} {D : va_G} {F : (Nat → Prop) → State → Prop} {A : Nat → Prop} {σ : St} {ad : Nat → Nat → Nat} {cy : Nat → ClassId} {Rr : va_W} {Q : Int32 → St → Prop} {p1 : Int32} (hF : Stab F) (E : CallFix p m c cX6_givesOf 5 s args TB RX6) (hr : meth.sig.returnType = some .int) (hlk : meth.locks = false) (hf : wX6_givesOf p1 σ Q) (hI : In (D, tysM cy, F) (LM ad cy Rr σ) A s H locs) (hl : lv_has ls 5 [(0, .ref (ad 16 99)), (1, .int p1)]) : W p l e (rmD 43) s m args below meth c H locs 0 0 (PI below args s (D, tysM cy, F) A (LM ad cy Rr) Q) (F0 m 0 ls []) := by
  have hx := E.1
  have hb := E.2.1
  unfold wX6_givesOf at hf
  refine lv_aload_n (pc := 0) hx hb dX6_givesOf_0 rfl (lv_at hl 0 rfl) ?_
  refine g6_11 (pc := 1) E hI lkX6_29 dX6_givesOf_1 ?_
  refine lv_iconst (v := 5) (pc := 4) hx hb dX6_givesOf_4 rfl ?_
  refine lv_iload_n (pc := 5) hx hb dX6_givesOf_5 rfl (lv_at hl 1 rfl) ?_
  refine lv_imul (pc := 6) hx hb dX6_givesOf_6 ?_
  refine lv_iconst (v := 4) (pc := 7) hx hb dX6_givesOf_7 rfl ?_
  refine lv_iadd (pc := 8) hx hb dX6_givesOf_8 ?_
  have g1 := hf.1
  have hf := hf.2
  refine a6_11 (pc := 9) E hI g1 dX6_givesOf_9 ?_
  refine lv_topi (fun x2 ex2 => ?_)
  have hf := hf x2 ex2
  refine lv_istore_n (lv' := [(2, .int x2), (0, .ref (ad 16 99)), (1, .int p1)]) (pc := 10) hx hb dX6_givesOf_10 rfl hl (by decide) rfl (fun ls hl => ?_)
  refine lv_aload_n (pc := 11) hx hb dX6_givesOf_11 rfl (lv_at hl 1 rfl) ?_
  refine g6_11 (pc := 12) E hI lkX6_29 dX6_givesOf_12 ?_
  refine lv_iconst (v := 5) (pc := 15) hx hb dX6_givesOf_15 rfl ?_
  refine lv_iload_n (pc := 16) hx hb dX6_givesOf_16 rfl (lv_at hl 2 rfl) ?_
  refine lv_imul (pc := 17) hx hb dX6_givesOf_17 ?_
  refine lv_iconst (v := 1) (pc := 18) hx hb dX6_givesOf_18 rfl ?_
  refine lv_iadd (pc := 19) hx hb dX6_givesOf_19 ?_
  have g3 := hf.1
  have hf := hf.2
  refine a6_11 (pc := 20) E hI g3 dX6_givesOf_20 ?_
  refine lv_topi (fun x4 ex4 => ?_)
  have hf := hf x4 ex4
  refine lv_istore_n (lv' := [(3, .int x4), (2, .int x2), (0, .ref (ad 16 99)), (1, .int p1)]) (pc := 21) hx hb dX6_givesOf_21 rfl hl (by decide) rfl (fun ls hl => ?_)
  refine lv_iload_n (pc := 22) hx hb dX6_givesOf_22 rfl (lv_at hl 1 rfl) ?_
  refine lv_iconst (v := 1) (pc := 23) hx hb dX6_givesOf_23 rfl ?_
  refine lv_icmp_eq (tgt := 42) (pc := 24) hx hb dX6_givesOf_24 (by decide) (fun c5 => ?_) (fun c5 => ?_)
  · have hf := hf.1 c5
    exact bX6_givesOf_42 hF E hr hlk hf hI (lv_sub hl [2, 3] rfl)
  · have hf := hf.2 c5
    refine lv_iload_n (pc := 27) hx hb dX6_givesOf_27 rfl (lv_at hl 1 rfl) ?_
    refine lv_iconst (v := 3) (pc := 28) hx hb dX6_givesOf_28 rfl ?_
    refine lv_icmp_ne (tgt := 52) (pc := 29) hx hb dX6_givesOf_29 (by decide) (fun c10 => ?_) (fun c10 => ?_)
    · have hf := hf.1 c10
      exact bX6_givesOf_52 hF E hr hlk hf hI (lv_sub hl [2, 3, 1, 0] rfl)
    · have hf := hf.2 c10
      refine lv_aload_n (pc := 32) hx hb dX6_givesOf_32 rfl (lv_at hl 2 rfl) ?_
      refine g6_7 (pc := 33) E hI lkX6_106 dX6_givesOf_33 ?_
      refine lv_iconst (v := 2) (pc := 36) hx hb dX6_givesOf_36 rfl ?_
      refine lv_irem1 (pc := 37) hx hb dX6_givesOf_37 (by decide) ?_
      refine lv_iconst (v := 1) (pc := 38) hx hb dX6_givesOf_38 rfl ?_
      refine lv_icmp_ne (tgt := 52) (pc := 39) hx hb dX6_givesOf_39 (by decide) (fun c22 => ?_) (fun c22 => ?_)
      · have hf := hf.1 c22
        exact bX6_givesOf_52 hF E hr hlk hf hI (lv_sub hl [2, 3, 1, 0] rfl)
      · have hf := hf.2 c22
        exact bX6_givesOf_42 hF E hr hlk hf hI (lv_sub hl [2, 3] rfl)
theorem tX6_givesOf {l : Launch} {D : va_G} {F : (Nat → Prop) → State → Prop} {σ : St} {ad : Nat → Nat → Nat} {cy : Nat → ClassId} {Rr : va_W} {Q : Int32 → St → Prop} {p1 : Int32} (hF : Stab F) (hf : wX6_givesOf p1 σ Q) : CtI l yX6_givesOf cX6_givesOf 5 .int 43 (D, tysM cy, F) (LM ad cy Rr) [.ref (ad 16 99), .int p1] σ Q := mkI (by decide) (Nat.le_of_ble_eq_true rfl) (fun p e s m below meth c A E hr hlk hI ls hl => bX6_givesOf hF E hr hlk hf hI hl)

def wX6_turnsOf_j51 (s0 : Int32) (σ : St) (Q : Int32 → St → Prop) : Prop := wX6_round s0 σ (fun r9 σ8 => Q r9 σ8)
set_option maxRecDepth 100000 in
set_option maxHeartbeats 4000000 in
theorem bX6_turnsOf_51 {p : Program} {l : Launch} {e : Env} {s : State} {m : MethodId} {args : Array Value} {below : List Frame} {meth : Method} {c : Code} {H : Heap} {locs : List Loc} {ls : Array Slot} {D : va_G} {F : (Nat → Prop) → State → Prop} {A : Nat → Prop} {σ : St} {ad : Nat → Nat → Nat} {cy : Nat → ClassId} {Rr : va_W} {Q : Int32 → St → Prop} {s0 : Int32} (hF : Stab F) (E : CallFix p m c cX6_turnsOf 5 s args TB RX6) (hr : meth.sig.returnType = some .int) (hlk : meth.locks = false) (hf : wX6_turnsOf_j51 s0 σ Q) (hI : In (D, tysM cy, F) (LM ad cy Rr σ) A s H locs) (hl : lv_has ls 5 []) : W p l e (rmD 43) s m args below meth c H locs 0 0 (PI below args s (D, tysM cy, F) A (LM ad cy Rr) Q) (F0 m 51 ls [.int s0]) := by
  have hx := E.1
  have hb := E.2.1
  unfold wX6_turnsOf_j51 at hf
  refine callSI (G := (D, tysM cy, F)) (L := LM ad cy Rr) (pc := 51) (As := [.int s0]) (rest := []) hF E cs0 hl hI (tX6_round hF hf) mwX6_366 (fitD (by decide)) rfl rfl (Nat.le_of_ble_eq_true rfl) dX6_turnsOf_51 (fun r9 σ8 H locs hf hI => ?_)
  exact rI (pc := 54) E hr hlk hI hf dX6_turnsOf_54
def wX6_turnsOf_j32 (a1 : Int32) (a2 : Int32) (a3 : Int32) (σ : St) (Q : Int32 → St → Prop) : Prop := ((¬ a2 = 1 → vp_in (5 * a1) 25 ∧ (wX6_turnsOf_j51 (a3 + (gA σ 16 11 (5 * a1).toNatClampNeg)) σ Q)) ∧ (a2 = 1 → (wX6_turnsOf_j51 a3 σ Q)))
set_option maxRecDepth 100000 in
set_option maxHeartbeats 4000000 in
theorem bX6_turnsOf_32 {p : Program} {l : Launch} {e : Env} {s : State} {m : MethodId} {args : Array Value} {below : List Frame} {meth : Method} {c : Code} {H : Heap} {locs : List Loc} {ls : Array Slot} {D : va_G} {F : (Nat → Prop) → State → Prop} {A : Nat → Prop} {σ : St} {ad : Nat → Nat → Nat} {cy : Nat → ClassId} {Rr : va_W} {Q : Int32 → St → Prop} {a1 : Int32} {a2 : Int32} {a3 : Int32} (hF : Stab F) (E : CallFix p m c cX6_turnsOf 5 s args TB RX6) (hr : meth.sig.returnType = some .int) (hlk : meth.locks = false) (hf : wX6_turnsOf_j32 a1 a2 a3 σ Q) (hI : In (D, tysM cy, F) (LM ad cy Rr σ) A s H locs) (hl : lv_has ls 5 [(0, .ref (ad 16 99)), (1, .int a1), (2, .int a2), (3, .int a3)]) : W p l e (rmD 43) s m args below meth c H locs 0 0 (PI below args s (D, tysM cy, F) A (LM ad cy Rr) Q) (F0 m 32 ls []) := by
  have hx := E.1
  have hb := E.2.1
  unfold wX6_turnsOf_j32 at hf
  refine lv_iload_n (pc := 32) hx hb dX6_turnsOf_32 rfl (lv_at hl 2 rfl) ?_
  refine lv_iconst (v := 1) (pc := 33) hx hb dX6_turnsOf_33 rfl ?_
  refine lv_icmp_ne (tgt := 41) (pc := 34) hx hb dX6_turnsOf_34 (by decide) (fun c6 => ?_) (fun c6 => ?_)
  · have hf := hf.1 c6
    refine lv_iload_n (pc := 41) hx hb dX6_turnsOf_41 rfl (lv_at hl 3 rfl) ?_
    refine lv_aload_n (pc := 42) hx hb dX6_turnsOf_42 rfl (lv_at hl 0 rfl) ?_
    refine g6_11 (pc := 43) E hI lkX6_29 dX6_turnsOf_43 ?_
    refine lv_iconst (v := 5) (pc := 46) hx hb dX6_turnsOf_46 rfl ?_
    refine lv_iload_n (pc := 47) hx hb dX6_turnsOf_47 rfl (lv_at hl 1 rfl) ?_
    refine lv_imul (pc := 48) hx hb dX6_turnsOf_48 ?_
    have g7 := hf.1
    have hf := hf.2
    refine a6_11 (pc := 49) E hI g7 dX6_turnsOf_49 ?_
    refine lv_iadd (pc := 50) hx hb dX6_turnsOf_50 ?_
    exact bX6_turnsOf_51 hF E hr hlk hf hI (lv_sub hl [] rfl)
  · have hf := hf.2 c6
    refine lv_iload_n (pc := 37) hx hb dX6_turnsOf_37 rfl (lv_at hl 3 rfl) ?_
    refine lv_goto (tgt := 51) (pc := 38) hx hb dX6_turnsOf_38 (by decide) ?_
    exact bX6_turnsOf_51 hF E hr hlk hf hI (lv_sub hl [] rfl)
def wX6_turnsOf_j95 (s0 : Int32) (σ : St) (Q : Int32 → St → Prop) : Prop := wX6_round s0 σ (fun r16 σ15 => Q r16 σ15)
set_option maxRecDepth 100000 in
set_option maxHeartbeats 4000000 in
theorem bX6_turnsOf_95 {p : Program} {l : Launch} {e : Env} {s : State} {m : MethodId} {args : Array Value} {below : List Frame} {meth : Method} {c : Code} {H : Heap} {locs : List Loc} {ls : Array Slot} {D : va_G} {F : (Nat → Prop) → State → Prop} {A : Nat → Prop} {σ : St} {ad : Nat → Nat → Nat} {cy : Nat → ClassId} {Rr : va_W} {Q : Int32 → St → Prop} {s0 : Int32} (hF : Stab F) (E : CallFix p m c cX6_turnsOf 5 s args TB RX6) (hr : meth.sig.returnType = some .int) (hlk : meth.locks = false) (hf : wX6_turnsOf_j95 s0 σ Q) (hI : In (D, tysM cy, F) (LM ad cy Rr σ) A s H locs) (hl : lv_has ls 5 []) : W p l e (rmD 43) s m args below meth c H locs 0 0 (PI below args s (D, tysM cy, F) A (LM ad cy Rr) Q) (F0 m 95 ls [.int s0]) := by
  have hx := E.1
  have hb := E.2.1
  unfold wX6_turnsOf_j95 at hf
  refine callSI (G := (D, tysM cy, F)) (L := LM ad cy Rr) (pc := 95) (As := [.int s0]) (rest := []) hF E cs0 hl hI (tX6_round hF hf) mwX6_366 (fitD (by decide)) rfl rfl (Nat.le_of_ble_eq_true rfl) dX6_turnsOf_95 (fun r16 σ15 H locs hf hI => ?_)
  exact rI (pc := 98) E hr hlk hI hf dX6_turnsOf_98
def wX6_turnsOf (p1 : Int32) (σ : St) (Q : Int32 → St → Prop) : Prop := vp_in ((5 * p1) + 4) 25 ∧ ∀ x2 : Int32, x2 = (gA σ 16 11 ((5 * p1) + 4).toNatClampNeg) → vp_in ((5 * p1) + 1) 25 ∧ ∀ x4 : Int32, x4 = (gA σ 16 11 ((5 * p1) + 1).toNatClampNeg) → ((x2 = 1 → (wX6_turnsOf_j32 p1 x2 x4 σ Q)) ∧ (¬ x2 = 1 → ((¬ x2 = 3 → wX6_says 2 p1 σ (fun r12 σ11 => ((¬ x2 = 0 → ((¬ x2 = 5 → (wX6_turnsOf_j95 (r12 + x4) σ11 Q)) ∧ (x2 = 5 → vp_in (5 * p1) 25 ∧ (wX6_turnsOf_j95 (r12 - (gA σ11 16 11 (5 * p1).toNatClampNeg)) σ11 Q)))) ∧ (x2 = 0 → (wX6_turnsOf_j95 r12 σ11 Q))))) ∧ (x2 = 3 → (wX6_turnsOf_j32 p1 x2 x4 σ Q)))))
set_option maxRecDepth 100000 in
set_option maxHeartbeats 4000000 in
theorem bX6_turnsOf {p : Program} {l : Launch} {e : Env} {s : State} {m : MethodId} {args : Array Value} {below : List Frame} {meth : Method} {c : Code} {H : Heap} {locs : List Loc} {ls : Array Slot} {D : va_G} {F : (Nat → Prop) → State → Prop} {A : Nat → Prop} {σ : St} {ad : Nat → Nat → Nat} {cy : Nat → ClassId} {Rr : va_W} {Q : Int32 → St → Prop} {p1 : Int32} (hF : Stab F) (E : CallFix p m c cX6_turnsOf 5 s args TB RX6) (hr : meth.sig.returnType = some .int) (hlk : meth.locks = false) (hf : wX6_turnsOf p1 σ Q) (hI : In (D, tysM cy, F) (LM ad cy Rr σ) A s H locs) (hl : lv_has ls 5 [(0, .ref (ad 16 99)), (1, .int p1)]) : W p l e (rmD 43) s m args below meth c H locs 0 0 (PI below args s (D, tysM cy, F) A (LM ad cy Rr) Q) (F0 m 0 ls []) := by
  have hx := E.1
  have hb := E.2.1
  unfold wX6_turnsOf at hf
  refine lv_aload_n (pc := 0) hx hb dX6_turnsOf_0 rfl (lv_at hl 0 rfl) ?_
  refine g6_11 (pc := 1) E hI lkX6_29 dX6_turnsOf_1 ?_
  refine lv_iconst (v := 5) (pc := 4) hx hb dX6_turnsOf_4 rfl ?_
  refine lv_iload_n (pc := 5) hx hb dX6_turnsOf_5 rfl (lv_at hl 1 rfl) ?_
  refine lv_imul (pc := 6) hx hb dX6_turnsOf_6 ?_
  refine lv_iconst (v := 4) (pc := 7) hx hb dX6_turnsOf_7 rfl ?_
  refine lv_iadd (pc := 8) hx hb dX6_turnsOf_8 ?_
  have g1 := hf.1
  have hf := hf.2
  refine a6_11 (pc := 9) E hI g1 dX6_turnsOf_9 ?_
  refine lv_topi (fun x2 ex2 => ?_)
  have hf := hf x2 ex2
  refine lv_istore_n (lv' := [(2, .int x2), (0, .ref (ad 16 99)), (1, .int p1)]) (pc := 10) hx hb dX6_turnsOf_10 rfl hl (by decide) rfl (fun ls hl => ?_)
  refine lv_aload_n (pc := 11) hx hb dX6_turnsOf_11 rfl (lv_at hl 1 rfl) ?_
  refine g6_11 (pc := 12) E hI lkX6_29 dX6_turnsOf_12 ?_
  refine lv_iconst (v := 5) (pc := 15) hx hb dX6_turnsOf_15 rfl ?_
  refine lv_iload_n (pc := 16) hx hb dX6_turnsOf_16 rfl (lv_at hl 2 rfl) ?_
  refine lv_imul (pc := 17) hx hb dX6_turnsOf_17 ?_
  refine lv_iconst (v := 1) (pc := 18) hx hb dX6_turnsOf_18 rfl ?_
  refine lv_iadd (pc := 19) hx hb dX6_turnsOf_19 ?_
  have g3 := hf.1
  have hf := hf.2
  refine a6_11 (pc := 20) E hI g3 dX6_turnsOf_20 ?_
  refine lv_topi (fun x4 ex4 => ?_)
  have hf := hf x4 ex4
  refine lv_istore_n (lv' := [(3, .int x4), (2, .int x2), (0, .ref (ad 16 99)), (1, .int p1)]) (pc := 21) hx hb dX6_turnsOf_21 rfl hl (by decide) rfl (fun ls hl => ?_)
  refine lv_iload_n (pc := 22) hx hb dX6_turnsOf_22 rfl (lv_at hl 1 rfl) ?_
  refine lv_iconst (v := 1) (pc := 23) hx hb dX6_turnsOf_23 rfl ?_
  refine lv_icmp_eq (tgt := 32) (pc := 24) hx hb dX6_turnsOf_24 (by decide) (fun c5 => ?_) (fun c5 => ?_)
  · have hf := hf.1 c5
    exact bX6_turnsOf_32 hF E hr hlk hf hI (lv_sub hl [2, 3, 1, 0] rfl)
  · have hf := hf.2 c5
    refine lv_iload_n (pc := 27) hx hb dX6_turnsOf_27 rfl (lv_at hl 1 rfl) ?_
    refine lv_iconst (v := 3) (pc := 28) hx hb dX6_turnsOf_28 rfl ?_
    refine lv_icmp_ne (tgt := 55) (pc := 29) hx hb dX6_turnsOf_29 (by decide) (fun c10 => ?_) (fun c10 => ?_)
    · have hf := hf.1 c10
      refine lv_aload_n (pc := 55) hx hb dX6_turnsOf_55 rfl (lv_at hl 2 rfl) ?_
      refine lv_iconst (v := 2) (pc := 56) hx hb dX6_turnsOf_56 rfl ?_
      refine lv_iload_n (pc := 57) hx hb dX6_turnsOf_57 rfl (lv_at hl 3 rfl) ?_
      refine callVI (G := (D, tysM cy, F)) (L := LM ad cy Rr) (pc := 58) (As := [.int 2, .int p1]) (rest := []) hF E cs0 hl hI (tX6_says hF hf) mwX6_363 (fitD (by decide)) (at6) rfl rfl rfl rfl (Nat.le_of_ble_eq_true rfl) dX6_turnsOf_58 (fun r12 σ11 H locs hf hI => ?_)
      refine lv_istore (lv' := [(4, .int r12), (3, .int x4), (2, .int x2), (0, .ref (ad 16 99)), (1, .int p1)]) (pc := 61) hx hb dX6_turnsOf_61 hl (by decide) rfl (fun ls hl => ?_)
      refine lv_iload_n (pc := 63) hx hb dX6_turnsOf_63 rfl (lv_at hl 2 rfl) ?_
      refine lv_if_ne (tgt := 72) (pc := 64) hx hb dX6_turnsOf_64 (by decide) (fun c13 => ?_) (fun c13 => ?_)
      · have hf := hf.1 c13
        refine lv_iload_n (pc := 72) hx hb dX6_turnsOf_72 rfl (lv_at hl 2 rfl) ?_
        refine lv_iconst (v := 5) (pc := 73) hx hb dX6_turnsOf_73 rfl ?_
        refine lv_icmp_ne (tgt := 91) (pc := 74) hx hb dX6_turnsOf_74 (by decide) (fun c14 => ?_) (fun c14 => ?_)
        · have hf := hf.1 c14
          refine lv_iload (pc := 91) hx hb dX6_turnsOf_91 (lv_at hl 0 rfl) ?_
          refine lv_iload_n (pc := 93) hx hb dX6_turnsOf_93 rfl (lv_at hl 1 rfl) ?_
          refine lv_iadd (pc := 94) hx hb dX6_turnsOf_94 ?_
          exact bX6_turnsOf_95 hF E hr hlk hf hI (lv_sub hl [] rfl)
        · have hf := hf.2 c14
          refine lv_iload (pc := 77) hx hb dX6_turnsOf_77 (lv_at hl 0 rfl) ?_
          refine lv_aload_n (pc := 79) hx hb dX6_turnsOf_79 rfl (lv_at hl 3 rfl) ?_
          refine g6_11 (pc := 80) E hI lkX6_29 dX6_turnsOf_80 ?_
          refine lv_iconst (v := 5) (pc := 83) hx hb dX6_turnsOf_83 rfl ?_
          refine lv_iload_n (pc := 84) hx hb dX6_turnsOf_84 rfl (lv_at hl 4 rfl) ?_
          refine lv_imul (pc := 85) hx hb dX6_turnsOf_85 ?_
          have g17 := hf.1
          have hf := hf.2
          refine a6_11 (pc := 86) E hI g17 dX6_turnsOf_86 ?_
          refine lv_isub (pc := 87) hx hb dX6_turnsOf_87 ?_
          refine lv_goto (tgt := 95) (pc := 88) hx hb dX6_turnsOf_88 (by decide) ?_
          exact bX6_turnsOf_95 hF E hr hlk hf hI (lv_sub hl [] rfl)
      · have hf := hf.2 c13
        refine lv_iload (pc := 67) hx hb dX6_turnsOf_67 (lv_at hl 0 rfl) ?_
        refine lv_goto (tgt := 95) (pc := 69) hx hb dX6_turnsOf_69 (by decide) ?_
        exact bX6_turnsOf_95 hF E hr hlk hf hI (lv_sub hl [] rfl)
    · have hf := hf.2 c10
      exact bX6_turnsOf_32 hF E hr hlk hf hI (lv_sub hl [2, 3, 1, 0] rfl)
theorem tX6_turnsOf {l : Launch} {D : va_G} {F : (Nat → Prop) → State → Prop} {σ : St} {ad : Nat → Nat → Nat} {cy : Nat → ClassId} {Rr : va_W} {Q : Int32 → St → Prop} {p1 : Int32} (hF : Stab F) (hf : wX6_turnsOf p1 σ Q) : CtI l yX6_turnsOf cX6_turnsOf 5 .int 43 (D, tysM cy, F) (LM ad cy Rr) [.ref (ad 16 99), .int p1] σ Q := mkI (by decide) (Nat.le_of_ble_eq_true rfl) (fun p e s m below meth c A E hr hlk hI ls hl => bX6_turnsOf hF E hr hlk hf hI hl)

def wX6_told (p1 : Int32) (p2 : Int32) (σ : St) (Q : Int32 → St → Prop) : Prop := wX6_in (p2.toInt64) 0 11 σ (fun r2 σ1 => ((r2 = 0 → Q (-1000) σ1) ∧ (¬ r2 = 0 → wX6_isOf p2 p1 σ1 (fun r5 σ4 => ((¬ r5 = 0 → ((4 ≤ p2 → ((9 ≤ p2 → ((¬ p2 = 9 → ((¬ p2 = 10 → wX6_turnsOf p1 σ4 (fun r12 σ11 => Q r12 σ11)) ∧ (p2 = 10 → wX6_givesOf p1 σ4 (fun r14 σ13 => Q r14 σ13)))) ∧ (p2 = 9 → wX6_needsOf p1 σ4 (fun r16 σ15 => Q r16 σ15)))) ∧ (¬ 9 ≤ p2 → vp_in (((5 * p1) + p2) - 4) 25 ∧ Q (gA σ4 16 11 (((5 * p1) + p2) - 4).toNatClampNeg) σ4))) ∧ (¬ 4 ≤ p2 → ((¬ p2 = 0 → ((¬ p2 = 1 → ((¬ p2 = 2 → vp_in p1 4 ∧ Q (gA σ4 16 10 p1.toNatClampNeg) σ4) ∧ (p2 = 2 → wX6_has (gJ σ4 16 8) p1 σ4 (fun r23 σ22 => ((r23 = 0 → Q 0 σ22) ∧ (¬ r23 = 0 → Q 1 σ22)))))) ∧ (p2 = 1 → vp_in p1 64 ∧ Q (gA σ4 16 9 p1.toNatClampNeg) σ4))) ∧ (p2 = 0 → Q (gI σ4 16 7) σ4))))) ∧ (r5 = 0 → Q (-1000) σ4))))))
set_option maxRecDepth 100000 in
set_option maxHeartbeats 4000000 in
theorem bX6_told {p : Program} {l : Launch} {e : Env} {s : State} {m : MethodId} {args : Array Value} {below : List Frame} {meth : Method} {c : Code} {H : Heap} {locs : List Loc} {ls : Array Slot} {D : va_G} {F : (Nat → Prop) → State → Prop} {A : Nat → Prop} {σ : St} {ad : Nat → Nat → Nat} {cy : Nat → ClassId} {Rr : va_W} {Q : Int32 → St → Prop} {p1 : Int32} {p2 : Int32} (hF : Stab F) (E : CallFix p m c cX6_told 3 s args TB RX6) (hr : meth.sig.returnType = some .int) (hlk : meth.locks = false) (hf : wX6_told p1 p2 σ Q) (hI : In (D, tysM cy, F) (LM ad cy Rr σ) A s H locs) (hl : lv_has ls 3 [(0, .ref (ad 16 99)), (1, .int p1), (2, .int p2)]) : W p l e (rmD 44) s m args below meth c H locs 0 0 (PI below args s (D, tysM cy, F) A (LM ad cy Rr) Q) (F0 m 0 ls []) := by
  have hx := E.1
  have hb := E.2.1
  unfold wX6_told at hf
  refine lv_iload_n (pc := 0) hx hb dX6_told_0 rfl (lv_at hl 2 rfl) ?_
  refine lv_i2l (v := (p2.toInt64)) (pc := 1) hx hb dX6_told_1 rfl ?_
  refine lv_lconst (v := 0) (pc := 2) hx hb dX6_told_2 rfl ?_
  refine lv_ldc2 (pc := 3) E.1 E.2.1 E.2.2.2.1 (E.2.2.2.2 _ kcX6_122) dX6_told_3 ?_
  refine callSI (G := (D, tysM cy, F)) (L := LM ad cy Rr) (pc := 6) (As := [.long (p2.toInt64), .long 0, .long 11]) (rest := []) hF E cs0 hl hI (tX6_in hF hf) mwX6_76 (fitD (by decide)) rfl rfl (Nat.le_of_ble_eq_true rfl) dX6_told_6 (fun r2 σ1 H locs hf hI => ?_)
  refine lv_if_eq (tgt := 21) (pc := 9) hx hb dX6_told_9 (by decide) (fun c3 => ?_) (fun c3 => ?_)
  · have hf := hf.1 c3
    refine lv_sipush (v := (-1000)) (pc := 21) hx hb dX6_told_21 rfl ?_
    exact rI (pc := 24) E hr hlk hI hf dX6_told_24
  · have hf := hf.2 c3
    refine lv_aload_n (pc := 12) hx hb dX6_told_12 rfl (lv_at hl 0 rfl) ?_
    refine lv_iload_n (pc := 13) hx hb dX6_told_13 rfl (lv_at hl 2 rfl) ?_
    refine lv_iload_n (pc := 14) hx hb dX6_told_14 rfl (lv_at hl 1 rfl) ?_
    refine callVI (G := (D, tysM cy, F)) (L := LM ad cy Rr) (pc := 15) (As := [.int p2, .int p1]) (rest := []) hF E cs0 hl hI (tX6_isOf hF hf) mwX6_90 (fitD (by decide)) (at6) rfl rfl rfl rfl (Nat.le_of_ble_eq_true rfl) dX6_told_15 (fun r5 σ4 H locs hf hI => ?_)
    refine lv_if_ne (tgt := 25) (pc := 18) hx hb dX6_told_18 (by decide) (fun c6 => ?_) (fun c6 => ?_)
    · have hf := hf.1 c6
      refine lv_iload_n (pc := 25) hx hb dX6_told_25 rfl (lv_at hl 2 rfl) ?_
      refine lv_iconst (v := 4) (pc := 26) hx hb dX6_told_26 rfl ?_
      refine lv_icmp_ge (tgt := 86) (pc := 27) hx hb dX6_told_27 (by decide) (fun c7 => ?_) (fun c7 => ?_)
      · have hf := hf.1 c7
        refine lv_iload_n (pc := 86) hx hb dX6_told_86 rfl (lv_at hl 2 rfl) ?_
        refine lv_bipush (v := 9) (pc := 87) hx hb dX6_told_87 rfl ?_
        refine lv_icmp_ge (tgt := 105) (pc := 89) hx hb dX6_told_89 (by decide) (fun c8 => ?_) (fun c8 => ?_)
        · have hf := hf.1 c8
          refine lv_iload_n (pc := 105) hx hb dX6_told_105 rfl (lv_at hl 2 rfl) ?_
          refine lv_bipush (v := 9) (pc := 106) hx hb dX6_told_106 rfl ?_
          refine lv_icmp_ne (tgt := 119) (pc := 108) hx hb dX6_told_108 (by decide) (fun c9 => ?_) (fun c9 => ?_)
          · have hf := hf.1 c9
            refine lv_iload_n (pc := 119) hx hb dX6_told_119 rfl (lv_at hl 2 rfl) ?_
            refine lv_bipush (v := 10) (pc := 120) hx hb dX6_told_120 rfl ?_
            refine lv_icmp_ne (tgt := 133) (pc := 122) hx hb dX6_told_122 (by decide) (fun c10 => ?_) (fun c10 => ?_)
            · have hf := hf.1 c10
              refine lv_aload_n (pc := 133) hx hb dX6_told_133 rfl (lv_at hl 0 rfl) ?_
              refine lv_iload_n (pc := 134) hx hb dX6_told_134 rfl (lv_at hl 1 rfl) ?_
              refine callVI (G := (D, tysM cy, F)) (L := LM ad cy Rr) (pc := 135) (As := [.int p1]) (rest := []) hF E cs0 hl hI (tX6_turnsOf hF hf) mwX6_134 (fitD (by decide)) (at6) rfl rfl rfl rfl (Nat.le_of_ble_eq_true rfl) dX6_told_135 (fun r12 σ11 H locs hf hI => ?_)
              exact rI (pc := 138) E hr hlk hI hf dX6_told_138
            · have hf := hf.2 c10
              refine lv_aload_n (pc := 125) hx hb dX6_told_125 rfl (lv_at hl 0 rfl) ?_
              refine lv_iload_n (pc := 126) hx hb dX6_told_126 rfl (lv_at hl 1 rfl) ?_
              refine callVI (G := (D, tysM cy, F)) (L := LM ad cy Rr) (pc := 127) (As := [.int p1]) (rest := []) hF E cs0 hl hI (tX6_givesOf hF hf) mwX6_131 (fitD (by decide)) (at6) rfl rfl rfl rfl (Nat.le_of_ble_eq_true rfl) dX6_told_127 (fun r14 σ13 H locs hf hI => ?_)
              refine lv_goto (tgt := 138) (pc := 130) hx hb dX6_told_130 (by decide) ?_
              exact rI (pc := 138) E hr hlk hI hf dX6_told_138
          · have hf := hf.2 c9
            refine lv_aload_n (pc := 111) hx hb dX6_told_111 rfl (lv_at hl 0 rfl) ?_
            refine lv_iload_n (pc := 112) hx hb dX6_told_112 rfl (lv_at hl 1 rfl) ?_
            refine callVI (G := (D, tysM cy, F)) (L := LM ad cy Rr) (pc := 113) (As := [.int p1]) (rest := []) hF E cs0 hl hI (tX6_needsOf hF hf) mwX6_128 (fitD (by decide)) (at6) rfl rfl rfl rfl (Nat.le_of_ble_eq_true rfl) dX6_told_113 (fun r16 σ15 H locs hf hI => ?_)
            refine lv_goto (tgt := 138) (pc := 116) hx hb dX6_told_116 (by decide) ?_
            exact rI (pc := 138) E hr hlk hI hf dX6_told_138
        · have hf := hf.2 c8
          refine lv_aload_n (pc := 92) hx hb dX6_told_92 rfl (lv_at hl 0 rfl) ?_
          refine g6_11 (pc := 93) E hI lkX6_29 dX6_told_93 ?_
          refine lv_iconst (v := 5) (pc := 96) hx hb dX6_told_96 rfl ?_
          refine lv_iload_n (pc := 97) hx hb dX6_told_97 rfl (lv_at hl 1 rfl) ?_
          refine lv_imul (pc := 98) hx hb dX6_told_98 ?_
          refine lv_iload_n (pc := 99) hx hb dX6_told_99 rfl (lv_at hl 2 rfl) ?_
          refine lv_iadd (pc := 100) hx hb dX6_told_100 ?_
          refine lv_iconst (v := 4) (pc := 101) hx hb dX6_told_101 rfl ?_
          refine lv_isub (pc := 102) hx hb dX6_told_102 ?_
          have g17 := hf.1
          have hf := hf.2
          refine a6_11 (pc := 103) E hI g17 dX6_told_103 ?_
          exact rI (pc := 104) E hr hlk hI hf dX6_told_104
      · have hf := hf.2 c7
        refine lv_iload_n (pc := 30) hx hb dX6_told_30 rfl (lv_at hl 2 rfl) ?_
        refine lv_if_ne (tgt := 41) (pc := 31) hx hb dX6_told_31 (by decide) (fun c18 => ?_) (fun c18 => ?_)
        · have hf := hf.1 c18
          refine lv_iload_n (pc := 41) hx hb dX6_told_41 rfl (lv_at hl 2 rfl) ?_
          refine lv_iconst (v := 1) (pc := 42) hx hb dX6_told_42 rfl ?_
          refine lv_icmp_ne (tgt := 55) (pc := 43) hx hb dX6_told_43 (by decide) (fun c19 => ?_) (fun c19 => ?_)
          · have hf := hf.1 c19
            refine lv_iload_n (pc := 55) hx hb dX6_told_55 rfl (lv_at hl 2 rfl) ?_
            refine lv_iconst (v := 2) (pc := 56) hx hb dX6_told_56 rfl ?_
            refine lv_icmp_ne (tgt := 79) (pc := 57) hx hb dX6_told_57 (by decide) (fun c20 => ?_) (fun c20 => ?_)
            · have hf := hf.1 c20
              refine lv_aload_n (pc := 79) hx hb dX6_told_79 rfl (lv_at hl 0 rfl) ?_
              refine g6_10 (pc := 80) E hI lkX6_26 dX6_told_80 ?_
              refine lv_iload_n (pc := 83) hx hb dX6_told_83 rfl (lv_at hl 1 rfl) ?_
              have g21 := hf.1
              have hf := hf.2
              refine a6_10 (pc := 84) E hI g21 dX6_told_84 ?_
              exact rI (pc := 85) E hr hlk hI hf dX6_told_85
            · have hf := hf.2 c20
              refine lv_aload_n (pc := 60) hx hb dX6_told_60 rfl (lv_at hl 0 rfl) ?_
              refine g6_8 (pc := 61) E hI lkX6_109 dX6_told_61 ?_
              refine lv_iload_n (pc := 64) hx hb dX6_told_64 rfl (lv_at hl 1 rfl) ?_
              refine callSI (G := (D, tysM cy, F)) (L := LM ad cy Rr) (pc := 65) (As := [.long (gJ σ4 16 8), .int p1]) (rest := []) hF E cs0 hl hI (tX6_has hF hf) mwX6_124 (fitD (by decide)) rfl rfl (Nat.le_of_ble_eq_true rfl) dX6_told_65 (fun r23 σ22 H locs hf hI => ?_)
              refine lv_if_eq (tgt := 75) (pc := 68) hx hb dX6_told_68 (by decide) (fun c24 => ?_) (fun c24 => ?_)
              · have hf := hf.1 c24
                refine lv_iconst (v := 0) (pc := 75) hx hb dX6_told_75 rfl ?_
                refine lv_goto (tgt := 85) (pc := 76) hx hb dX6_told_76 (by decide) ?_
                exact rI (pc := 85) E hr hlk hI hf dX6_told_85
              · have hf := hf.2 c24
                refine lv_iconst (v := 1) (pc := 71) hx hb dX6_told_71 rfl ?_
                refine lv_goto (tgt := 85) (pc := 72) hx hb dX6_told_72 (by decide) ?_
                exact rI (pc := 85) E hr hlk hI hf dX6_told_85
          · have hf := hf.2 c19
            refine lv_aload_n (pc := 46) hx hb dX6_told_46 rfl (lv_at hl 0 rfl) ?_
            refine g6_9 (pc := 47) E hI lkX6_23 dX6_told_47 ?_
            refine lv_iload_n (pc := 50) hx hb dX6_told_50 rfl (lv_at hl 1 rfl) ?_
            have g25 := hf.1
            have hf := hf.2
            refine a6_9 (pc := 51) E hI g25 dX6_told_51 ?_
            refine lv_goto (tgt := 85) (pc := 52) hx hb dX6_told_52 (by decide) ?_
            exact rI (pc := 85) E hr hlk hI hf dX6_told_85
        · have hf := hf.2 c18
          refine lv_aload_n (pc := 34) hx hb dX6_told_34 rfl (lv_at hl 0 rfl) ?_
          refine g6_7 (pc := 35) E hI lkX6_106 dX6_told_35 ?_
          refine lv_goto (tgt := 85) (pc := 38) hx hb dX6_told_38 (by decide) ?_
          exact rI (pc := 85) E hr hlk hI hf dX6_told_85
    · have hf := hf.2 c6
      refine lv_sipush (v := (-1000)) (pc := 21) hx hb dX6_told_21 rfl ?_
      exact rI (pc := 24) E hr hlk hI hf dX6_told_24
theorem tX6_told {l : Launch} {D : va_G} {F : (Nat → Prop) → State → Prop} {σ : St} {ad : Nat → Nat → Nat} {cy : Nat → ClassId} {Rr : va_W} {Q : Int32 → St → Prop} {p1 : Int32} {p2 : Int32} (hF : Stab F) (hf : wX6_told p1 p2 σ Q) : CtI l yX6_told cX6_told 3 .int 44 (D, tysM cy, F) (LM ad cy Rr) [.ref (ad 16 99), .int p1, .int p2] σ Q := mkI (by decide) (Nat.le_of_ble_eq_true rfl) (fun p e s m below meth c A E hr hlk hI ls hl => bX6_told hF E hr hlk hf hI hl)

def wX6_looks_j94 (a2 : Int32) (a4 : Int32) (σ : St) (Q : St → Prop) : Prop := vp_in (a2 + 1) 25 ∧ ∀ σ22 : St, σ22 = sA σ 16 11 (a2 + 1).toNatClampNeg a4 → vp_in (a2 + 2) 25 ∧ ∀ σ24 : St, σ24 = sA σ22 16 11 (a2 + 2).toNatClampNeg 0 → Q σ24
set_option maxRecDepth 100000 in
set_option maxHeartbeats 4000000 in
theorem bX6_looks_94 {p : Program} {l : Launch} {e : Env} {s : State} {m : MethodId} {args : Array Value} {below : List Frame} {meth : Method} {c : Code} {H : Heap} {locs : List Loc} {ls : Array Slot} {D : va_G} {F : (Nat → Prop) → State → Prop} {A : Nat → Prop} {σ : St} {ad : Nat → Nat → Nat} {cy : Nat → ClassId} {Rr : va_W} {Q : St → Prop} {a2 : Int32} {a4 : Int32} (hF : Stab F) (E : CallFix p m c cX6_looks 5 s args TB RX6) (hr : meth.sig.returnType = none) (hlk : meth.locks = false) (hf : wX6_looks_j94 a2 a4 σ Q) (hI : In (D, tysM cy, F) (LM ad cy Rr σ) A s H locs) (hl : lv_has ls 5 [(0, .ref (ad 16 99)), (2, .int a2), (4, .int a4)]) : W p l e (rmD 44) s m args below meth c H locs 0 0 (PV below args s (D, tysM cy, F) A (LM ad cy Rr) Q) (F0 m 94 ls []) := by
  have hx := E.1
  have hb := E.2.1
  unfold wX6_looks_j94 at hf
  refine lv_aload_n (pc := 94) hx hb dX6_looks_94 rfl (lv_at hl 0 rfl) ?_
  refine g6_11 (pc := 95) E hI lkX6_29 dX6_looks_95 ?_
  refine lv_iload_n (pc := 98) hx hb dX6_looks_98 rfl (lv_at hl 1 rfl) ?_
  refine lv_iconst (v := 1) (pc := 99) hx hb dX6_looks_99 rfl ?_
  refine lv_iadd (pc := 100) hx hb dX6_looks_100 ?_
  refine lv_iload (pc := 101) hx hb dX6_looks_101 (lv_at hl 2 rfl) ?_
  have g21 := hf.1
  have hf := hf.2
  refine s6_11 (pc := 103) E hI g21 dX6_looks_103 (fun H locs σ22 eσ22 hI => ?_)
  have hf := hf σ22 eσ22
  refine lv_aload_n (pc := 104) hx hb dX6_looks_104 rfl (lv_at hl 0 rfl) ?_
  refine g6_11 (pc := 105) E hI lkX6_29 dX6_looks_105 ?_
  refine lv_iload_n (pc := 108) hx hb dX6_looks_108 rfl (lv_at hl 1 rfl) ?_
  refine lv_iconst (v := 2) (pc := 109) hx hb dX6_looks_109 rfl ?_
  refine lv_iadd (pc := 110) hx hb dX6_looks_110 ?_
  refine lv_iconst (v := 0) (pc := 111) hx hb dX6_looks_111 rfl ?_
  have g23 := hf.1
  have hf := hf.2
  refine s6_11 (pc := 112) E hI g23 dX6_looks_112 (fun H locs σ24 eσ24 hI => ?_)
  have hf := hf σ24 eσ24
  exact rV (pc := 113) E hr hlk hI hf dX6_looks_113
def wX6_looks (p1 : Int32) (σ : St) (Q : St → Prop) : Prop := ∀ x1 : Int32, x1 = (5 * p1) → vp_in (x1 + 2) 25 ∧ wX6_within ((gA σ 16 11 (x1 + 2).toNatClampNeg) + 1) 0 99 σ (fun r4 σ3 => vp_in (x1 + 2) 25 ∧ ∀ σ6 : St, σ6 = sA σ3 16 11 (x1 + 2).toNatClampNeg r4 → vp_in (x1 + 2) 25 ∧ wX6_needsOf p1 σ6 (fun r9 σ8 => (((gA σ6 16 11 (x1 + 2).toNatClampNeg) < r9 → Q σ8) ∧ (¬ (gA σ6 16 11 (x1 + 2).toNatClampNeg) < r9 → wX6_givesOf p1 σ8 (fun r12 σ11 => wX6_turnsOf p1 σ11 (fun r14 σ13 => vp_in (x1 + 3) 25 ∧ wX6_within ((gA σ13 16 11 (x1 + 3).toNatClampNeg) + 1) 0 99 σ13 (fun r17 σ16 => vp_in (x1 + 3) 25 ∧ ∀ σ19 : St, σ19 = sA σ16 16 11 (x1 + 3).toNatClampNeg r17 → ((p1 = (gI σ19 16 13) → (wX6_looks_j94 x1 r14 σ19 Q)) ∧ (¬ p1 = (gI σ19 16 13) → wX6_goesIn r12 σ19 (fun σ25 => (wX6_looks_j94 x1 r14 σ25 Q)))))))))))
set_option maxRecDepth 100000 in
set_option maxHeartbeats 4000000 in
theorem bX6_looks {p : Program} {l : Launch} {e : Env} {s : State} {m : MethodId} {args : Array Value} {below : List Frame} {meth : Method} {c : Code} {H : Heap} {locs : List Loc} {ls : Array Slot} {D : va_G} {F : (Nat → Prop) → State → Prop} {A : Nat → Prop} {σ : St} {ad : Nat → Nat → Nat} {cy : Nat → ClassId} {Rr : va_W} {Q : St → Prop} {p1 : Int32} (hF : Stab F) (E : CallFix p m c cX6_looks 5 s args TB RX6) (hr : meth.sig.returnType = none) (hlk : meth.locks = false) (hf : wX6_looks p1 σ Q) (hI : In (D, tysM cy, F) (LM ad cy Rr σ) A s H locs) (hl : lv_has ls 5 [(0, .ref (ad 16 99)), (1, .int p1)]) : W p l e (rmD 44) s m args below meth c H locs 0 0 (PV below args s (D, tysM cy, F) A (LM ad cy Rr) Q) (F0 m 0 ls []) := by
  have hx := E.1
  have hb := E.2.1
  unfold wX6_looks at hf
  refine lv_iconst (v := 5) (pc := 0) hx hb dX6_looks_0 rfl ?_
  refine lv_iload_n (pc := 1) hx hb dX6_looks_1 rfl (lv_at hl 1 rfl) ?_
  refine lv_imul (pc := 2) hx hb dX6_looks_2 ?_
  refine lv_topi (fun x1 ex1 => ?_)
  have hf := hf x1 ex1
  refine lv_istore_n (lv' := [(2, .int x1), (0, .ref (ad 16 99)), (1, .int p1)]) (pc := 3) hx hb dX6_looks_3 rfl hl (by decide) rfl (fun ls hl => ?_)
  refine lv_aload_n (pc := 4) hx hb dX6_looks_4 rfl (lv_at hl 1 rfl) ?_
  refine g6_11 (pc := 5) E hI lkX6_29 dX6_looks_5 ?_
  refine lv_iload_n (pc := 8) hx hb dX6_looks_8 rfl (lv_at hl 0 rfl) ?_
  refine lv_iconst (v := 2) (pc := 9) hx hb dX6_looks_9 rfl ?_
  refine lv_iadd (pc := 10) hx hb dX6_looks_10 ?_
  refine lv_aload_n (pc := 11) hx hb dX6_looks_11 rfl (lv_at hl 1 rfl) ?_
  refine g6_11 (pc := 12) E hI lkX6_29 dX6_looks_12 ?_
  refine lv_iload_n (pc := 15) hx hb dX6_looks_15 rfl (lv_at hl 0 rfl) ?_
  refine lv_iconst (v := 2) (pc := 16) hx hb dX6_looks_16 rfl ?_
  refine lv_iadd (pc := 17) hx hb dX6_looks_17 ?_
  have g2 := hf.1
  have hf := hf.2
  refine a6_11 (pc := 18) E hI g2 dX6_looks_18 ?_
  refine lv_iconst (v := 1) (pc := 19) hx hb dX6_looks_19 rfl ?_
  refine lv_iadd (pc := 20) hx hb dX6_looks_20 ?_
  refine lv_iconst (v := 0) (pc := 21) hx hb dX6_looks_21 rfl ?_
  refine lv_bipush (v := 99) (pc := 22) hx hb dX6_looks_22 rfl ?_
  refine callSI (G := (D, tysM cy, F)) (L := LM ad cy Rr) (pc := 24) (As := [.int ((gA σ 16 11 (x1 + 2).toNatClampNeg) + 1), .int 0, .int 99]) (rest := [.int (x1 + 2), .ref (ad 16 11)]) hF E cs0 hl hI (tX6_within hF hf) mwX6_359 (fitD (by decide)) rfl rfl (Nat.le_of_ble_eq_true rfl) dX6_looks_24 (fun r4 σ3 H locs hf hI => ?_)
  have g5 := hf.1
  have hf := hf.2
  refine s6_11 (pc := 27) E hI g5 dX6_looks_27 (fun H locs σ6 eσ6 hI => ?_)
  have hf := hf σ6 eσ6
  refine lv_aload_n (pc := 28) hx hb dX6_looks_28 rfl (lv_at hl 1 rfl) ?_
  refine g6_11 (pc := 29) E hI lkX6_29 dX6_looks_29 ?_
  refine lv_iload_n (pc := 32) hx hb dX6_looks_32 rfl (lv_at hl 0 rfl) ?_
  refine lv_iconst (v := 2) (pc := 33) hx hb dX6_looks_33 rfl ?_
  refine lv_iadd (pc := 34) hx hb dX6_looks_34 ?_
  have g7 := hf.1
  have hf := hf.2
  refine a6_11 (pc := 35) E hI g7 dX6_looks_35 ?_
  refine lv_aload_n (pc := 36) hx hb dX6_looks_36 rfl (lv_at hl 1 rfl) ?_
  refine lv_iload_n (pc := 37) hx hb dX6_looks_37 rfl (lv_at hl 2 rfl) ?_
  refine callVI (G := (D, tysM cy, F)) (L := LM ad cy Rr) (pc := 38) (As := [.int p1]) (rest := [.int (gA σ6 16 11 (x1 + 2).toNatClampNeg)]) hF E cs0 hl hI (tX6_needsOf hF hf) mwX6_128 (fitD (by decide)) (at6) rfl rfl rfl rfl (Nat.le_of_ble_eq_true rfl) dX6_looks_38 (fun r9 σ8 H locs hf hI => ?_)
  refine lv_icmp_lt (tgt := 113) (pc := 41) hx hb dX6_looks_41 (by decide) (fun c10 => ?_) (fun c10 => ?_)
  · have hf := hf.1 c10
    exact rV (pc := 113) E hr hlk hI hf dX6_looks_113
  · have hf := hf.2 c10
    refine lv_aload_n (pc := 44) hx hb dX6_looks_44 rfl (lv_at hl 1 rfl) ?_
    refine lv_iload_n (pc := 45) hx hb dX6_looks_45 rfl (lv_at hl 2 rfl) ?_
    refine callVI (G := (D, tysM cy, F)) (L := LM ad cy Rr) (pc := 46) (As := [.int p1]) (rest := []) hF E cs0 hl hI (tX6_givesOf hF hf) mwX6_131 (fitD (by decide)) (at6) rfl rfl rfl rfl (Nat.le_of_ble_eq_true rfl) dX6_looks_46 (fun r12 σ11 H locs hf hI => ?_)
    refine lv_istore_n (lv' := [(3, .int r12), (2, .int x1), (0, .ref (ad 16 99)), (1, .int p1)]) (pc := 49) hx hb dX6_looks_49 rfl hl (by decide) rfl (fun ls hl => ?_)
    refine lv_aload_n (pc := 50) hx hb dX6_looks_50 rfl (lv_at hl 2 rfl) ?_
    refine lv_iload_n (pc := 51) hx hb dX6_looks_51 rfl (lv_at hl 3 rfl) ?_
    refine callVI (G := (D, tysM cy, F)) (L := LM ad cy Rr) (pc := 52) (As := [.int p1]) (rest := []) hF E cs0 hl hI (tX6_turnsOf hF hf) mwX6_134 (fitD (by decide)) (at6) rfl rfl rfl rfl (Nat.le_of_ble_eq_true rfl) dX6_looks_52 (fun r14 σ13 H locs hf hI => ?_)
    refine lv_istore (lv' := [(4, .int r14), (3, .int r12), (2, .int x1), (0, .ref (ad 16 99)), (1, .int p1)]) (pc := 55) hx hb dX6_looks_55 hl (by decide) rfl (fun ls hl => ?_)
    refine lv_aload_n (pc := 57) hx hb dX6_looks_57 rfl (lv_at hl 3 rfl) ?_
    refine g6_11 (pc := 58) E hI lkX6_29 dX6_looks_58 ?_
    refine lv_iload_n (pc := 61) hx hb dX6_looks_61 rfl (lv_at hl 2 rfl) ?_
    refine lv_iconst (v := 3) (pc := 62) hx hb dX6_looks_62 rfl ?_
    refine lv_iadd (pc := 63) hx hb dX6_looks_63 ?_
    refine lv_aload_n (pc := 64) hx hb dX6_looks_64 rfl (lv_at hl 3 rfl) ?_
    refine g6_11 (pc := 65) E hI lkX6_29 dX6_looks_65 ?_
    refine lv_iload_n (pc := 68) hx hb dX6_looks_68 rfl (lv_at hl 2 rfl) ?_
    refine lv_iconst (v := 3) (pc := 69) hx hb dX6_looks_69 rfl ?_
    refine lv_iadd (pc := 70) hx hb dX6_looks_70 ?_
    have g15 := hf.1
    have hf := hf.2
    refine a6_11 (pc := 71) E hI g15 dX6_looks_71 ?_
    refine lv_iconst (v := 1) (pc := 72) hx hb dX6_looks_72 rfl ?_
    refine lv_iadd (pc := 73) hx hb dX6_looks_73 ?_
    refine lv_iconst (v := 0) (pc := 74) hx hb dX6_looks_74 rfl ?_
    refine lv_bipush (v := 99) (pc := 75) hx hb dX6_looks_75 rfl ?_
    refine callSI (G := (D, tysM cy, F)) (L := LM ad cy Rr) (pc := 77) (As := [.int ((gA σ13 16 11 (x1 + 3).toNatClampNeg) + 1), .int 0, .int 99]) (rest := [.int (x1 + 3), .ref (ad 16 11)]) hF E cs0 hl hI (tX6_within hF hf) mwX6_359 (fitD (by decide)) rfl rfl (Nat.le_of_ble_eq_true rfl) dX6_looks_77 (fun r17 σ16 H locs hf hI => ?_)
    have g18 := hf.1
    have hf := hf.2
    refine s6_11 (pc := 80) E hI g18 dX6_looks_80 (fun H locs σ19 eσ19 hI => ?_)
    have hf := hf σ19 eσ19
    refine lv_iload_n (pc := 81) hx hb dX6_looks_81 rfl (lv_at hl 4 rfl) ?_
    refine lv_aload_n (pc := 82) hx hb dX6_looks_82 rfl (lv_at hl 3 rfl) ?_
    refine g6_13 (pc := 83) E hI lkX6_32 dX6_looks_83 ?_
    refine lv_icmp_eq (tgt := 94) (pc := 86) hx hb dX6_looks_86 (by decide) (fun c20 => ?_) (fun c20 => ?_)
    · have hf := hf.1 c20
      exact bX6_looks_94 hF E hr hlk hf hI (lv_sub hl [3, 2, 0] rfl)
    · have hf := hf.2 c20
      refine lv_aload_n (pc := 89) hx hb dX6_looks_89 rfl (lv_at hl 3 rfl) ?_
      refine lv_iload_n (pc := 90) hx hb dX6_looks_90 rfl (lv_at hl 1 rfl) ?_
      refine callVV (G := (D, tysM cy, F)) (L := LM ad cy Rr) (pc := 91) (As := [.int r12]) (rest := []) hF E cs0 hl hI (tX6_goesIn hF hf) mwX6_372 (fitD (by decide)) (at6) rfl rfl rfl rfl (Nat.le_of_ble_eq_true rfl) dX6_looks_91 (fun σ25 H locs hf hI => ?_)
      exact bX6_looks_94 hF E hr hlk hf hI (lv_sub hl [3, 2, 0] rfl)
theorem tX6_looks {l : Launch} {D : va_G} {F : (Nat → Prop) → State → Prop} {σ : St} {ad : Nat → Nat → Nat} {cy : Nat → ClassId} {Rr : va_W} {Q : St → Prop} {p1 : Int32} (hF : Stab F) (hf : wX6_looks p1 σ Q) : CtV l yX6_looks cX6_looks 5 44 (D, tysM cy, F) (LM ad cy Rr) [.ref (ad 16 99), .int p1] σ Q := mkV (by decide) (Nat.le_of_ble_eq_true rfl) (fun p e s m below meth c A E hr hlk hI ls hl => bX6_looks hF E hr hlk hf hI hl)

def wX6_set (p1 : Int32) (p2 : Int32) (p3 : Int32) (σ : St) (Q : Int32 → St → Prop) : Prop := wX6_in (p1.toInt64) 0 7 σ (fun r2 σ1 => ((r2 = 0 → Q (-2) σ1) ∧ (¬ r2 = 0 → wX6_isOf p1 p2 σ1 (fun r5 σ4 => ((r5 = 0 → Q (-2) σ4) ∧ (¬ r5 = 0 → wX6_mostOf p1 σ4 (fun r8 σ7 => wX6_in (p3.toInt64) 0 (r8.toInt64) σ7 (fun r10 σ9 => ((¬ r10 = 0 → wX6_told p2 p1 σ9 (fun r13 σ12 => wX6_lays p1 p2 p3 σ12 (fun σ14 => Q r13 σ14))) ∧ (r10 = 0 → Q (-2) σ9))))))))))
set_option maxRecDepth 100000 in
set_option maxHeartbeats 4000000 in
theorem bX6_set {p : Program} {l : Launch} {e : Env} {s : State} {m : MethodId} {args : Array Value} {below : List Frame} {meth : Method} {c : Code} {H : Heap} {locs : List Loc} {ls : Array Slot} {D : va_G} {F : (Nat → Prop) → State → Prop} {A : Nat → Prop} {σ : St} {ad : Nat → Nat → Nat} {cy : Nat → ClassId} {Rr : va_W} {Q : Int32 → St → Prop} {p1 : Int32} {p2 : Int32} {p3 : Int32} (hF : Stab F) (E : CallFix p m c cX6_set 5 s args TB RX6) (hr : meth.sig.returnType = some .int) (hlk : meth.locks = false) (hf : wX6_set p1 p2 p3 σ Q) (hI : In (D, tysM cy, F) (LM ad cy Rr σ) A s H locs) (hl : lv_has ls 5 [(0, .ref (ad 16 99)), (1, .int p1), (2, .int p2), (3, .int p3)]) : W p l e (rmD 45) s m args below meth c H locs 0 0 (PI below args s (D, tysM cy, F) A (LM ad cy Rr) Q) (F0 m 0 ls []) := by
  have hx := E.1
  have hb := E.2.1
  unfold wX6_set at hf
  refine lv_iload_n (pc := 0) hx hb dX6_set_0 rfl (lv_at hl 1 rfl) ?_
  refine lv_i2l (v := (p1.toInt64)) (pc := 1) hx hb dX6_set_1 rfl ?_
  refine lv_lconst (v := 0) (pc := 2) hx hb dX6_set_2 rfl ?_
  refine lv_ldc2 (pc := 3) E.1 E.2.1 E.2.2.2.1 (E.2.2.2.2 _ kcX6_88) dX6_set_3 ?_
  refine callSI (G := (D, tysM cy, F)) (L := LM ad cy Rr) (pc := 6) (As := [.long (p1.toInt64), .long 0, .long 7]) (rest := []) hF E cs0 hl hI (tX6_in hF hf) mwX6_76 (fitD (by decide)) rfl rfl (Nat.le_of_ble_eq_true rfl) dX6_set_6 (fun r2 σ1 H locs hf hI => ?_)
  refine lv_if_eq (tgt := 35) (pc := 9) hx hb dX6_set_9 (by decide) (fun c3 => ?_) (fun c3 => ?_)
  · have hf := hf.1 c3
    refine lv_bipush (v := (-2)) (pc := 35) hx hb dX6_set_35 rfl ?_
    exact rI (pc := 37) E hr hlk hI hf dX6_set_37
  · have hf := hf.2 c3
    refine lv_aload_n (pc := 12) hx hb dX6_set_12 rfl (lv_at hl 0 rfl) ?_
    refine lv_iload_n (pc := 13) hx hb dX6_set_13 rfl (lv_at hl 1 rfl) ?_
    refine lv_iload_n (pc := 14) hx hb dX6_set_14 rfl (lv_at hl 2 rfl) ?_
    refine callVI (G := (D, tysM cy, F)) (L := LM ad cy Rr) (pc := 15) (As := [.int p1, .int p2]) (rest := []) hF E cs0 hl hI (tX6_isOf hF hf) mwX6_90 (fitD (by decide)) (at6) rfl rfl rfl rfl (Nat.le_of_ble_eq_true rfl) dX6_set_15 (fun r5 σ4 H locs hf hI => ?_)
    refine lv_if_eq (tgt := 35) (pc := 18) hx hb dX6_set_18 (by decide) (fun c6 => ?_) (fun c6 => ?_)
    · have hf := hf.1 c6
      refine lv_bipush (v := (-2)) (pc := 35) hx hb dX6_set_35 rfl ?_
      exact rI (pc := 37) E hr hlk hI hf dX6_set_37
    · have hf := hf.2 c6
      refine lv_iload_n (pc := 21) hx hb dX6_set_21 rfl (lv_at hl 3 rfl) ?_
      refine lv_i2l (v := (p3.toInt64)) (pc := 22) hx hb dX6_set_22 rfl ?_
      refine lv_lconst (v := 0) (pc := 23) hx hb dX6_set_23 rfl ?_
      refine lv_iload_n (pc := 24) hx hb dX6_set_24 rfl (lv_at hl 1 rfl) ?_
      refine callSI (G := (D, tysM cy, F)) (L := LM ad cy Rr) (pc := 25) (As := [.int p1]) (rest := [.long 0, .long (p3.toInt64)]) hF E cs0 hl hI (tX6_mostOf hF hf) mwX6_94 (fitD (by decide)) rfl rfl (Nat.le_of_ble_eq_true rfl) dX6_set_25 (fun r8 σ7 H locs hf hI => ?_)
      refine lv_i2l (v := (r8.toInt64)) (pc := 28) hx hb dX6_set_28 rfl ?_
      refine callSI (G := (D, tysM cy, F)) (L := LM ad cy Rr) (pc := 29) (As := [.long (p3.toInt64), .long 0, .long (r8.toInt64)]) (rest := []) hF E cs0 hl hI (tX6_in hF hf) mwX6_76 (fitD (by decide)) rfl rfl (Nat.le_of_ble_eq_true rfl) dX6_set_29 (fun r10 σ9 H locs hf hI => ?_)
      refine lv_if_ne (tgt := 38) (pc := 32) hx hb dX6_set_32 (by decide) (fun c11 => ?_) (fun c11 => ?_)
      · have hf := hf.1 c11
        refine lv_aload_n (pc := 38) hx hb dX6_set_38 rfl (lv_at hl 0 rfl) ?_
        refine lv_iload_n (pc := 39) hx hb dX6_set_39 rfl (lv_at hl 2 rfl) ?_
        refine lv_iload_n (pc := 40) hx hb dX6_set_40 rfl (lv_at hl 1 rfl) ?_
        refine callVI (G := (D, tysM cy, F)) (L := LM ad cy Rr) (pc := 41) (As := [.int p2, .int p1]) (rest := []) hF E cs0 hl hI (tX6_told hF hf) mwX6_98 (fitD (by decide)) (at6) rfl rfl rfl rfl (Nat.le_of_ble_eq_true rfl) dX6_set_41 (fun r13 σ12 H locs hf hI => ?_)
        refine lv_istore (lv' := [(4, .int r13), (0, .ref (ad 16 99)), (1, .int p1), (2, .int p2), (3, .int p3)]) (pc := 44) hx hb dX6_set_44 hl (by decide) rfl (fun ls hl => ?_)
        refine lv_aload_n (pc := 46) hx hb dX6_set_46 rfl (lv_at hl 1 rfl) ?_
        refine lv_iload_n (pc := 47) hx hb dX6_set_47 rfl (lv_at hl 2 rfl) ?_
        refine lv_iload_n (pc := 48) hx hb dX6_set_48 rfl (lv_at hl 3 rfl) ?_
        refine lv_iload_n (pc := 49) hx hb dX6_set_49 rfl (lv_at hl 4 rfl) ?_
        refine callVV (G := (D, tysM cy, F)) (L := LM ad cy Rr) (pc := 50) (As := [.int p1, .int p2, .int p3]) (rest := []) hF E cs0 hl hI (tX6_lays hF hf) mwX6_102 (fitD (by decide)) (at6) rfl rfl rfl rfl (Nat.le_of_ble_eq_true rfl) dX6_set_50 (fun σ14 H locs hf hI => ?_)
        refine lv_iload (pc := 53) hx hb dX6_set_53 (lv_at hl 0 rfl) ?_
        exact rI (pc := 55) E hr hlk hI hf dX6_set_55
      · have hf := hf.2 c11
        refine lv_bipush (v := (-2)) (pc := 35) hx hb dX6_set_35 rfl ?_
        exact rI (pc := 37) E hr hlk hI hf dX6_set_37
theorem tX6_set {l : Launch} {D : va_G} {F : (Nat → Prop) → State → Prop} {σ : St} {ad : Nat → Nat → Nat} {cy : Nat → ClassId} {Rr : va_W} {Q : Int32 → St → Prop} {p1 : Int32} {p2 : Int32} {p3 : Int32} (hF : Stab F) (hf : wX6_set p1 p2 p3 σ Q) : CtI l yX6_set cX6_set 5 .int 45 (D, tysM cy, F) (LM ad cy Rr) [.ref (ad 16 99), .int p1, .int p2, .int p3] σ Q := mkI (by decide) (Nat.le_of_ble_eq_true rfl) (fun p e s m below meth c A E hr hlk hI ls hl => bX6_set hF E hr hlk hf hI hl)

def wX6_passes_l2s (ih : Int32 → St → Prop) (a1 : Int32) (σ : St) (Q : St → Prop) : Prop := (((gI σ 16 12) ≤ a1 → ∀ σ2 : St, σ2 = sI σ 16 7 ((gI σ 16 7) + 1) → Q σ2) ∧ (¬ (gI σ 16 12) ≤ a1 → wX6_looks a1 σ (fun σ3 => ∀ x4 : Int32, x4 = a1 + 1 → (ih x4 σ3))))
def wX6_passes_l2 (n : Nat) : Int32 → St → (St → Prop) → Prop := @Nat.rec (fun _ => Int32 → St → (St → Prop) → Prop) (fun _ _ _ => False) (fun _ ih a1 σ Q => wX6_passes_l2s (fun a1 σ => ih a1 σ Q) a1 σ Q) n
set_option maxRecDepth 100000 in
set_option maxHeartbeats 4000000 in
theorem bX6_passes_2 {p : Program} {l : Launch} {e : Env} {s : State} {m : MethodId} {args : Array Value} {below : List Frame} {meth : Method} {c : Code} {D : va_G} {F : (Nat → Prop) → State → Prop} {A : Nat → Prop} {ad : Nat → Nat → Nat} {cy : Nat → ClassId} {Rr : va_W} {Q : St → Prop} (hF : Stab F) (E : CallFix p m c cX6_passes 2 s args TB RX6) (hr : meth.sig.returnType = none) (hlk : meth.locks = false) : ∀ (n : Nat) {a1 : Int32} {σ : St} {H : Heap} {locs : List Loc} {ls : Array Slot}, wX6_passes_l2 n a1 σ Q → In (D, tysM cy, F) (LM ad cy Rr σ) A s H locs → lv_has ls 2 [(0, .ref (ad 16 99)), (1, .int a1)] → W p l e (rmD 45) s m args below meth c H locs 0 0 (PV below args s (D, tysM cy, F) A (LM ad cy Rr) Q) (F0 m 2 ls []) := by
  have hx := E.1
  have hb := E.2.1
  intro n
  induction n with
  | zero => intro a1 σ H locs ls hf hI hl; exact False.elim hf
  | succ n ih =>
    intro a1 σ H locs ls hf hI hl
    have hf : wX6_passes_l2s (fun a1 σ => wX6_passes_l2 n a1 σ Q) a1 σ Q := hf
    unfold wX6_passes_l2s at hf
    refine lv_iload_n (pc := 2) hx hb dX6_passes_2 rfl (lv_at hl 1 rfl) ?_
    refine lv_aload_n (pc := 3) hx hb dX6_passes_3 rfl (lv_at hl 0 rfl) ?_
    refine g6_12 (pc := 4) E hI lkX6_73 dX6_passes_4 ?_
    refine lv_icmp_ge (tgt := 21) (pc := 7) hx hb dX6_passes_7 (by decide) (fun c1 => ?_) (fun c1 => ?_)
    · have hf := hf.1 c1
      refine lv_aload_n (pc := 21) hx hb dX6_passes_21 rfl (lv_at hl 0 rfl) ?_
      refine lv_dup (pc := 22) hx hb dX6_passes_22 rfl ?_
      refine g6_7 (pc := 23) E hI lkX6_106 dX6_passes_23 ?_
      refine lv_iconst (v := 1) (pc := 26) hx hb dX6_passes_26 rfl ?_
      refine lv_iadd (pc := 27) hx hb dX6_passes_27 ?_
      refine p6_7 (pc := 28) E hI lkX6_106 dX6_passes_28 (fun H locs σ2 eσ2 hI => ?_)
      have hf := hf σ2 eσ2
      exact rV (pc := 31) E hr hlk hI hf dX6_passes_31
    · have hf := hf.2 c1
      refine lv_aload_n (pc := 10) hx hb dX6_passes_10 rfl (lv_at hl 0 rfl) ?_
      refine lv_iload_n (pc := 11) hx hb dX6_passes_11 rfl (lv_at hl 1 rfl) ?_
      refine callVV (G := (D, tysM cy, F)) (L := LM ad cy Rr) (pc := 12) (As := [.int a1]) (rest := []) hF E cs0 hl hI (tX6_looks hF hf) mwX6_376 (fitD (by decide)) (at6) rfl rfl rfl rfl (Nat.le_of_ble_eq_true rfl) dX6_passes_12 (fun σ3 H locs hf hI => ?_)
      obtain ⟨x4, ex4⟩ : ∃ y : Int32, y = a1 + 1 := ⟨_, rfl⟩
      have hf := hf x4 ex4
      refine lv_iinc (v := x4) (lv' := [(1, .int x4), (0, .ref (ad 16 99))]) (pc := 15) hx hb dX6_passes_15 hl (k := 1) rfl (by rw [ex4]; rfl) (by decide) rfl (fun ls hl => ?_)
      refine lv_goto (tgt := 2) (pc := 18) hx hb dX6_passes_18 (by decide) ?_
      exact ih hf hI (lv_sub hl [1, 0] rfl)
def wX6_passes (σ : St) (Q : St → Prop) : Prop := ∃ n5 : Nat, wX6_passes_l2 n5 0 σ Q
set_option maxRecDepth 100000 in
set_option maxHeartbeats 4000000 in
theorem bX6_passes {p : Program} {l : Launch} {e : Env} {s : State} {m : MethodId} {args : Array Value} {below : List Frame} {meth : Method} {c : Code} {H : Heap} {locs : List Loc} {ls : Array Slot} {D : va_G} {F : (Nat → Prop) → State → Prop} {A : Nat → Prop} {σ : St} {ad : Nat → Nat → Nat} {cy : Nat → ClassId} {Rr : va_W} {Q : St → Prop} (hF : Stab F) (E : CallFix p m c cX6_passes 2 s args TB RX6) (hr : meth.sig.returnType = none) (hlk : meth.locks = false) (hf : wX6_passes σ Q) (hI : In (D, tysM cy, F) (LM ad cy Rr σ) A s H locs) (hl : lv_has ls 2 [(0, .ref (ad 16 99))]) : W p l e (rmD 45) s m args below meth c H locs 0 0 (PV below args s (D, tysM cy, F) A (LM ad cy Rr) Q) (F0 m 0 ls []) := by
  have hx := E.1
  have hb := E.2.1
  unfold wX6_passes at hf
  refine lv_iconst (v := 0) (pc := 0) hx hb dX6_passes_0 rfl ?_
  refine lv_istore_n (lv' := [(1, .int 0), (0, .ref (ad 16 99))]) (pc := 1) hx hb dX6_passes_1 rfl hl (by decide) rfl (fun ls hl => ?_)
  obtain ⟨n5, hf⟩ := hf
  exact bX6_passes_2 hF E hr hlk n5 hf hI (lv_sub hl [1, 0] rfl)
theorem tX6_passes {l : Launch} {D : va_G} {F : (Nat → Prop) → State → Prop} {σ : St} {ad : Nat → Nat → Nat} {cy : Nat → ClassId} {Rr : va_W} {Q : St → Prop} (hF : Stab F) (hf : wX6_passes σ Q) : CtV l yX6_passes cX6_passes 2 45 (D, tysM cy, F) (LM ad cy Rr) [.ref (ad 16 99)] σ Q := mkV (by decide) (Nat.le_of_ble_eq_true rfl) (fun p e s m below meth c A E hr hlk hI ls hl => bX6_passes hF E hr hlk hf hI hl)

def wX6_day (σ : St) (Q : Int32 → St → Prop) : Prop := ((¬ (gI σ 16 7) = 999 → wX6_passes σ (fun σ2 => wX6_bitsOf (gJ σ2 16 8) σ2 (fun r4 σ3 => Q r4 σ3))) ∧ ((gI σ 16 7) = 999 → Q (-3) σ))
set_option maxRecDepth 100000 in
set_option maxHeartbeats 4000000 in
theorem bX6_day {p : Program} {l : Launch} {e : Env} {s : State} {m : MethodId} {args : Array Value} {below : List Frame} {meth : Method} {c : Code} {H : Heap} {locs : List Loc} {ls : Array Slot} {D : va_G} {F : (Nat → Prop) → State → Prop} {A : Nat → Prop} {σ : St} {ad : Nat → Nat → Nat} {cy : Nat → ClassId} {Rr : va_W} {Q : Int32 → St → Prop} (hF : Stab F) (E : CallFix p m c cX6_day 1 s args TB RX6) (hr : meth.sig.returnType = some .int) (hlk : meth.locks = false) (hf : wX6_day σ Q) (hI : In (D, tysM cy, F) (LM ad cy Rr σ) A s H locs) (hl : lv_has ls 1 [(0, .ref (ad 16 99))]) : W p l e (rmD 46) s m args below meth c H locs 0 0 (PI below args s (D, tysM cy, F) A (LM ad cy Rr) Q) (F0 m 0 ls []) := by
  have hx := E.1
  have hb := E.2.1
  unfold wX6_day at hf
  refine lv_aload_n (pc := 0) hx hb dX6_day_0 rfl (lv_at hl 0 rfl) ?_
  refine g6_7 (pc := 1) E hI lkX6_106 dX6_day_1 ?_
  refine lv_sipush (v := 999) (pc := 4) hx hb dX6_day_4 rfl ?_
  refine lv_icmp_ne (tgt := 13) (pc := 7) hx hb dX6_day_7 (by decide) (fun c1 => ?_) (fun c1 => ?_)
  · have hf := hf.1 c1
    refine lv_aload_n (pc := 13) hx hb dX6_day_13 rfl (lv_at hl 0 rfl) ?_
    refine callVV (G := (D, tysM cy, F)) (L := LM ad cy Rr) (pc := 14) (As := []) (rest := []) hF E cs0 hl hI (tX6_passes hF hf) mwX6_379 (fitD (by decide)) (at6) rfl rfl rfl rfl (Nat.le_of_ble_eq_true rfl) dX6_day_14 (fun σ2 H locs hf hI => ?_)
    refine lv_aload_n (pc := 17) hx hb dX6_day_17 rfl (lv_at hl 0 rfl) ?_
    refine g6_8 (pc := 18) E hI lkX6_109 dX6_day_18 ?_
    refine callSI (G := (D, tysM cy, F)) (L := LM ad cy Rr) (pc := 21) (As := [.long (gJ σ2 16 8)]) (rest := []) hF E cs0 hl hI (tX6_bitsOf hF hf) mwX6_352 (fitD (by decide)) rfl rfl (Nat.le_of_ble_eq_true rfl) dX6_day_21 (fun r4 σ3 H locs hf hI => ?_)
    exact rI (pc := 24) E hr hlk hI hf dX6_day_24
  · have hf := hf.2 c1
    refine lv_bipush (v := (-3)) (pc := 10) hx hb dX6_day_10 rfl ?_
    exact rI (pc := 12) E hr hlk hI hf dX6_day_12
theorem tX6_day {l : Launch} {D : va_G} {F : (Nat → Prop) → State → Prop} {σ : St} {ad : Nat → Nat → Nat} {cy : Nat → ClassId} {Rr : va_W} {Q : Int32 → St → Prop} (hF : Stab F) (hf : wX6_day σ Q) : CtI l yX6_day cX6_day 1 .int 46 (D, tysM cy, F) (LM ad cy Rr) [.ref (ad 16 99)] σ Q := mkI (by decide) (Nat.le_of_ble_eq_true rfl) (fun p e s m below meth c A E hr hlk hI ls hl => bX6_day hF E hr hlk hf hI hl)

def wX6_goes_l2s (ih : Int32 → Int32 → St → Prop) (a1 : Int32) (a2 : Int32) (σ : St) (Q : St → Prop) : Prop := ((a1 ≤ a2 → Q σ) ∧ (¬ a1 ≤ a2 → wX6_passes σ (fun σ2 => ∀ x3 : Int32, x3 = a2 + 1 → (ih a1 x3 σ2))))
def wX6_goes_l2 (n : Nat) : Int32 → Int32 → St → (St → Prop) → Prop := @Nat.rec (fun _ => Int32 → Int32 → St → (St → Prop) → Prop) (fun _ _ _ _ => False) (fun _ ih a1 a2 σ Q => wX6_goes_l2s (fun a1 a2 σ => ih a1 a2 σ Q) a1 a2 σ Q) n
set_option maxRecDepth 100000 in
set_option maxHeartbeats 4000000 in
theorem bX6_goes_2 {p : Program} {l : Launch} {e : Env} {s : State} {m : MethodId} {args : Array Value} {below : List Frame} {meth : Method} {c : Code} {D : va_G} {F : (Nat → Prop) → State → Prop} {A : Nat → Prop} {ad : Nat → Nat → Nat} {cy : Nat → ClassId} {Rr : va_W} {Q : St → Prop} (hF : Stab F) (E : CallFix p m c cX6_goes 3 s args TB RX6) (hr : meth.sig.returnType = none) (hlk : meth.locks = false) : ∀ (n : Nat) {a1 : Int32} {a2 : Int32} {σ : St} {H : Heap} {locs : List Loc} {ls : Array Slot}, wX6_goes_l2 n a1 a2 σ Q → In (D, tysM cy, F) (LM ad cy Rr σ) A s H locs → lv_has ls 3 [(0, .ref (ad 16 99)), (1, .int a1), (2, .int a2)] → W p l e (rmD 46) s m args below meth c H locs 0 0 (PV below args s (D, tysM cy, F) A (LM ad cy Rr) Q) (F0 m 2 ls []) := by
  have hx := E.1
  have hb := E.2.1
  intro n
  induction n with
  | zero => intro a1 a2 σ H locs ls hf hI hl; exact False.elim hf
  | succ n ih =>
    intro a1 a2 σ H locs ls hf hI hl
    have hf : wX6_goes_l2s (fun a1 a2 σ => wX6_goes_l2 n a1 a2 σ Q) a1 a2 σ Q := hf
    unfold wX6_goes_l2s at hf
    refine lv_iload_n (pc := 2) hx hb dX6_goes_2 rfl (lv_at hl 2 rfl) ?_
    refine lv_iload_n (pc := 3) hx hb dX6_goes_3 rfl (lv_at hl 1 rfl) ?_
    refine lv_icmp_ge (tgt := 17) (pc := 4) hx hb dX6_goes_4 (by decide) (fun c1 => ?_) (fun c1 => ?_)
    · have hf := hf.1 c1
      exact rV (pc := 17) E hr hlk hI hf dX6_goes_17
    · have hf := hf.2 c1
      refine lv_aload_n (pc := 7) hx hb dX6_goes_7 rfl (lv_at hl 0 rfl) ?_
      refine callVV (G := (D, tysM cy, F)) (L := LM ad cy Rr) (pc := 8) (As := []) (rest := []) hF E cs0 hl hI (tX6_passes hF hf) mwX6_379 (fitD (by decide)) (at6) rfl rfl rfl rfl (Nat.le_of_ble_eq_true rfl) dX6_goes_8 (fun σ2 H locs hf hI => ?_)
      obtain ⟨x3, ex3⟩ : ∃ y : Int32, y = a2 + 1 := ⟨_, rfl⟩
      have hf := hf x3 ex3
      refine lv_iinc (v := x3) (lv' := [(2, .int x3), (0, .ref (ad 16 99)), (1, .int a1)]) (pc := 11) hx hb dX6_goes_11 hl (k := 2) rfl (by rw [ex3]; rfl) (by decide) rfl (fun ls hl => ?_)
      refine lv_goto (tgt := 2) (pc := 14) hx hb dX6_goes_14 (by decide) ?_
      exact ih hf hI (lv_sub hl [1, 2, 0] rfl)
def wX6_goes (p1 : Int32) (σ : St) (Q : St → Prop) : Prop := ∃ n4 : Nat, wX6_goes_l2 n4 p1 0 σ Q
set_option maxRecDepth 100000 in
set_option maxHeartbeats 4000000 in
theorem bX6_goes {p : Program} {l : Launch} {e : Env} {s : State} {m : MethodId} {args : Array Value} {below : List Frame} {meth : Method} {c : Code} {H : Heap} {locs : List Loc} {ls : Array Slot} {D : va_G} {F : (Nat → Prop) → State → Prop} {A : Nat → Prop} {σ : St} {ad : Nat → Nat → Nat} {cy : Nat → ClassId} {Rr : va_W} {Q : St → Prop} {p1 : Int32} (hF : Stab F) (E : CallFix p m c cX6_goes 3 s args TB RX6) (hr : meth.sig.returnType = none) (hlk : meth.locks = false) (hf : wX6_goes p1 σ Q) (hI : In (D, tysM cy, F) (LM ad cy Rr σ) A s H locs) (hl : lv_has ls 3 [(0, .ref (ad 16 99)), (1, .int p1)]) : W p l e (rmD 46) s m args below meth c H locs 0 0 (PV below args s (D, tysM cy, F) A (LM ad cy Rr) Q) (F0 m 0 ls []) := by
  have hx := E.1
  have hb := E.2.1
  unfold wX6_goes at hf
  refine lv_iconst (v := 0) (pc := 0) hx hb dX6_goes_0 rfl ?_
  refine lv_istore_n (lv' := [(2, .int 0), (0, .ref (ad 16 99)), (1, .int p1)]) (pc := 1) hx hb dX6_goes_1 rfl hl (by decide) rfl (fun ls hl => ?_)
  obtain ⟨n4, hf⟩ := hf
  exact bX6_goes_2 hF E hr hlk n4 hf hI (lv_sub hl [1, 2, 0] rfl)
theorem tX6_goes {l : Launch} {D : va_G} {F : (Nat → Prop) → State → Prop} {σ : St} {ad : Nat → Nat → Nat} {cy : Nat → ClassId} {Rr : va_W} {Q : St → Prop} {p1 : Int32} (hF : Stab F) (hf : wX6_goes p1 σ Q) : CtV l yX6_goes cX6_goes 3 46 (D, tysM cy, F) (LM ad cy Rr) [.ref (ad 16 99), .int p1] σ Q := mkV (by decide) (Nat.le_of_ble_eq_true rfl) (fun p e s m below meth c A E hr hlk hI ls hl => bX6_goes hF E hr hlk hf hI hl)

def wX6_ends_j33 (a1 : Int32) (σ : St) (Q : Int32 → St → Prop) : Prop := wX6_laysBack σ (fun σ3 => ((a1 ≤ 60 → Q a1 σ3) ∧ (¬ a1 ≤ 60 → Q (-1) σ3)))
set_option maxRecDepth 100000 in
set_option maxHeartbeats 4000000 in
theorem bX6_ends_33 {p : Program} {l : Launch} {e : Env} {s : State} {m : MethodId} {args : Array Value} {below : List Frame} {meth : Method} {c : Code} {H : Heap} {locs : List Loc} {ls : Array Slot} {D : va_G} {F : (Nat → Prop) → State → Prop} {A : Nat → Prop} {σ : St} {ad : Nat → Nat → Nat} {cy : Nat → ClassId} {Rr : va_W} {Q : Int32 → St → Prop} {a1 : Int32} (hF : Stab F) (E : CallFix p m c cX6_ends 2 s args TB RX6) (hr : meth.sig.returnType = some .int) (hlk : meth.locks = false) (hf : wX6_ends_j33 a1 σ Q) (hI : In (D, tysM cy, F) (LM ad cy Rr σ) A s H locs) (hl : lv_has ls 2 [(0, .ref (ad 16 99)), (1, .int a1)]) : W p l e (rmD 46) s m args below meth c H locs 0 0 (PI below args s (D, tysM cy, F) A (LM ad cy Rr) Q) (F0 m 33 ls []) := by
  have hx := E.1
  have hb := E.2.1
  unfold wX6_ends_j33 at hf
  refine lv_aload_n (pc := 33) hx hb dX6_ends_33 rfl (lv_at hl 0 rfl) ?_
  refine callVV (G := (D, tysM cy, F)) (L := LM ad cy Rr) (pc := 34) (As := []) (rest := []) hF E cs0 hl hI (tX6_laysBack hF hf) mwX6_391 (fitD (by decide)) (at6) rfl rfl rfl rfl (Nat.le_of_ble_eq_true rfl) dX6_ends_34 (fun σ3 H locs hf hI => ?_)
  refine lv_iload_n (pc := 37) hx hb dX6_ends_37 rfl (lv_at hl 1 rfl) ?_
  refine lv_bipush (v := 60) (pc := 38) hx hb dX6_ends_38 rfl ?_
  refine lv_icmp_le (tgt := 47) (pc := 40) hx hb dX6_ends_40 (by decide) (fun c4 => ?_) (fun c4 => ?_)
  · have hf := hf.1 c4
    refine lv_iload_n (pc := 47) hx hb dX6_ends_47 rfl (lv_at hl 1 rfl) ?_
    exact rI (pc := 48) E hr hlk hI hf dX6_ends_48
  · have hf := hf.2 c4
    refine lv_iconst (v := (-1)) (pc := 43) hx hb dX6_ends_43 rfl ?_
    refine lv_goto (tgt := 48) (pc := 44) hx hb dX6_ends_44 (by decide) ?_
    exact rI (pc := 48) E hr hlk hI hf dX6_ends_48
def wX6_ends_l6s (ih : Int32 → St → Prop) (a1 : Int32) (σ : St) (Q : Int32 → St → Prop) : Prop := ((60 < a1 → (wX6_ends_j33 a1 σ Q)) ∧ (¬ 60 < a1 → (((lg_cmp (gJ σ 16 8) (-1)) = 0 → (wX6_ends_j33 a1 σ Q)) ∧ (¬ (lg_cmp (gJ σ 16 8) (-1)) = 0 → wX6_passes σ (fun σ6 => ∀ x7 : Int32, x7 = a1 + 1 → (ih x7 σ6))))))
def wX6_ends_l6 (n : Nat) : Int32 → St → (Int32 → St → Prop) → Prop := @Nat.rec (fun _ => Int32 → St → (Int32 → St → Prop) → Prop) (fun _ _ _ => False) (fun _ ih a1 σ Q => wX6_ends_l6s (fun a1 σ => ih a1 σ Q) a1 σ Q) n
set_option maxRecDepth 100000 in
set_option maxHeartbeats 4000000 in
theorem bX6_ends_6 {p : Program} {l : Launch} {e : Env} {s : State} {m : MethodId} {args : Array Value} {below : List Frame} {meth : Method} {c : Code} {D : va_G} {F : (Nat → Prop) → State → Prop} {A : Nat → Prop} {ad : Nat → Nat → Nat} {cy : Nat → ClassId} {Rr : va_W} {Q : Int32 → St → Prop} (hF : Stab F) (E : CallFix p m c cX6_ends 2 s args TB RX6) (hr : meth.sig.returnType = some .int) (hlk : meth.locks = false) : ∀ (n : Nat) {a1 : Int32} {σ : St} {H : Heap} {locs : List Loc} {ls : Array Slot}, wX6_ends_l6 n a1 σ Q → In (D, tysM cy, F) (LM ad cy Rr σ) A s H locs → lv_has ls 2 [(0, .ref (ad 16 99)), (1, .int a1)] → W p l e (rmD 46) s m args below meth c H locs 0 0 (PI below args s (D, tysM cy, F) A (LM ad cy Rr) Q) (F0 m 6 ls []) := by
  have hx := E.1
  have hb := E.2.1
  intro n
  induction n with
  | zero => intro a1 σ H locs ls hf hI hl; exact False.elim hf
  | succ n ih =>
    intro a1 σ H locs ls hf hI hl
    have hf : wX6_ends_l6s (fun a1 σ => wX6_ends_l6 n a1 σ Q) a1 σ Q := hf
    unfold wX6_ends_l6s at hf
    refine lv_iload_n (pc := 6) hx hb dX6_ends_6 rfl (lv_at hl 1 rfl) ?_
    refine lv_bipush (v := 60) (pc := 7) hx hb dX6_ends_7 rfl ?_
    refine lv_icmp_gt (tgt := 33) (pc := 9) hx hb dX6_ends_9 (by decide) (fun c2 => ?_) (fun c2 => ?_)
    · have hf := hf.1 c2
      exact bX6_ends_33 hF E hr hlk hf hI (lv_sub hl [0, 1] rfl)
    · have hf := hf.2 c2
      refine lv_aload_n (pc := 12) hx hb dX6_ends_12 rfl (lv_at hl 0 rfl) ?_
      refine g6_8 (pc := 13) E hI lkX6_109 dX6_ends_13 ?_
      refine lv_ldc2 (pc := 16) E.1 E.2.1 E.2.2.2.1 (E.2.2.2.2 _ kcX6_113) dX6_ends_16 ?_
      refine W.lcmp (pc := 19) hx hb dX6_ends_19 ?_
      refine lv_if_eq (tgt := 33) (pc := 20) hx hb dX6_ends_20 (by decide) (fun c5 => ?_) (fun c5 => ?_)
      · have hf := hf.1 c5
        exact bX6_ends_33 hF E hr hlk hf hI (lv_sub hl [0, 1] rfl)
      · have hf := hf.2 c5
        refine lv_aload_n (pc := 23) hx hb dX6_ends_23 rfl (lv_at hl 0 rfl) ?_
        refine callVV (G := (D, tysM cy, F)) (L := LM ad cy Rr) (pc := 24) (As := []) (rest := []) hF E cs0 hl hI (tX6_passes hF hf) mwX6_379 (fitD (by decide)) (at6) rfl rfl rfl rfl (Nat.le_of_ble_eq_true rfl) dX6_ends_24 (fun σ6 H locs hf hI => ?_)
        obtain ⟨x7, ex7⟩ : ∃ y : Int32, y = a1 + 1 := ⟨_, rfl⟩
        have hf := hf x7 ex7
        refine lv_iinc (v := x7) (lv' := [(1, .int x7), (0, .ref (ad 16 99))]) (pc := 27) hx hb dX6_ends_27 hl (k := 1) rfl (by rw [ex7]; rfl) (by decide) rfl (fun ls hl => ?_)
        refine lv_goto (tgt := 6) (pc := 30) hx hb dX6_ends_30 (by decide) ?_
        exact ih hf hI (lv_sub hl [1, 0] rfl)
def wX6_ends (σ : St) (Q : Int32 → St → Prop) : Prop := wX6_laysAside σ (fun σ1 => ∃ n8 : Nat, wX6_ends_l6 n8 0 σ1 Q)
set_option maxRecDepth 100000 in
set_option maxHeartbeats 4000000 in
theorem bX6_ends {p : Program} {l : Launch} {e : Env} {s : State} {m : MethodId} {args : Array Value} {below : List Frame} {meth : Method} {c : Code} {H : Heap} {locs : List Loc} {ls : Array Slot} {D : va_G} {F : (Nat → Prop) → State → Prop} {A : Nat → Prop} {σ : St} {ad : Nat → Nat → Nat} {cy : Nat → ClassId} {Rr : va_W} {Q : Int32 → St → Prop} (hF : Stab F) (E : CallFix p m c cX6_ends 2 s args TB RX6) (hr : meth.sig.returnType = some .int) (hlk : meth.locks = false) (hf : wX6_ends σ Q) (hI : In (D, tysM cy, F) (LM ad cy Rr σ) A s H locs) (hl : lv_has ls 2 [(0, .ref (ad 16 99))]) : W p l e (rmD 46) s m args below meth c H locs 0 0 (PI below args s (D, tysM cy, F) A (LM ad cy Rr) Q) (F0 m 0 ls []) := by
  have hx := E.1
  have hb := E.2.1
  unfold wX6_ends at hf
  refine lv_aload_n (pc := 0) hx hb dX6_ends_0 rfl (lv_at hl 0 rfl) ?_
  refine callVV (G := (D, tysM cy, F)) (L := LM ad cy Rr) (pc := 1) (As := []) (rest := []) hF E cs0 hl hI (tX6_laysAside hF hf) mwX6_385 (fitD (by decide)) (at6) rfl rfl rfl rfl (Nat.le_of_ble_eq_true rfl) dX6_ends_1 (fun σ1 H locs hf hI => ?_)
  refine lv_iconst (v := 0) (pc := 4) hx hb dX6_ends_4 rfl ?_
  refine lv_istore_n (lv' := [(1, .int 0), (0, .ref (ad 16 99))]) (pc := 5) hx hb dX6_ends_5 rfl hl (by decide) rfl (fun ls hl => ?_)
  obtain ⟨n8, hf⟩ := hf
  exact bX6_ends_6 hF E hr hlk n8 hf hI (lv_sub hl [1, 0] rfl)
theorem tX6_ends {l : Launch} {D : va_G} {F : (Nat → Prop) → State → Prop} {σ : St} {ad : Nat → Nat → Nat} {cy : Nat → ClassId} {Rr : va_W} {Q : Int32 → St → Prop} (hF : Stab F) (hf : wX6_ends σ Q) : CtI l yX6_ends cX6_ends 2 .int 46 (D, tysM cy, F) (LM ad cy Rr) [.ref (ad 16 99)] σ Q := mkI (by decide) (Nat.le_of_ble_eq_true rfl) (fun p e s m below meth c A E hr hlk hI ls hl => bX6_ends hF E hr hlk hf hI hl)

def wX6_firstOther_j60 (a2 : Int32) (σ : St) (Q : Int32 → St → Prop) : Prop := wX6_laysBack σ (fun σ4 => Q a2 σ4)
set_option maxRecDepth 100000 in
set_option maxHeartbeats 4000000 in
theorem bX6_firstOther_60 {p : Program} {l : Launch} {e : Env} {s : State} {m : MethodId} {args : Array Value} {below : List Frame} {meth : Method} {c : Code} {H : Heap} {locs : List Loc} {ls : Array Slot} {D : va_G} {F : (Nat → Prop) → State → Prop} {A : Nat → Prop} {σ : St} {ad : Nat → Nat → Nat} {cy : Nat → ClassId} {Rr : va_W} {Q : Int32 → St → Prop} {a2 : Int32} (hF : Stab F) (E : CallFix p m c cX6_firstOther 4 s args TB RX6) (hr : meth.sig.returnType = some .int) (hlk : meth.locks = false) (hf : wX6_firstOther_j60 a2 σ Q) (hI : In (D, tysM cy, F) (LM ad cy Rr σ) A s H locs) (hl : lv_has ls 4 [(0, .ref (ad 16 99)), (2, .int a2)]) : W p l e (rmD 46) s m args below meth c H locs 0 0 (PI below args s (D, tysM cy, F) A (LM ad cy Rr) Q) (F0 m 60 ls []) := by
  have hx := E.1
  have hb := E.2.1
  unfold wX6_firstOther_j60 at hf
  refine lv_aload_n (pc := 60) hx hb dX6_firstOther_60 rfl (lv_at hl 0 rfl) ?_
  refine callVV (G := (D, tysM cy, F)) (L := LM ad cy Rr) (pc := 61) (As := []) (rest := []) hF E cs0 hl hI (tX6_laysBack hF hf) mwX6_391 (fitD (by decide)) (at6) rfl rfl rfl rfl (Nat.le_of_ble_eq_true rfl) dX6_firstOther_61 (fun σ4 H locs hf hI => ?_)
  refine lv_iload_n (pc := 64) hx hb dX6_firstOther_64 rfl (lv_at hl 1 rfl) ?_
  exact rI (pc := 65) E hr hlk hI hf dX6_firstOther_65
def wX6_firstOther_j53 (a1 : Int32) (a3 : Int32) (s0 : Int32) (σ : St) (K : Int32 → Int32 → Int32 → St → Prop) (Q : Int32 → St → Prop) : Prop := ∀ x11 : Int32, x11 = a3 + 1 → (K a1 s0 x11 σ)
set_option maxRecDepth 100000 in
set_option maxHeartbeats 4000000 in
theorem bX6_firstOther_53 {p : Program} {l : Launch} {e : Env} {s : State} {m : MethodId} {args : Array Value} {below : List Frame} {meth : Method} {c : Code} {H : Heap} {locs : List Loc} {ls : Array Slot} {D : va_G} {F : (Nat → Prop) → State → Prop} {A : Nat → Prop} {σ : St} {ad : Nat → Nat → Nat} {cy : Nat → ClassId} {Rr : va_W} {Q : Int32 → St → Prop} {a1 : Int32} {a3 : Int32} {s0 : Int32} {K : Int32 → Int32 → Int32 → St → Prop} (hF : Stab F) (E : CallFix p m c cX6_firstOther 4 s args TB RX6) (hr : meth.sig.returnType = some .int) (hlk : meth.locks = false) (hK : ∀ (a1 : Int32) (a2 : Int32) (a3 : Int32) (σ : St) (H : Heap) (locs : List Loc) (ls : Array Slot), K a1 a2 a3 σ → In (D, tysM cy, F) (LM ad cy Rr σ) A s H locs → lv_has ls 4 [(0, .ref (ad 16 99)), (1, .int a1), (2, .int a2), (3, .int a3)] → W p l e (rmD 46) s m args below meth c H locs 0 0 (PI below args s (D, tysM cy, F) A (LM ad cy Rr) Q) (F0 m 8 ls [])) (hf : wX6_firstOther_j53 a1 a3 s0 σ K Q) (hI : In (D, tysM cy, F) (LM ad cy Rr σ) A s H locs) (hl : lv_has ls 4 [(0, .ref (ad 16 99)), (1, .int a1), (3, .int a3)]) : W p l e (rmD 46) s m args below meth c H locs 0 0 (PI below args s (D, tysM cy, F) A (LM ad cy Rr) Q) (F0 m 53 ls [.int s0]) := by
  have hx := E.1
  have hb := E.2.1
  unfold wX6_firstOther_j53 at hf
  refine lv_istore_n (lv' := [(2, .int s0), (0, .ref (ad 16 99)), (1, .int a1), (3, .int a3)]) (pc := 53) hx hb dX6_firstOther_53 rfl hl (by decide) rfl (fun ls hl => ?_)
  obtain ⟨x11, ex11⟩ : ∃ y : Int32, y = a3 + 1 := ⟨_, rfl⟩
  have hf := hf x11 ex11
  refine lv_iinc (v := x11) (lv' := [(3, .int x11), (2, .int s0), (0, .ref (ad 16 99)), (1, .int a1)]) (pc := 54) hx hb dX6_firstOther_54 hl (k := 3) rfl (by rw [ex11]; rfl) (by decide) rfl (fun ls hl => ?_)
  refine lv_goto (tgt := 8) (pc := 57) hx hb dX6_firstOther_57 (by decide) ?_
  exact hK _ _ _ _ _ _ _ hf hI (lv_sub hl [2, 3, 1, 0] rfl)
def wX6_firstOther_l8s (ih : Int32 → Int32 → Int32 → St → Prop) (a1 : Int32) (a2 : Int32) (a3 : Int32) (σ : St) (Q : Int32 → St → Prop) : Prop := vp_in a1 4 ∧ (((gA σ 16 41 a1.toNatClampNeg) ≤ a3 → (wX6_firstOther_j60 a2 σ Q)) ∧ (¬ (gA σ 16 41 a1.toNatClampNeg) ≤ a3 → ((¬ a2 = (-1) → (wX6_firstOther_j60 a2 σ Q)) ∧ (a2 = (-1) → wX6_passes σ (fun σ6 => wX6_bitsOf (gJ σ6 16 8) σ6 (fun r8 σ7 => vp_in ((40 * a1) + a3) 160 ∧ ((¬ r8 = (gA σ7 16 42 ((40 * a1) + a3).toNatClampNeg) → (wX6_firstOther_j53 a1 a3 a3 σ7 ih Q)) ∧ (r8 = (gA σ7 16 42 ((40 * a1) + a3).toNatClampNeg) → (wX6_firstOther_j53 a1 a3 (-1) σ7 ih Q)))))))))
def wX6_firstOther_l8 (n : Nat) : Int32 → Int32 → Int32 → St → (Int32 → St → Prop) → Prop := @Nat.rec (fun _ => Int32 → Int32 → Int32 → St → (Int32 → St → Prop) → Prop) (fun _ _ _ _ _ => False) (fun _ ih a1 a2 a3 σ Q => wX6_firstOther_l8s (fun a1 a2 a3 σ => ih a1 a2 a3 σ Q) a1 a2 a3 σ Q) n
set_option maxRecDepth 100000 in
set_option maxHeartbeats 4000000 in
theorem bX6_firstOther_8 {p : Program} {l : Launch} {e : Env} {s : State} {m : MethodId} {args : Array Value} {below : List Frame} {meth : Method} {c : Code} {D : va_G} {F : (Nat → Prop) → State → Prop} {A : Nat → Prop} {ad : Nat → Nat → Nat} {cy : Nat → ClassId} {Rr : va_W} {Q : Int32 → St → Prop} (hF : Stab F) (E : CallFix p m c cX6_firstOther 4 s args TB RX6) (hr : meth.sig.returnType = some .int) (hlk : meth.locks = false) : ∀ (n : Nat) {a1 : Int32} {a2 : Int32} {a3 : Int32} {σ : St} {H : Heap} {locs : List Loc} {ls : Array Slot}, wX6_firstOther_l8 n a1 a2 a3 σ Q → In (D, tysM cy, F) (LM ad cy Rr σ) A s H locs → lv_has ls 4 [(0, .ref (ad 16 99)), (1, .int a1), (2, .int a2), (3, .int a3)] → W p l e (rmD 46) s m args below meth c H locs 0 0 (PI below args s (D, tysM cy, F) A (LM ad cy Rr) Q) (F0 m 8 ls []) := by
  have hx := E.1
  have hb := E.2.1
  intro n
  induction n with
  | zero => intro a1 a2 a3 σ H locs ls hf hI hl; exact False.elim hf
  | succ n ih =>
    intro a1 a2 a3 σ H locs ls hf hI hl
    have hf : wX6_firstOther_l8s (fun a1 a2 a3 σ => wX6_firstOther_l8 n a1 a2 a3 σ Q) a1 a2 a3 σ Q := hf
    unfold wX6_firstOther_l8s at hf
    refine lv_iload_n (pc := 8) hx hb dX6_firstOther_8 rfl (lv_at hl 3 rfl) ?_
    refine lv_aload_n (pc := 9) hx hb dX6_firstOther_9 rfl (lv_at hl 0 rfl) ?_
    refine g6_41 (pc := 10) E hI lkX6_60 dX6_firstOther_10 ?_
    refine lv_iload_n (pc := 13) hx hb dX6_firstOther_13 rfl (lv_at hl 1 rfl) ?_
    have g2 := hf.1
    have hf := hf.2
    refine a6_41 (pc := 14) E hI g2 dX6_firstOther_14 ?_
    refine lv_icmp_ge (tgt := 60) (pc := 15) hx hb dX6_firstOther_15 (by decide) (fun c3 => ?_) (fun c3 => ?_)
    · have hf := hf.1 c3
      exact bX6_firstOther_60 hF E hr hlk hf hI (lv_sub hl [0, 2] rfl)
    · have hf := hf.2 c3
      refine lv_iload_n (pc := 18) hx hb dX6_firstOther_18 rfl (lv_at hl 2 rfl) ?_
      refine lv_iconst (v := (-1)) (pc := 19) hx hb dX6_firstOther_19 rfl ?_
      refine lv_icmp_ne (tgt := 60) (pc := 20) hx hb dX6_firstOther_20 (by decide) (fun c5 => ?_) (fun c5 => ?_)
      · have hf := hf.1 c5
        exact bX6_firstOther_60 hF E hr hlk hf hI (lv_sub hl [0, 2] rfl)
      · have hf := hf.2 c5
        refine lv_aload_n (pc := 23) hx hb dX6_firstOther_23 rfl (lv_at hl 0 rfl) ?_
        refine callVV (G := (D, tysM cy, F)) (L := LM ad cy Rr) (pc := 24) (As := []) (rest := []) hF E cs0 hl hI (tX6_passes hF hf) mwX6_379 (fitD (by decide)) (at6) rfl rfl rfl rfl (Nat.le_of_ble_eq_true rfl) dX6_firstOther_24 (fun σ6 H locs hf hI => ?_)
        refine lv_aload_n (pc := 27) hx hb dX6_firstOther_27 rfl (lv_at hl 0 rfl) ?_
        refine g6_8 (pc := 28) E hI lkX6_109 dX6_firstOther_28 ?_
        refine callSI (G := (D, tysM cy, F)) (L := LM ad cy Rr) (pc := 31) (As := [.long (gJ σ6 16 8)]) (rest := []) hF E cs0 hl hI (tX6_bitsOf hF hf) mwX6_352 (fitD (by decide)) rfl rfl (Nat.le_of_ble_eq_true rfl) dX6_firstOther_31 (fun r8 σ7 H locs hf hI => ?_)
        refine lv_aload_n (pc := 34) hx hb dX6_firstOther_34 rfl (lv_at hl 0 rfl) ?_
        refine g6_42 (pc := 35) E hI lkX6_63 dX6_firstOther_35 ?_
        refine lv_bipush (v := 40) (pc := 38) hx hb dX6_firstOther_38 rfl ?_
        refine lv_iload_n (pc := 40) hx hb dX6_firstOther_40 rfl (lv_at hl 1 rfl) ?_
        refine lv_imul (pc := 41) hx hb dX6_firstOther_41 ?_
        refine lv_iload_n (pc := 42) hx hb dX6_firstOther_42 rfl (lv_at hl 3 rfl) ?_
        refine lv_iadd (pc := 43) hx hb dX6_firstOther_43 ?_
        have g9 := hf.1
        have hf := hf.2
        refine a6_42 (pc := 44) E hI g9 dX6_firstOther_44 ?_
        refine lv_icmp_ne (tgt := 52) (pc := 45) hx hb dX6_firstOther_45 (by decide) (fun c10 => ?_) (fun c10 => ?_)
        · have hf := hf.1 c10
          refine lv_iload_n (pc := 52) hx hb dX6_firstOther_52 rfl (lv_at hl 3 rfl) ?_
          exact bX6_firstOther_53 hF E hr hlk (fun _ _ _ _ _ _ _ hf hI hl => ih hf hI hl) hf hI (lv_sub hl [0, 1, 3] rfl)
        · have hf := hf.2 c10
          refine lv_iconst (v := (-1)) (pc := 48) hx hb dX6_firstOther_48 rfl ?_
          refine lv_goto (tgt := 53) (pc := 49) hx hb dX6_firstOther_49 (by decide) ?_
          exact bX6_firstOther_53 hF E hr hlk (fun _ _ _ _ _ _ _ hf hI hl => ih hf hI hl) hf hI (lv_sub hl [0, 1, 3] rfl)
def wX6_firstOther (p1 : Int32) (σ : St) (Q : Int32 → St → Prop) : Prop := wX6_laysAside σ (fun σ1 => ∃ n12 : Nat, wX6_firstOther_l8 n12 p1 (-1) 0 σ1 Q)
set_option maxRecDepth 100000 in
set_option maxHeartbeats 4000000 in
theorem bX6_firstOther {p : Program} {l : Launch} {e : Env} {s : State} {m : MethodId} {args : Array Value} {below : List Frame} {meth : Method} {c : Code} {H : Heap} {locs : List Loc} {ls : Array Slot} {D : va_G} {F : (Nat → Prop) → State → Prop} {A : Nat → Prop} {σ : St} {ad : Nat → Nat → Nat} {cy : Nat → ClassId} {Rr : va_W} {Q : Int32 → St → Prop} {p1 : Int32} (hF : Stab F) (E : CallFix p m c cX6_firstOther 4 s args TB RX6) (hr : meth.sig.returnType = some .int) (hlk : meth.locks = false) (hf : wX6_firstOther p1 σ Q) (hI : In (D, tysM cy, F) (LM ad cy Rr σ) A s H locs) (hl : lv_has ls 4 [(0, .ref (ad 16 99)), (1, .int p1)]) : W p l e (rmD 46) s m args below meth c H locs 0 0 (PI below args s (D, tysM cy, F) A (LM ad cy Rr) Q) (F0 m 0 ls []) := by
  have hx := E.1
  have hb := E.2.1
  unfold wX6_firstOther at hf
  refine lv_aload_n (pc := 0) hx hb dX6_firstOther_0 rfl (lv_at hl 0 rfl) ?_
  refine callVV (G := (D, tysM cy, F)) (L := LM ad cy Rr) (pc := 1) (As := []) (rest := []) hF E cs0 hl hI (tX6_laysAside hF hf) mwX6_385 (fitD (by decide)) (at6) rfl rfl rfl rfl (Nat.le_of_ble_eq_true rfl) dX6_firstOther_1 (fun σ1 H locs hf hI => ?_)
  refine lv_iconst (v := (-1)) (pc := 4) hx hb dX6_firstOther_4 rfl ?_
  refine lv_istore_n (lv' := [(2, .int (-1)), (0, .ref (ad 16 99)), (1, .int p1)]) (pc := 5) hx hb dX6_firstOther_5 rfl hl (by decide) rfl (fun ls hl => ?_)
  refine lv_iconst (v := 0) (pc := 6) hx hb dX6_firstOther_6 rfl ?_
  refine lv_istore_n (lv' := [(3, .int 0), (2, .int (-1)), (0, .ref (ad 16 99)), (1, .int p1)]) (pc := 7) hx hb dX6_firstOther_7 rfl hl (by decide) rfl (fun ls hl => ?_)
  obtain ⟨n12, hf⟩ := hf
  exact bX6_firstOther_8 hF E hr hlk n12 hf hI (lv_sub hl [2, 3, 1, 0] rfl)
theorem tX6_firstOther {l : Launch} {D : va_G} {F : (Nat → Prop) → State → Prop} {σ : St} {ad : Nat → Nat → Nat} {cy : Nat → ClassId} {Rr : va_W} {Q : Int32 → St → Prop} {p1 : Int32} (hF : Stab F) (hf : wX6_firstOther p1 σ Q) : CtI l yX6_firstOther cX6_firstOther 4 .int 46 (D, tysM cy, F) (LM ad cy Rr) [.ref (ad 16 99), .int p1] σ Q := mkI (by decide) (Nat.le_of_ble_eq_true rfl) (fun p e s m below meth c A E hr hlk hI ls hl => bX6_firstOther hF E hr hlk hf hI hl)

def wX6_film_l36s (ih : Int32 → Int32 → Int32 → St → Prop) (a1 : Int32) (a2 : Int32) (a3 : Int32) (σ : St) (Q : Int32 → St → Prop) : Prop := ((a2 ≤ a3 → wX6_laysBack σ (fun σ11 => Q a2 σ11)) ∧ (¬ a2 ≤ a3 → wX6_passes σ (fun σ12 => wX6_bitsOf (gJ σ12 16 8) σ12 (fun r14 σ13 => vp_in ((40 * a1) + a3) 160 ∧ ∀ σ16 : St, σ16 = sA σ13 16 42 ((40 * a1) + a3).toNatClampNeg r14 → ∀ x17 : Int32, x17 = a3 + 1 → (ih a1 a2 x17 σ16)))))
def wX6_film_l36 (n : Nat) : Int32 → Int32 → Int32 → St → (Int32 → St → Prop) → Prop := @Nat.rec (fun _ => Int32 → Int32 → Int32 → St → (Int32 → St → Prop) → Prop) (fun _ _ _ _ _ => False) (fun _ ih a1 a2 a3 σ Q => wX6_film_l36s (fun a1 a2 a3 σ => ih a1 a2 a3 σ Q) a1 a2 a3 σ Q) n
set_option maxRecDepth 100000 in
set_option maxHeartbeats 4000000 in
theorem bX6_film_36 {p : Program} {l : Launch} {e : Env} {s : State} {m : MethodId} {args : Array Value} {below : List Frame} {meth : Method} {c : Code} {D : va_G} {F : (Nat → Prop) → State → Prop} {A : Nat → Prop} {ad : Nat → Nat → Nat} {cy : Nat → ClassId} {Rr : va_W} {Q : Int32 → St → Prop} (hF : Stab F) (E : CallFix p m c cX6_film 4 s args TB RX6) (hr : meth.sig.returnType = some .int) (hlk : meth.locks = false) : ∀ (n : Nat) {a1 : Int32} {a2 : Int32} {a3 : Int32} {σ : St} {H : Heap} {locs : List Loc} {ls : Array Slot}, wX6_film_l36 n a1 a2 a3 σ Q → In (D, tysM cy, F) (LM ad cy Rr σ) A s H locs → lv_has ls 4 [(0, .ref (ad 16 99)), (1, .int a1), (2, .int a2), (3, .int a3)] → W p l e (rmD 46) s m args below meth c H locs 0 0 (PI below args s (D, tysM cy, F) A (LM ad cy Rr) Q) (F0 m 36 ls []) := by
  have hx := E.1
  have hb := E.2.1
  intro n
  induction n with
  | zero => intro a1 a2 a3 σ H locs ls hf hI hl; exact False.elim hf
  | succ n ih =>
    intro a1 a2 a3 σ H locs ls hf hI hl
    have hf : wX6_film_l36s (fun a1 a2 a3 σ => wX6_film_l36 n a1 a2 a3 σ Q) a1 a2 a3 σ Q := hf
    unfold wX6_film_l36s at hf
    refine lv_iload_n (pc := 36) hx hb dX6_film_36 rfl (lv_at hl 3 rfl) ?_
    refine lv_iload_n (pc := 37) hx hb dX6_film_37 rfl (lv_at hl 2 rfl) ?_
    refine lv_icmp_ge (tgt := 69) (pc := 38) hx hb dX6_film_38 (by decide) (fun c10 => ?_) (fun c10 => ?_)
    · have hf := hf.1 c10
      refine lv_aload_n (pc := 69) hx hb dX6_film_69 rfl (lv_at hl 0 rfl) ?_
      refine callVV (G := (D, tysM cy, F)) (L := LM ad cy Rr) (pc := 70) (As := []) (rest := []) hF E cs0 hl hI (tX6_laysBack hF hf) mwX6_391 (fitD (by decide)) (at6) rfl rfl rfl rfl (Nat.le_of_ble_eq_true rfl) dX6_film_70 (fun σ11 H locs hf hI => ?_)
      refine lv_iload_n (pc := 73) hx hb dX6_film_73 rfl (lv_at hl 2 rfl) ?_
      exact rI (pc := 74) E hr hlk hI hf dX6_film_74
    · have hf := hf.2 c10
      refine lv_aload_n (pc := 41) hx hb dX6_film_41 rfl (lv_at hl 0 rfl) ?_
      refine callVV (G := (D, tysM cy, F)) (L := LM ad cy Rr) (pc := 42) (As := []) (rest := []) hF E cs0 hl hI (tX6_passes hF hf) mwX6_379 (fitD (by decide)) (at6) rfl rfl rfl rfl (Nat.le_of_ble_eq_true rfl) dX6_film_42 (fun σ12 H locs hf hI => ?_)
      refine lv_aload_n (pc := 45) hx hb dX6_film_45 rfl (lv_at hl 0 rfl) ?_
      refine g6_42 (pc := 46) E hI lkX6_63 dX6_film_46 ?_
      refine lv_bipush (v := 40) (pc := 49) hx hb dX6_film_49 rfl ?_
      refine lv_iload_n (pc := 51) hx hb dX6_film_51 rfl (lv_at hl 1 rfl) ?_
      refine lv_imul (pc := 52) hx hb dX6_film_52 ?_
      refine lv_iload_n (pc := 53) hx hb dX6_film_53 rfl (lv_at hl 3 rfl) ?_
      refine lv_iadd (pc := 54) hx hb dX6_film_54 ?_
      refine lv_aload_n (pc := 55) hx hb dX6_film_55 rfl (lv_at hl 0 rfl) ?_
      refine g6_8 (pc := 56) E hI lkX6_109 dX6_film_56 ?_
      refine callSI (G := (D, tysM cy, F)) (L := LM ad cy Rr) (pc := 59) (As := [.long (gJ σ12 16 8)]) (rest := [.int ((40 * a1) + a3), .ref (ad 16 42)]) hF E cs0 hl hI (tX6_bitsOf hF hf) mwX6_352 (fitD (by decide)) rfl rfl (Nat.le_of_ble_eq_true rfl) dX6_film_59 (fun r14 σ13 H locs hf hI => ?_)
      have g15 := hf.1
      have hf := hf.2
      refine s6_42 (pc := 62) E hI g15 dX6_film_62 (fun H locs σ16 eσ16 hI => ?_)
      have hf := hf σ16 eσ16
      obtain ⟨x17, ex17⟩ : ∃ y : Int32, y = a3 + 1 := ⟨_, rfl⟩
      have hf := hf x17 ex17
      refine lv_iinc (v := x17) (lv' := [(3, .int x17), (0, .ref (ad 16 99)), (1, .int a1), (2, .int a2)]) (pc := 63) hx hb dX6_film_63 hl (k := 3) rfl (by rw [ex17]; rfl) (by decide) rfl (fun ls hl => ?_)
      refine lv_goto (tgt := 36) (pc := 66) hx hb dX6_film_66 (by decide) ?_
      exact ih hf hI (lv_sub hl [1, 2, 3, 0] rfl)
def wX6_film (p1 : Int32) (p2 : Int32) (σ : St) (Q : Int32 → St → Prop) : Prop := wX6_isSheet p1 σ (fun r2 σ1 => ((r2 = 0 → Q (-2) σ1) ∧ (¬ r2 = 0 → wX6_in (p2.toInt64) 0 20 σ1 (fun r5 σ4 => ((¬ r5 = 0 → wX6_sheet p1 0 p2 σ4 (fun r8 σ7 => wX6_laysAside σ7 (fun σ9 => ∃ n18 : Nat, wX6_film_l36 n18 p1 p2 0 σ9 Q))) ∧ (r5 = 0 → Q (-2) σ4))))))
set_option maxRecDepth 100000 in
set_option maxHeartbeats 4000000 in
theorem bX6_film {p : Program} {l : Launch} {e : Env} {s : State} {m : MethodId} {args : Array Value} {below : List Frame} {meth : Method} {c : Code} {H : Heap} {locs : List Loc} {ls : Array Slot} {D : va_G} {F : (Nat → Prop) → State → Prop} {A : Nat → Prop} {σ : St} {ad : Nat → Nat → Nat} {cy : Nat → ClassId} {Rr : va_W} {Q : Int32 → St → Prop} {p1 : Int32} {p2 : Int32} (hF : Stab F) (E : CallFix p m c cX6_film 4 s args TB RX6) (hr : meth.sig.returnType = some .int) (hlk : meth.locks = false) (hf : wX6_film p1 p2 σ Q) (hI : In (D, tysM cy, F) (LM ad cy Rr σ) A s H locs) (hl : lv_has ls 4 [(0, .ref (ad 16 99)), (1, .int p1), (2, .int p2)]) : W p l e (rmD 46) s m args below meth c H locs 0 0 (PI below args s (D, tysM cy, F) A (LM ad cy Rr) Q) (F0 m 0 ls []) := by
  have hx := E.1
  have hb := E.2.1
  unfold wX6_film at hf
  refine lv_iload_n (pc := 0) hx hb dX6_film_0 rfl (lv_at hl 1 rfl) ?_
  refine callSI (G := (D, tysM cy, F)) (L := LM ad cy Rr) (pc := 1) (As := [.int p1]) (rest := []) hF E cs0 hl hI (tX6_isSheet hF hf) mwX6_408 (fitD (by decide)) rfl rfl (Nat.le_of_ble_eq_true rfl) dX6_film_1 (fun r2 σ1 H locs hf hI => ?_)
  refine lv_if_eq (tgt := 19) (pc := 4) hx hb dX6_film_4 (by decide) (fun c3 => ?_) (fun c3 => ?_)
  · have hf := hf.1 c3
    refine lv_bipush (v := (-2)) (pc := 19) hx hb dX6_film_19 rfl ?_
    exact rI (pc := 21) E hr hlk hI hf dX6_film_21
  · have hf := hf.2 c3
    refine lv_iload_n (pc := 7) hx hb dX6_film_7 rfl (lv_at hl 2 rfl) ?_
    refine lv_i2l (v := (p2.toInt64)) (pc := 8) hx hb dX6_film_8 rfl ?_
    refine lv_lconst (v := 0) (pc := 9) hx hb dX6_film_9 rfl ?_
    refine lv_ldc2 (pc := 10) E.1 E.2.1 E.2.2.2.1 (E.2.2.2.2 _ kcX6_399) dX6_film_10 ?_
    refine callSI (G := (D, tysM cy, F)) (L := LM ad cy Rr) (pc := 13) (As := [.long (p2.toInt64), .long 0, .long 20]) (rest := []) hF E cs0 hl hI (tX6_in hF hf) mwX6_76 (fitD (by decide)) rfl rfl (Nat.le_of_ble_eq_true rfl) dX6_film_13 (fun r5 σ4 H locs hf hI => ?_)
    refine lv_if_ne (tgt := 22) (pc := 16) hx hb dX6_film_16 (by decide) (fun c6 => ?_) (fun c6 => ?_)
    · have hf := hf.1 c6
      refine lv_aload_n (pc := 22) hx hb dX6_film_22 rfl (lv_at hl 0 rfl) ?_
      refine lv_iload_n (pc := 23) hx hb dX6_film_23 rfl (lv_at hl 1 rfl) ?_
      refine lv_iconst (v := 0) (pc := 24) hx hb dX6_film_24 rfl ?_
      refine lv_iload_n (pc := 25) hx hb dX6_film_25 rfl (lv_at hl 2 rfl) ?_
      refine callVI (G := (D, tysM cy, F)) (L := LM ad cy Rr) (pc := 26) (As := [.int p1, .int 0, .int p2]) (rest := []) hF E cs0 hl hI (tX6_sheet hF hf) mwX6_416 (fitD (by decide)) (at6) rfl rfl rfl rfl (Nat.le_of_ble_eq_true rfl) dX6_film_26 (fun r8 σ7 H locs hf hI => ?_)
      refine lv_pop (pc := 29) hx hb dX6_film_29 rfl ?_
      refine lv_aload_n (pc := 30) hx hb dX6_film_30 rfl (lv_at hl 0 rfl) ?_
      refine callVV (G := (D, tysM cy, F)) (L := LM ad cy Rr) (pc := 31) (As := []) (rest := []) hF E cs0 hl hI (tX6_laysAside hF hf) mwX6_385 (fitD (by decide)) (at6) rfl rfl rfl rfl (Nat.le_of_ble_eq_true rfl) dX6_film_31 (fun σ9 H locs hf hI => ?_)
      refine lv_iconst (v := 0) (pc := 34) hx hb dX6_film_34 rfl ?_
      refine lv_istore_n (lv' := [(3, .int 0), (0, .ref (ad 16 99)), (1, .int p1), (2, .int p2)]) (pc := 35) hx hb dX6_film_35 rfl hl (by decide) rfl (fun ls hl => ?_)
      obtain ⟨n18, hf⟩ := hf
      exact bX6_film_36 hF E hr hlk n18 hf hI (lv_sub hl [1, 2, 3, 0] rfl)
    · have hf := hf.2 c6
      refine lv_bipush (v := (-2)) (pc := 19) hx hb dX6_film_19 rfl ?_
      exact rI (pc := 21) E hr hlk hI hf dX6_film_21
theorem tX6_film {l : Launch} {D : va_G} {F : (Nat → Prop) → State → Prop} {σ : St} {ad : Nat → Nat → Nat} {cy : Nat → ClassId} {Rr : va_W} {Q : Int32 → St → Prop} {p1 : Int32} {p2 : Int32} (hF : Stab F) (hf : wX6_film p1 p2 σ Q) : CtI l yX6_film cX6_film 4 .int 46 (D, tysM cy, F) (LM ad cy Rr) [.ref (ad 16 99), .int p1, .int p2] σ Q := mkI (by decide) (Nat.le_of_ble_eq_true rfl) (fun p e s m below meth c A E hr hlk hI ls hl => bX6_film hF E hr hlk hf hI hl)

def wX6_filledBehind (p1 : Int32) (σ : St) (Q : Int64 → St → Prop) : Prop := wX6_laysAside σ (fun σ1 => wX6_goes p1 σ1 (fun σ2 => ∀ x3 : Int64, x3 = (gJ σ2 16 8) → wX6_laysBack σ2 (fun σ4 => Q x3 σ4)))
set_option maxRecDepth 100000 in
set_option maxHeartbeats 4000000 in
theorem bX6_filledBehind {p : Program} {l : Launch} {e : Env} {s : State} {m : MethodId} {args : Array Value} {below : List Frame} {meth : Method} {c : Code} {H : Heap} {locs : List Loc} {ls : Array Slot} {D : va_G} {F : (Nat → Prop) → State → Prop} {A : Nat → Prop} {σ : St} {ad : Nat → Nat → Nat} {cy : Nat → ClassId} {Rr : va_W} {Q : Int64 → St → Prop} {p1 : Int32} (hF : Stab F) (E : CallFix p m c cX6_filledBehind 4 s args TB RX6) (hr : meth.sig.returnType = some .long) (hlk : meth.locks = false) (hf : wX6_filledBehind p1 σ Q) (hI : In (D, tysM cy, F) (LM ad cy Rr σ) A s H locs) (hl : lv_has ls 4 [(0, .ref (ad 16 99)), (1, .int p1)]) : W p l e (rmD 47) s m args below meth c H locs 0 0 (PJ below args s (D, tysM cy, F) A (LM ad cy Rr) Q) (F0 m 0 ls []) := by
  have hx := E.1
  have hb := E.2.1
  unfold wX6_filledBehind at hf
  refine lv_aload_n (pc := 0) hx hb dX6_filledBehind_0 rfl (lv_at hl 0 rfl) ?_
  refine callVV (G := (D, tysM cy, F)) (L := LM ad cy Rr) (pc := 1) (As := []) (rest := []) hF E cs0 hl hI (tX6_laysAside hF hf) mwX6_385 (fitD (by decide)) (at6) rfl rfl rfl rfl (Nat.le_of_ble_eq_true rfl) dX6_filledBehind_1 (fun σ1 H locs hf hI => ?_)
  refine lv_aload_n (pc := 4) hx hb dX6_filledBehind_4 rfl (lv_at hl 0 rfl) ?_
  refine lv_iload_n (pc := 5) hx hb dX6_filledBehind_5 rfl (lv_at hl 1 rfl) ?_
  refine callVV (G := (D, tysM cy, F)) (L := LM ad cy Rr) (pc := 6) (As := [.int p1]) (rest := []) hF E cs0 hl hI (tX6_goes hF hf) mwX6_388 (fitD (by decide)) (at6) rfl rfl rfl rfl (Nat.le_of_ble_eq_true rfl) dX6_filledBehind_6 (fun σ2 H locs hf hI => ?_)
  refine lv_aload_n (pc := 9) hx hb dX6_filledBehind_9 rfl (lv_at hl 0 rfl) ?_
  refine g6_8 (pc := 10) E hI lkX6_109 dX6_filledBehind_10 ?_
  refine lv_topl (fun x3 ex3 => ?_)
  have hf := hf x3 ex3
  refine lv_lstore_n (lv' := [(2, .long x3), (0, .ref (ad 16 99)), (1, .int p1)]) (pc := 13) hx hb dX6_filledBehind_13 rfl hl (by decide) rfl (fun ls hl => ?_)
  refine lv_aload_n (pc := 14) hx hb dX6_filledBehind_14 rfl (lv_at hl 1 rfl) ?_
  refine callVV (G := (D, tysM cy, F)) (L := LM ad cy Rr) (pc := 15) (As := []) (rest := []) hF E cs0 hl hI (tX6_laysBack hF hf) mwX6_391 (fitD (by decide)) (at6) rfl rfl rfl rfl (Nat.le_of_ble_eq_true rfl) dX6_filledBehind_15 (fun σ4 H locs hf hI => ?_)
  refine lv_lload_n (pc := 18) hx hb dX6_filledBehind_18 rfl (lv_at hl 0 rfl) ?_
  exact rJ (pc := 19) E hr hlk hI hf dX6_filledBehind_19
theorem tX6_filledBehind {l : Launch} {D : va_G} {F : (Nat → Prop) → State → Prop} {σ : St} {ad : Nat → Nat → Nat} {cy : Nat → ClassId} {Rr : va_W} {Q : Int64 → St → Prop} {p1 : Int32} (hF : Stab F) (hf : wX6_filledBehind p1 σ Q) : CtJ l yX6_filledBehind cX6_filledBehind 4 47 (D, tysM cy, F) (LM ad cy Rr) [.ref (ad 16 99), .int p1] σ Q := mkJ (by decide) (Nat.le_of_ble_eq_true rfl) (fun p e s m below meth c A E hr hlk hI ls hl => bX6_filledBehind hF E hr hlk hf hI hl)

def wX6_run_j82 (s0 : Int32) (σ : St) (Q : Int32 → St → Prop) : Prop := wX6_laysBack σ (fun σ15 => Q s0 σ15)
set_option maxRecDepth 100000 in
set_option maxHeartbeats 4000000 in
theorem bX6_run_82 {p : Program} {l : Launch} {e : Env} {s : State} {m : MethodId} {args : Array Value} {below : List Frame} {meth : Method} {c : Code} {H : Heap} {locs : List Loc} {ls : Array Slot} {D : va_G} {F : (Nat → Prop) → State → Prop} {A : Nat → Prop} {σ : St} {ad : Nat → Nat → Nat} {cy : Nat → ClassId} {Rr : va_W} {Q : Int32 → St → Prop} {s0 : Int32} (hF : Stab F) (E : CallFix p m c cX6_run 5 s args TB RX6) (hr : meth.sig.returnType = some .int) (hlk : meth.locks = false) (hf : wX6_run_j82 s0 σ Q) (hI : In (D, tysM cy, F) (LM ad cy Rr σ) A s H locs) (hl : lv_has ls 5 [(0, .ref (ad 16 99))]) : W p l e (rmD 47) s m args below meth c H locs 0 0 (PI below args s (D, tysM cy, F) A (LM ad cy Rr) Q) (F0 m 82 ls [.int s0]) := by
  have hx := E.1
  have hb := E.2.1
  unfold wX6_run_j82 at hf
  refine lv_istore (lv' := [(4, .int s0), (0, .ref (ad 16 99))]) (pc := 82) hx hb dX6_run_82 hl (by decide) rfl (fun ls hl => ?_)
  refine lv_aload_n (pc := 84) hx hb dX6_run_84 rfl (lv_at hl 1 rfl) ?_
  refine callVV (G := (D, tysM cy, F)) (L := LM ad cy Rr) (pc := 85) (As := []) (rest := []) hF E cs0 hl hI (tX6_laysBack hF hf) mwX6_391 (fitD (by decide)) (at6) rfl rfl rfl rfl (Nat.le_of_ble_eq_true rfl) dX6_run_85 (fun σ15 H locs hf hI => ?_)
  refine lv_iload (pc := 88) hx hb dX6_run_88 (lv_at hl 0 rfl) ?_
  exact rI (pc := 90) E hr hlk hI hf dX6_run_90
def wX6_run (p1 : Int32) (p2 : Int32) (p3 : Int32) (σ : St) (Q : Int32 → St → Prop) : Prop := wX6_isOne p1 σ (fun r2 σ1 => ((r2 = 0 → Q (-2) σ1) ∧ (¬ r2 = 0 → wX6_in (p2.toInt64) 0 40 σ1 (fun r5 σ4 => ((r5 = 0 → Q (-2) σ4) ∧ (¬ r5 = 0 → wX6_in (p3.toInt64) 0 4 σ4 (fun r8 σ7 => ((¬ r8 = 0 → wX6_laysAside σ7 (fun σ10 => wX6_goes p2 σ10 (fun σ11 => ((¬ p3 = 0 → ((¬ p3 = 1 → vp_in (((5 * p1) + p3) - 1) 25 ∧ (wX6_run_j82 (gA σ11 16 11 (((5 * p1) + p3) - 1).toNatClampNeg) σ11 Q)) ∧ (p3 = 1 → wX6_boxAll σ11 (fun r17 σ16 => (wX6_run_j82 r17 σ16 Q))))) ∧ (p3 = 0 → wX6_bitsOf (gJ σ11 16 8) σ11 (fun r19 σ18 => (wX6_run_j82 r19 σ18 Q))))))) ∧ (r8 = 0 → Q (-2) σ7)))))))))
set_option maxRecDepth 100000 in
set_option maxHeartbeats 4000000 in
theorem bX6_run {p : Program} {l : Launch} {e : Env} {s : State} {m : MethodId} {args : Array Value} {below : List Frame} {meth : Method} {c : Code} {H : Heap} {locs : List Loc} {ls : Array Slot} {D : va_G} {F : (Nat → Prop) → State → Prop} {A : Nat → Prop} {σ : St} {ad : Nat → Nat → Nat} {cy : Nat → ClassId} {Rr : va_W} {Q : Int32 → St → Prop} {p1 : Int32} {p2 : Int32} {p3 : Int32} (hF : Stab F) (E : CallFix p m c cX6_run 5 s args TB RX6) (hr : meth.sig.returnType = some .int) (hlk : meth.locks = false) (hf : wX6_run p1 p2 p3 σ Q) (hI : In (D, tysM cy, F) (LM ad cy Rr σ) A s H locs) (hl : lv_has ls 5 [(0, .ref (ad 16 99)), (1, .int p1), (2, .int p2), (3, .int p3)]) : W p l e (rmD 47) s m args below meth c H locs 0 0 (PI below args s (D, tysM cy, F) A (LM ad cy Rr) Q) (F0 m 0 ls []) := by
  have hx := E.1
  have hb := E.2.1
  unfold wX6_run at hf
  refine lv_aload_n (pc := 0) hx hb dX6_run_0 rfl (lv_at hl 0 rfl) ?_
  refine lv_iload_n (pc := 1) hx hb dX6_run_1 rfl (lv_at hl 1 rfl) ?_
  refine callVI (G := (D, tysM cy, F)) (L := LM ad cy Rr) (pc := 2) (As := [.int p1]) (rest := []) hF E cs0 hl hI (tX6_isOne hF hf) mwX6_84 (fitD (by decide)) (at6) rfl rfl rfl rfl (Nat.le_of_ble_eq_true rfl) dX6_run_2 (fun r2 σ1 H locs hf hI => ?_)
  refine lv_if_eq (tgt := 32) (pc := 5) hx hb dX6_run_5 (by decide) (fun c3 => ?_) (fun c3 => ?_)
  · have hf := hf.1 c3
    refine lv_bipush (v := (-2)) (pc := 32) hx hb dX6_run_32 rfl ?_
    exact rI (pc := 34) E hr hlk hI hf dX6_run_34
  · have hf := hf.2 c3
    refine lv_iload_n (pc := 8) hx hb dX6_run_8 rfl (lv_at hl 2 rfl) ?_
    refine lv_i2l (v := (p2.toInt64)) (pc := 9) hx hb dX6_run_9 rfl ?_
    refine lv_lconst (v := 0) (pc := 10) hx hb dX6_run_10 rfl ?_
    refine lv_ldc2 (pc := 11) E.1 E.2.1 E.2.2.2.1 (E.2.2.2.2 _ kcX6_394) dX6_run_11 ?_
    refine callSI (G := (D, tysM cy, F)) (L := LM ad cy Rr) (pc := 14) (As := [.long (p2.toInt64), .long 0, .long 40]) (rest := []) hF E cs0 hl hI (tX6_in hF hf) mwX6_76 (fitD (by decide)) rfl rfl (Nat.le_of_ble_eq_true rfl) dX6_run_14 (fun r5 σ4 H locs hf hI => ?_)
    refine lv_if_eq (tgt := 32) (pc := 17) hx hb dX6_run_17 (by decide) (fun c6 => ?_) (fun c6 => ?_)
    · have hf := hf.1 c6
      refine lv_bipush (v := (-2)) (pc := 32) hx hb dX6_run_32 rfl ?_
      exact rI (pc := 34) E hr hlk hI hf dX6_run_34
    · have hf := hf.2 c6
      refine lv_iload_n (pc := 20) hx hb dX6_run_20 rfl (lv_at hl 3 rfl) ?_
      refine lv_i2l (v := (p3.toInt64)) (pc := 21) hx hb dX6_run_21 rfl ?_
      refine lv_lconst (v := 0) (pc := 22) hx hb dX6_run_22 rfl ?_
      refine lv_ldc2 (pc := 23) E.1 E.2.1 E.2.2.2.1 (E.2.2.2.2 _ kcX6_137) dX6_run_23 ?_
      refine callSI (G := (D, tysM cy, F)) (L := LM ad cy Rr) (pc := 26) (As := [.long (p3.toInt64), .long 0, .long 4]) (rest := []) hF E cs0 hl hI (tX6_in hF hf) mwX6_76 (fitD (by decide)) rfl rfl (Nat.le_of_ble_eq_true rfl) dX6_run_26 (fun r8 σ7 H locs hf hI => ?_)
      refine lv_if_ne (tgt := 35) (pc := 29) hx hb dX6_run_29 (by decide) (fun c9 => ?_) (fun c9 => ?_)
      · have hf := hf.1 c9
        refine lv_aload_n (pc := 35) hx hb dX6_run_35 rfl (lv_at hl 0 rfl) ?_
        refine callVV (G := (D, tysM cy, F)) (L := LM ad cy Rr) (pc := 36) (As := []) (rest := []) hF E cs0 hl hI (tX6_laysAside hF hf) mwX6_385 (fitD (by decide)) (at6) rfl rfl rfl rfl (Nat.le_of_ble_eq_true rfl) dX6_run_36 (fun σ10 H locs hf hI => ?_)
        refine lv_aload_n (pc := 39) hx hb dX6_run_39 rfl (lv_at hl 0 rfl) ?_
        refine lv_iload_n (pc := 40) hx hb dX6_run_40 rfl (lv_at hl 2 rfl) ?_
        refine callVV (G := (D, tysM cy, F)) (L := LM ad cy Rr) (pc := 41) (As := [.int p2]) (rest := []) hF E cs0 hl hI (tX6_goes hF hf) mwX6_388 (fitD (by decide)) (at6) rfl rfl rfl rfl (Nat.le_of_ble_eq_true rfl) dX6_run_41 (fun σ11 H locs hf hI => ?_)
        refine lv_iload_n (pc := 44) hx hb dX6_run_44 rfl (lv_at hl 3 rfl) ?_
        refine lv_if_ne (tgt := 58) (pc := 45) hx hb dX6_run_45 (by decide) (fun c12 => ?_) (fun c12 => ?_)
        · have hf := hf.1 c12
          refine lv_iload_n (pc := 58) hx hb dX6_run_58 rfl (lv_at hl 3 rfl) ?_
          refine lv_iconst (v := 1) (pc := 59) hx hb dX6_run_59 rfl ?_
          refine lv_icmp_ne (tgt := 70) (pc := 60) hx hb dX6_run_60 (by decide) (fun c13 => ?_) (fun c13 => ?_)
          · have hf := hf.1 c13
            refine lv_aload_n (pc := 70) hx hb dX6_run_70 rfl (lv_at hl 0 rfl) ?_
            refine g6_11 (pc := 71) E hI lkX6_29 dX6_run_71 ?_
            refine lv_iconst (v := 5) (pc := 74) hx hb dX6_run_74 rfl ?_
            refine lv_iload_n (pc := 75) hx hb dX6_run_75 rfl (lv_at hl 1 rfl) ?_
            refine lv_imul (pc := 76) hx hb dX6_run_76 ?_
            refine lv_iload_n (pc := 77) hx hb dX6_run_77 rfl (lv_at hl 3 rfl) ?_
            refine lv_iadd (pc := 78) hx hb dX6_run_78 ?_
            refine lv_iconst (v := 1) (pc := 79) hx hb dX6_run_79 rfl ?_
            refine lv_isub (pc := 80) hx hb dX6_run_80 ?_
            have g14 := hf.1
            have hf := hf.2
            refine a6_11 (pc := 81) E hI g14 dX6_run_81 ?_
            exact bX6_run_82 hF E hr hlk hf hI (lv_sub hl [0] rfl)
          · have hf := hf.2 c13
            refine lv_aload_n (pc := 63) hx hb dX6_run_63 rfl (lv_at hl 0 rfl) ?_
            refine callVI (G := (D, tysM cy, F)) (L := LM ad cy Rr) (pc := 64) (As := []) (rest := []) hF E cs0 hl hI (tX6_boxAll hF hf) mwX6_356 (fitD (by decide)) (at6) rfl rfl rfl rfl (Nat.le_of_ble_eq_true rfl) dX6_run_64 (fun r17 σ16 H locs hf hI => ?_)
            refine lv_goto (tgt := 82) (pc := 67) hx hb dX6_run_67 (by decide) ?_
            exact bX6_run_82 hF E hr hlk hf hI (lv_sub hl [0] rfl)
        · have hf := hf.2 c12
          refine lv_aload_n (pc := 48) hx hb dX6_run_48 rfl (lv_at hl 0 rfl) ?_
          refine g6_8 (pc := 49) E hI lkX6_109 dX6_run_49 ?_
          refine callSI (G := (D, tysM cy, F)) (L := LM ad cy Rr) (pc := 52) (As := [.long (gJ σ11 16 8)]) (rest := []) hF E cs0 hl hI (tX6_bitsOf hF hf) mwX6_352 (fitD (by decide)) rfl rfl (Nat.le_of_ble_eq_true rfl) dX6_run_52 (fun r19 σ18 H locs hf hI => ?_)
          refine lv_goto (tgt := 82) (pc := 55) hx hb dX6_run_55 (by decide) ?_
          exact bX6_run_82 hF E hr hlk hf hI (lv_sub hl [0] rfl)
      · have hf := hf.2 c9
        refine lv_bipush (v := (-2)) (pc := 32) hx hb dX6_run_32 rfl ?_
        exact rI (pc := 34) E hr hlk hI hf dX6_run_34
theorem tX6_run {l : Launch} {D : va_G} {F : (Nat → Prop) → State → Prop} {σ : St} {ad : Nat → Nat → Nat} {cy : Nat → ClassId} {Rr : va_W} {Q : Int32 → St → Prop} {p1 : Int32} {p2 : Int32} {p3 : Int32} (hF : Stab F) (hf : wX6_run p1 p2 p3 σ Q) : CtI l yX6_run cX6_run 5 .int 47 (D, tysM cy, F) (LM ad cy Rr) [.ref (ad 16 99), .int p1, .int p2, .int p3] σ Q := mkI (by decide) (Nat.le_of_ble_eq_true rfl) (fun p e s m below meth c A E hr hlk hI ls hl => bX6_run hF E hr hlk hf hI hl)

def wX6_tells_j247 (a1 : Int32) (a2 : Int32) (a3 : Int32) (a4 : Int32) (a5 : Int32) (a7 : Int32) (a8 : Int32) (a9 : Int32) (a10 : Int32) (σ : St) (K : Int32 → Int32 → Int32 → Int32 → Int32 → Int32 → Int32 → Int32 → Int32 → St → Prop) (Q : Int32 → St → Prop) : Prop := ∀ x34 : Int32, x34 = a10 + (-1) → (K a1 a2 a3 a4 a5 a7 a8 a9 x34 σ)
set_option maxRecDepth 100000 in
set_option maxHeartbeats 4000000 in
theorem bX6_tells_247 {p : Program} {l : Launch} {e : Env} {s : State} {m : MethodId} {args : Array Value} {below : List Frame} {meth : Method} {c : Code} {H : Heap} {locs : List Loc} {ls : Array Slot} {D : va_G} {F : (Nat → Prop) → State → Prop} {A : Nat → Prop} {σ : St} {ad : Nat → Nat → Nat} {cy : Nat → ClassId} {Rr : va_W} {Q : Int32 → St → Prop} {a1 : Int32} {a2 : Int32} {a3 : Int32} {a4 : Int32} {a5 : Int32} {a7 : Int32} {a8 : Int32} {a9 : Int32} {a10 : Int32} {K : Int32 → Int32 → Int32 → Int32 → Int32 → Int32 → Int32 → Int32 → Int32 → St → Prop} (hF : Stab F) (E : CallFix p m c cX6_tells 11 s args TB RX6) (hr : meth.sig.returnType = some .int) (hlk : meth.locks = false) (hK : ∀ (a1 : Int32) (a2 : Int32) (a3 : Int32) (a4 : Int32) (a5 : Int32) (a7 : Int32) (a8 : Int32) (a9 : Int32) (a10 : Int32) (σ : St) (H : Heap) (locs : List Loc) (ls : Array Slot), K a1 a2 a3 a4 a5 a7 a8 a9 a10 σ → In (D, tysM cy, F) (LM ad cy Rr σ) A s H locs → lv_has ls 11 [(0, .ref (ad 16 99)), (1, .int a1), (2, .int a2), (3, .int a3), (4, .int a4), (5, .int a5), (7, .int a7), (8, .int a8), (9, .int a9), (10, .int a10)] → W p l e (rmD 47) s m args below meth c H locs 0 0 (PI below args s (D, tysM cy, F) A (LM ad cy Rr) Q) (F0 m 197 ls [])) (hf : wX6_tells_j247 a1 a2 a3 a4 a5 a7 a8 a9 a10 σ K Q) (hI : In (D, tysM cy, F) (LM ad cy Rr σ) A s H locs) (hl : lv_has ls 11 [(0, .ref (ad 16 99)), (1, .int a1), (2, .int a2), (3, .int a3), (4, .int a4), (5, .int a5), (7, .int a7), (8, .int a8), (9, .int a9), (10, .int a10)]) : W p l e (rmD 47) s m args below meth c H locs 0 0 (PI below args s (D, tysM cy, F) A (LM ad cy Rr) Q) (F0 m 247 ls []) := by
  have hx := E.1
  have hb := E.2.1
  unfold wX6_tells_j247 at hf
  obtain ⟨x34, ex34⟩ : ∃ y : Int32, y = a10 + (-1) := ⟨_, rfl⟩
  have hf := hf x34 ex34
  refine lv_iinc (v := x34) (lv' := [(10, .int x34), (0, .ref (ad 16 99)), (1, .int a1), (2, .int a2), (3, .int a3), (4, .int a4), (5, .int a5), (7, .int a7), (8, .int a8), (9, .int a9)]) (pc := 247) hx hb dX6_tells_247 hl (k := 9) rfl (by rw [ex34]; rfl) (by decide) rfl (fun ls hl => ?_)
  refine lv_goto (tgt := 197) (pc := 250) hx hb dX6_tells_250 (by decide) ?_
  exact hK _ _ _ _ _ _ _ _ _ _ _ _ _ hf hI (lv_sub hl [1, 2, 3, 4, 5, 6, 7, 8, 9, 0] rfl)
def wX6_tells_j237 (a1 : Int32) (a2 : Int32) (a3 : Int32) (a4 : Int32) (a5 : Int32) (a8 : Int32) (a10 : Int32) (s0 : Int32) (s1 : Int32) (σ : St) (K : Int32 → Int32 → Int32 → Int32 → Int32 → Int32 → Int32 → Int32 → Int32 → St → Prop) (Q : Int32 → St → Prop) : Prop := ∀ x36 : Int32, x36 = (s0 ||| s1) → ∀ x37 : Int32, x37 = a8 + 1 → (wX6_tells_j247 a1 a2 a3 a4 a5 x36 x37 a10 a10 σ K Q)
set_option maxRecDepth 100000 in
set_option maxHeartbeats 4000000 in
theorem bX6_tells_237 {p : Program} {l : Launch} {e : Env} {s : State} {m : MethodId} {args : Array Value} {below : List Frame} {meth : Method} {c : Code} {H : Heap} {locs : List Loc} {ls : Array Slot} {D : va_G} {F : (Nat → Prop) → State → Prop} {A : Nat → Prop} {σ : St} {ad : Nat → Nat → Nat} {cy : Nat → ClassId} {Rr : va_W} {Q : Int32 → St → Prop} {a1 : Int32} {a2 : Int32} {a3 : Int32} {a4 : Int32} {a5 : Int32} {a8 : Int32} {a10 : Int32} {s0 : Int32} {s1 : Int32} {K : Int32 → Int32 → Int32 → Int32 → Int32 → Int32 → Int32 → Int32 → Int32 → St → Prop} (hF : Stab F) (E : CallFix p m c cX6_tells 11 s args TB RX6) (hr : meth.sig.returnType = some .int) (hlk : meth.locks = false) (hK : ∀ (a1 : Int32) (a2 : Int32) (a3 : Int32) (a4 : Int32) (a5 : Int32) (a7 : Int32) (a8 : Int32) (a9 : Int32) (a10 : Int32) (σ : St) (H : Heap) (locs : List Loc) (ls : Array Slot), K a1 a2 a3 a4 a5 a7 a8 a9 a10 σ → In (D, tysM cy, F) (LM ad cy Rr σ) A s H locs → lv_has ls 11 [(0, .ref (ad 16 99)), (1, .int a1), (2, .int a2), (3, .int a3), (4, .int a4), (5, .int a5), (7, .int a7), (8, .int a8), (9, .int a9), (10, .int a10)] → W p l e (rmD 47) s m args below meth c H locs 0 0 (PI below args s (D, tysM cy, F) A (LM ad cy Rr) Q) (F0 m 197 ls [])) (hf : wX6_tells_j237 a1 a2 a3 a4 a5 a8 a10 s0 s1 σ K Q) (hI : In (D, tysM cy, F) (LM ad cy Rr σ) A s H locs) (hl : lv_has ls 11 [(0, .ref (ad 16 99)), (1, .int a1), (2, .int a2), (3, .int a3), (4, .int a4), (5, .int a5), (8, .int a8), (10, .int a10)]) : W p l e (rmD 47) s m args below meth c H locs 0 0 (PI below args s (D, tysM cy, F) A (LM ad cy Rr) Q) (F0 m 237 ls [.int s1, .int s0]) := by
  have hx := E.1
  have hb := E.2.1
  unfold wX6_tells_j237 at hf
  refine lv_ior (pc := 237) hx hb dX6_tells_237 ?_
  refine lv_topi (fun x36 ex36 => ?_)
  have hf := hf x36 ex36
  refine lv_istore (lv' := [(7, .int x36), (0, .ref (ad 16 99)), (1, .int a1), (2, .int a2), (3, .int a3), (4, .int a4), (5, .int a5), (8, .int a8), (10, .int a10)]) (pc := 238) hx hb dX6_tells_238 hl (by decide) rfl (fun ls hl => ?_)
  obtain ⟨x37, ex37⟩ : ∃ y : Int32, y = a8 + 1 := ⟨_, rfl⟩
  have hf := hf x37 ex37
  refine lv_iinc (v := x37) (lv' := [(8, .int x37), (7, .int x36), (0, .ref (ad 16 99)), (1, .int a1), (2, .int a2), (3, .int a3), (4, .int a4), (5, .int a5), (10, .int a10)]) (pc := 240) hx hb dX6_tells_240 hl (k := 7) rfl (by rw [ex37]; rfl) (by decide) rfl (fun ls hl => ?_)
  refine lv_iload (pc := 243) hx hb dX6_tells_243 (lv_at hl 8 rfl) ?_
  refine lv_istore (lv' := [(9, .int a10), (8, .int x37), (7, .int x36), (0, .ref (ad 16 99)), (1, .int a1), (2, .int a2), (3, .int a3), (4, .int a4), (5, .int a5), (10, .int a10)]) (pc := 245) hx hb dX6_tells_245 hl (by decide) rfl (fun ls hl => ?_)
  exact bX6_tells_247 hF E hr hlk hK hf hI (lv_sub hl [3, 4, 5, 6, 7, 8, 2, 1, 0, 9] rfl)
def wX6_tells_l197s (ih : Int32 → Int32 → Int32 → Int32 → Int32 → Int32 → Int32 → Int32 → Int32 → St → Prop) (a1 : Int32) (a2 : Int32) (a3 : Int32) (a4 : Int32) (a5 : Int32) (a7 : Int32) (a8 : Int32) (a9 : Int32) (a10 : Int32) (σ : St) (Q : Int32 → St → Prop) : Prop := ((a10 < 0 → wX6_lays a4 a2 a5 σ (fun σ27 => ((¬ a3 = 4 → ((¬ a3 = 5 → Q a7 σ27) ∧ (a3 = 5 → Q a9 σ27))) ∧ (a3 = 4 → Q a8 σ27)))) ∧ (¬ a10 < 0 → wX6_lays a4 a2 a10 σ (fun σ30 => wX6_firstOther a1 σ30 (fun r32 σ31 => ((¬ r32 = (-1) → (wX6_tells_j247 a1 a2 a3 a4 a5 a7 a8 a9 a10 σ31 ih Q)) ∧ (r32 = (-1) → ((10 ≤ a10 → (wX6_tells_j237 a1 a2 a3 a4 a5 a8 a10 a7 0 σ31 ih Q)) ∧ (¬ 10 ≤ a10 → (wX6_tells_j237 a1 a2 a3 a4 a5 a8 a10 a7 (ish 1 a10) σ31 ih Q)))))))))
def wX6_tells_l197 (n : Nat) : Int32 → Int32 → Int32 → Int32 → Int32 → Int32 → Int32 → Int32 → Int32 → St → (Int32 → St → Prop) → Prop := @Nat.rec (fun _ => Int32 → Int32 → Int32 → Int32 → Int32 → Int32 → Int32 → Int32 → Int32 → St → (Int32 → St → Prop) → Prop) (fun _ _ _ _ _ _ _ _ _ _ _ => False) (fun _ ih a1 a2 a3 a4 a5 a7 a8 a9 a10 σ Q => wX6_tells_l197s (fun a1 a2 a3 a4 a5 a7 a8 a9 a10 σ => ih a1 a2 a3 a4 a5 a7 a8 a9 a10 σ Q) a1 a2 a3 a4 a5 a7 a8 a9 a10 σ Q) n
set_option maxRecDepth 100000 in
set_option maxHeartbeats 4000000 in
theorem bX6_tells_197 {p : Program} {l : Launch} {e : Env} {s : State} {m : MethodId} {args : Array Value} {below : List Frame} {meth : Method} {c : Code} {D : va_G} {F : (Nat → Prop) → State → Prop} {A : Nat → Prop} {ad : Nat → Nat → Nat} {cy : Nat → ClassId} {Rr : va_W} {Q : Int32 → St → Prop} (hF : Stab F) (E : CallFix p m c cX6_tells 11 s args TB RX6) (hr : meth.sig.returnType = some .int) (hlk : meth.locks = false) : ∀ (n : Nat) {a1 : Int32} {a2 : Int32} {a3 : Int32} {a4 : Int32} {a5 : Int32} {a7 : Int32} {a8 : Int32} {a9 : Int32} {a10 : Int32} {σ : St} {H : Heap} {locs : List Loc} {ls : Array Slot}, wX6_tells_l197 n a1 a2 a3 a4 a5 a7 a8 a9 a10 σ Q → In (D, tysM cy, F) (LM ad cy Rr σ) A s H locs → lv_has ls 11 [(0, .ref (ad 16 99)), (1, .int a1), (2, .int a2), (3, .int a3), (4, .int a4), (5, .int a5), (7, .int a7), (8, .int a8), (9, .int a9), (10, .int a10)] → W p l e (rmD 47) s m args below meth c H locs 0 0 (PI below args s (D, tysM cy, F) A (LM ad cy Rr) Q) (F0 m 197 ls []) := by
  have hx := E.1
  have hb := E.2.1
  intro n
  induction n with
  | zero => intro a1 a2 a3 a4 a5 a7 a8 a9 a10 σ H locs ls hf hI hl; exact False.elim hf
  | succ n ih =>
    intro a1 a2 a3 a4 a5 a7 a8 a9 a10 σ H locs ls hf hI hl
    have hf : wX6_tells_l197s (fun a1 a2 a3 a4 a5 a7 a8 a9 a10 σ => wX6_tells_l197 n a1 a2 a3 a4 a5 a7 a8 a9 a10 σ Q) a1 a2 a3 a4 a5 a7 a8 a9 a10 σ Q := hf
    unfold wX6_tells_l197s at hf
    refine lv_iload (pc := 197) hx hb dX6_tells_197 (lv_at hl 9 rfl) ?_
    refine lv_if_lt (tgt := 253) (pc := 199) hx hb dX6_tells_199 (by decide) (fun c26 => ?_) (fun c26 => ?_)
    · have hf := hf.1 c26
      refine lv_aload_n (pc := 253) hx hb dX6_tells_253 rfl (lv_at hl 0 rfl) ?_
      refine lv_iload (pc := 254) hx hb dX6_tells_254 (lv_at hl 4 rfl) ?_
      refine lv_iload_n (pc := 256) hx hb dX6_tells_256 rfl (lv_at hl 2 rfl) ?_
      refine lv_iload (pc := 257) hx hb dX6_tells_257 (lv_at hl 5 rfl) ?_
      refine callVV (G := (D, tysM cy, F)) (L := LM ad cy Rr) (pc := 259) (As := [.int a4, .int a2, .int a5]) (rest := []) hF E cs0 hl hI (tX6_lays hF hf) mwX6_102 (fitD (by decide)) (at6) rfl rfl rfl rfl (Nat.le_of_ble_eq_true rfl) dX6_tells_259 (fun σ27 H locs hf hI => ?_)
      refine lv_iload_n (pc := 262) hx hb dX6_tells_262 rfl (lv_at hl 3 rfl) ?_
      refine lv_iconst (v := 4) (pc := 263) hx hb dX6_tells_263 rfl ?_
      refine lv_icmp_ne (tgt := 272) (pc := 264) hx hb dX6_tells_264 (by decide) (fun c28 => ?_) (fun c28 => ?_)
      · have hf := hf.1 c28
        refine lv_iload_n (pc := 272) hx hb dX6_tells_272 rfl (lv_at hl 3 rfl) ?_
        refine lv_iconst (v := 5) (pc := 273) hx hb dX6_tells_273 rfl ?_
        refine lv_icmp_ne (tgt := 282) (pc := 274) hx hb dX6_tells_274 (by decide) (fun c29 => ?_) (fun c29 => ?_)
        · have hf := hf.1 c29
          refine lv_iload (pc := 282) hx hb dX6_tells_282 (lv_at hl 6 rfl) ?_
          exact rI (pc := 284) E hr hlk hI hf dX6_tells_284
        · have hf := hf.2 c29
          refine lv_iload (pc := 277) hx hb dX6_tells_277 (lv_at hl 8 rfl) ?_
          refine lv_goto (tgt := 284) (pc := 279) hx hb dX6_tells_279 (by decide) ?_
          exact rI (pc := 284) E hr hlk hI hf dX6_tells_284
      · have hf := hf.2 c28
        refine lv_iload (pc := 267) hx hb dX6_tells_267 (lv_at hl 7 rfl) ?_
        refine lv_goto (tgt := 284) (pc := 269) hx hb dX6_tells_269 (by decide) ?_
        exact rI (pc := 284) E hr hlk hI hf dX6_tells_284
    · have hf := hf.2 c26
      refine lv_aload_n (pc := 202) hx hb dX6_tells_202 rfl (lv_at hl 0 rfl) ?_
      refine lv_iload (pc := 203) hx hb dX6_tells_203 (lv_at hl 4 rfl) ?_
      refine lv_iload_n (pc := 205) hx hb dX6_tells_205 rfl (lv_at hl 2 rfl) ?_
      refine lv_iload (pc := 206) hx hb dX6_tells_206 (lv_at hl 9 rfl) ?_
      refine callVV (G := (D, tysM cy, F)) (L := LM ad cy Rr) (pc := 208) (As := [.int a4, .int a2, .int a10]) (rest := []) hF E cs0 hl hI (tX6_lays hF hf) mwX6_102 (fitD (by decide)) (at6) rfl rfl rfl rfl (Nat.le_of_ble_eq_true rfl) dX6_tells_208 (fun σ30 H locs hf hI => ?_)
      refine lv_aload_n (pc := 211) hx hb dX6_tells_211 rfl (lv_at hl 0 rfl) ?_
      refine lv_iload_n (pc := 212) hx hb dX6_tells_212 rfl (lv_at hl 1 rfl) ?_
      refine callVI (G := (D, tysM cy, F)) (L := LM ad cy Rr) (pc := 213) (As := [.int a1]) (rest := []) hF E cs0 hl hI (tX6_firstOther hF hf) mwX6_413 (fitD (by decide)) (at6) rfl rfl rfl rfl (Nat.le_of_ble_eq_true rfl) dX6_tells_213 (fun r32 σ31 H locs hf hI => ?_)
      refine lv_iconst (v := (-1)) (pc := 216) hx hb dX6_tells_216 rfl ?_
      refine lv_icmp_ne (tgt := 247) (pc := 217) hx hb dX6_tells_217 (by decide) (fun c33 => ?_) (fun c33 => ?_)
      · have hf := hf.1 c33
        exact bX6_tells_247 hF E hr hlk (fun _ _ _ _ _ _ _ _ _ _ _ _ _ hf hI hl => ih hf hI hl) hf hI (lv_sub hl [0, 1, 2, 3, 4, 5, 6, 7, 8, 9] rfl)
      · have hf := hf.2 c33
        refine lv_iload (pc := 220) hx hb dX6_tells_220 (lv_at hl 6 rfl) ?_
        refine lv_iload (pc := 222) hx hb dX6_tells_222 (lv_at hl 9 rfl) ?_
        refine lv_bipush (v := 10) (pc := 224) hx hb dX6_tells_224 rfl ?_
        refine lv_icmp_ge (tgt := 236) (pc := 226) hx hb dX6_tells_226 (by decide) (fun c35 => ?_) (fun c35 => ?_)
        · have hf := hf.1 c35
          refine lv_iconst (v := 0) (pc := 236) hx hb dX6_tells_236 rfl ?_
          exact bX6_tells_237 hF E hr hlk (fun _ _ _ _ _ _ _ _ _ _ _ _ _ hf hI hl => ih hf hI hl) hf hI (lv_sub hl [0, 1, 2, 3, 4, 5, 7, 9] rfl)
        · have hf := hf.2 c35
          refine lv_iconst (v := 1) (pc := 229) hx hb dX6_tells_229 rfl ?_
          refine lv_iload (pc := 230) hx hb dX6_tells_230 (lv_at hl 9 rfl) ?_
          refine lv_ishl1 (pc := 232) hx hb dX6_tells_232 ?_
          refine lv_goto (tgt := 237) (pc := 233) hx hb dX6_tells_233 (by decide) ?_
          exact bX6_tells_237 hF E hr hlk (fun _ _ _ _ _ _ _ _ _ _ _ _ _ hf hI hl => ih hf hI hl) hf hI (lv_sub hl [0, 1, 2, 3, 4, 5, 7, 9] rfl)
def wX6_tells_j182 (a1 : Int32) (a2 : Int32) (a3 : Int32) (a4 : Int32) (a5 : Int32) (s0 : Int32) (σ : St) (Q : Int32 → St → Prop) : Prop := ∃ n38 : Nat, wX6_tells_l197 n38 a1 a2 a3 a4 a5 0 0 (-1) s0 σ Q
set_option maxRecDepth 100000 in
set_option maxHeartbeats 4000000 in
theorem bX6_tells_182 {p : Program} {l : Launch} {e : Env} {s : State} {m : MethodId} {args : Array Value} {below : List Frame} {meth : Method} {c : Code} {H : Heap} {locs : List Loc} {ls : Array Slot} {D : va_G} {F : (Nat → Prop) → State → Prop} {A : Nat → Prop} {σ : St} {ad : Nat → Nat → Nat} {cy : Nat → ClassId} {Rr : va_W} {Q : Int32 → St → Prop} {a1 : Int32} {a2 : Int32} {a3 : Int32} {a4 : Int32} {a5 : Int32} {s0 : Int32} (hF : Stab F) (E : CallFix p m c cX6_tells 11 s args TB RX6) (hr : meth.sig.returnType = some .int) (hlk : meth.locks = false) (hf : wX6_tells_j182 a1 a2 a3 a4 a5 s0 σ Q) (hI : In (D, tysM cy, F) (LM ad cy Rr σ) A s H locs) (hl : lv_has ls 11 [(0, .ref (ad 16 99)), (1, .int a1), (2, .int a2), (3, .int a3), (4, .int a4), (5, .int a5)]) : W p l e (rmD 47) s m args below meth c H locs 0 0 (PI below args s (D, tysM cy, F) A (LM ad cy Rr) Q) (F0 m 182 ls [.int s0]) := by
  have hx := E.1
  have hb := E.2.1
  unfold wX6_tells_j182 at hf
  refine lv_istore (lv' := [(6, .int s0), (0, .ref (ad 16 99)), (1, .int a1), (2, .int a2), (3, .int a3), (4, .int a4), (5, .int a5)]) (pc := 182) hx hb dX6_tells_182 hl (by decide) rfl (fun ls hl => ?_)
  refine lv_iconst (v := 0) (pc := 184) hx hb dX6_tells_184 rfl ?_
  refine lv_istore (lv' := [(7, .int 0), (6, .int s0), (0, .ref (ad 16 99)), (1, .int a1), (2, .int a2), (3, .int a3), (4, .int a4), (5, .int a5)]) (pc := 185) hx hb dX6_tells_185 hl (by decide) rfl (fun ls hl => ?_)
  refine lv_iconst (v := 0) (pc := 187) hx hb dX6_tells_187 rfl ?_
  refine lv_istore (lv' := [(8, .int 0), (7, .int 0), (6, .int s0), (0, .ref (ad 16 99)), (1, .int a1), (2, .int a2), (3, .int a3), (4, .int a4), (5, .int a5)]) (pc := 188) hx hb dX6_tells_188 hl (by decide) rfl (fun ls hl => ?_)
  refine lv_iconst (v := (-1)) (pc := 190) hx hb dX6_tells_190 rfl ?_
  refine lv_istore (lv' := [(9, .int (-1)), (8, .int 0), (7, .int 0), (6, .int s0), (0, .ref (ad 16 99)), (1, .int a1), (2, .int a2), (3, .int a3), (4, .int a4), (5, .int a5)]) (pc := 191) hx hb dX6_tells_191 hl (by decide) rfl (fun ls hl => ?_)
  refine lv_iload (pc := 193) hx hb dX6_tells_193 (lv_at hl 3 rfl) ?_
  refine lv_istore (lv' := [(10, .int s0), (9, .int (-1)), (8, .int 0), (7, .int 0), (6, .int s0), (0, .ref (ad 16 99)), (1, .int a1), (2, .int a2), (3, .int a3), (4, .int a4), (5, .int a5)]) (pc := 195) hx hb dX6_tells_195 hl (by decide) rfl (fun ls hl => ?_)
  obtain ⟨n38, hf⟩ := hf
  exact bX6_tells_197 hF E hr hlk n38 hf hI (lv_sub hl [5, 6, 7, 8, 9, 10, 3, 2, 1, 0] rfl)
def wX6_tells_j130 (a1 : Int32) (a2 : Int32) (a3 : Int32) (a4 : Int32) (s0 : Int32) (σ : St) (Q : Int32 → St → Prop) : Prop := ((¬ a4 = 9 → ((¬ a4 = 8 → ((¬ a4 = 4 → ((¬ a4 = 5 → (wX6_tells_j182 a1 a2 a3 a4 s0 99 σ Q)) ∧ (a4 = 5 → (wX6_tells_j182 a1 a2 a3 a4 s0 3 σ Q)))) ∧ (a4 = 4 → (wX6_tells_j182 a1 a2 a3 a4 s0 9 σ Q)))) ∧ (a4 = 8 → (wX6_tells_j182 a1 a2 a3 a4 s0 5 σ Q)))) ∧ (a4 = 9 → (wX6_tells_j182 a1 a2 a3 a4 s0 ((gI σ 16 3) - 1) σ Q)))
set_option maxRecDepth 100000 in
set_option maxHeartbeats 4000000 in
theorem bX6_tells_130 {p : Program} {l : Launch} {e : Env} {s : State} {m : MethodId} {args : Array Value} {below : List Frame} {meth : Method} {c : Code} {H : Heap} {locs : List Loc} {ls : Array Slot} {D : va_G} {F : (Nat → Prop) → State → Prop} {A : Nat → Prop} {σ : St} {ad : Nat → Nat → Nat} {cy : Nat → ClassId} {Rr : va_W} {Q : Int32 → St → Prop} {a1 : Int32} {a2 : Int32} {a3 : Int32} {a4 : Int32} {s0 : Int32} (hF : Stab F) (E : CallFix p m c cX6_tells 11 s args TB RX6) (hr : meth.sig.returnType = some .int) (hlk : meth.locks = false) (hf : wX6_tells_j130 a1 a2 a3 a4 s0 σ Q) (hI : In (D, tysM cy, F) (LM ad cy Rr σ) A s H locs) (hl : lv_has ls 11 [(0, .ref (ad 16 99)), (1, .int a1), (2, .int a2), (3, .int a3), (4, .int a4)]) : W p l e (rmD 47) s m args below meth c H locs 0 0 (PI below args s (D, tysM cy, F) A (LM ad cy Rr) Q) (F0 m 130 ls [.int s0]) := by
  have hx := E.1
  have hb := E.2.1
  unfold wX6_tells_j130 at hf
  refine lv_istore (lv' := [(5, .int s0), (0, .ref (ad 16 99)), (1, .int a1), (2, .int a2), (3, .int a3), (4, .int a4)]) (pc := 130) hx hb dX6_tells_130 hl (by decide) rfl (fun ls hl => ?_)
  refine lv_iload (pc := 132) hx hb dX6_tells_132 (lv_at hl 5 rfl) ?_
  refine lv_bipush (v := 9) (pc := 134) hx hb dX6_tells_134 rfl ?_
  refine lv_icmp_ne (tgt := 148) (pc := 136) hx hb dX6_tells_136 (by decide) (fun c22 => ?_) (fun c22 => ?_)
  · have hf := hf.1 c22
    refine lv_iload (pc := 148) hx hb dX6_tells_148 (lv_at hl 5 rfl) ?_
    refine lv_bipush (v := 8) (pc := 150) hx hb dX6_tells_150 rfl ?_
    refine lv_icmp_ne (tgt := 159) (pc := 152) hx hb dX6_tells_152 (by decide) (fun c23 => ?_) (fun c23 => ?_)
    · have hf := hf.1 c23
      refine lv_iload (pc := 159) hx hb dX6_tells_159 (lv_at hl 5 rfl) ?_
      refine lv_iconst (v := 4) (pc := 161) hx hb dX6_tells_161 rfl ?_
      refine lv_icmp_ne (tgt := 170) (pc := 162) hx hb dX6_tells_162 (by decide) (fun c24 => ?_) (fun c24 => ?_)
      · have hf := hf.1 c24
        refine lv_iload (pc := 170) hx hb dX6_tells_170 (lv_at hl 5 rfl) ?_
        refine lv_iconst (v := 5) (pc := 172) hx hb dX6_tells_172 rfl ?_
        refine lv_icmp_ne (tgt := 180) (pc := 173) hx hb dX6_tells_173 (by decide) (fun c25 => ?_) (fun c25 => ?_)
        · have hf := hf.1 c25
          refine lv_bipush (v := 99) (pc := 180) hx hb dX6_tells_180 rfl ?_
          exact bX6_tells_182 hF E hr hlk hf hI (lv_sub hl [1, 2, 3, 4, 5, 0] rfl)
        · have hf := hf.2 c25
          refine lv_iconst (v := 3) (pc := 176) hx hb dX6_tells_176 rfl ?_
          refine lv_goto (tgt := 182) (pc := 177) hx hb dX6_tells_177 (by decide) ?_
          exact bX6_tells_182 hF E hr hlk hf hI (lv_sub hl [1, 2, 3, 4, 5, 0] rfl)
      · have hf := hf.2 c24
        refine lv_bipush (v := 9) (pc := 165) hx hb dX6_tells_165 rfl ?_
        refine lv_goto (tgt := 182) (pc := 167) hx hb dX6_tells_167 (by decide) ?_
        exact bX6_tells_182 hF E hr hlk hf hI (lv_sub hl [1, 2, 3, 4, 5, 0] rfl)
    · have hf := hf.2 c23
      refine lv_iconst (v := 5) (pc := 155) hx hb dX6_tells_155 rfl ?_
      refine lv_goto (tgt := 182) (pc := 156) hx hb dX6_tells_156 (by decide) ?_
      exact bX6_tells_182 hF E hr hlk hf hI (lv_sub hl [1, 2, 3, 4, 5, 0] rfl)
  · have hf := hf.2 c22
    refine lv_aload_n (pc := 139) hx hb dX6_tells_139 rfl (lv_at hl 1 rfl) ?_
    refine g6_3 (pc := 140) E hI lkX6_70 dX6_tells_140 ?_
    refine lv_iconst (v := 1) (pc := 143) hx hb dX6_tells_143 rfl ?_
    refine lv_isub (pc := 144) hx hb dX6_tells_144 ?_
    refine lv_goto (tgt := 182) (pc := 145) hx hb dX6_tells_145 (by decide) ?_
    exact bX6_tells_182 hF E hr hlk hf hI (lv_sub hl [1, 2, 3, 4, 5, 0] rfl)
def wX6_tells_j107 (a1 : Int32) (a2 : Int32) (a3 : Int32) (s0 : Int32) (σ : St) (Q : Int32 → St → Prop) : Prop := ((¬ s0 = 9 → wX6_told a2 s0 σ (fun r21 σ20 => (wX6_tells_j130 a1 a2 a3 s0 r21 σ20 Q))) ∧ (s0 = 9 → (wX6_tells_j130 a1 a2 a3 s0 (gI σ 16 4) σ Q)))
set_option maxRecDepth 100000 in
set_option maxHeartbeats 4000000 in
theorem bX6_tells_107 {p : Program} {l : Launch} {e : Env} {s : State} {m : MethodId} {args : Array Value} {below : List Frame} {meth : Method} {c : Code} {H : Heap} {locs : List Loc} {ls : Array Slot} {D : va_G} {F : (Nat → Prop) → State → Prop} {A : Nat → Prop} {σ : St} {ad : Nat → Nat → Nat} {cy : Nat → ClassId} {Rr : va_W} {Q : Int32 → St → Prop} {a1 : Int32} {a2 : Int32} {a3 : Int32} {s0 : Int32} (hF : Stab F) (E : CallFix p m c cX6_tells 11 s args TB RX6) (hr : meth.sig.returnType = some .int) (hlk : meth.locks = false) (hf : wX6_tells_j107 a1 a2 a3 s0 σ Q) (hI : In (D, tysM cy, F) (LM ad cy Rr σ) A s H locs) (hl : lv_has ls 11 [(0, .ref (ad 16 99)), (1, .int a1), (2, .int a2), (3, .int a3)]) : W p l e (rmD 47) s m args below meth c H locs 0 0 (PI below args s (D, tysM cy, F) A (LM ad cy Rr) Q) (F0 m 107 ls [.int s0]) := by
  have hx := E.1
  have hb := E.2.1
  unfold wX6_tells_j107 at hf
  refine lv_istore (lv' := [(4, .int s0), (0, .ref (ad 16 99)), (1, .int a1), (2, .int a2), (3, .int a3)]) (pc := 107) hx hb dX6_tells_107 hl (by decide) rfl (fun ls hl => ?_)
  refine lv_iload (pc := 109) hx hb dX6_tells_109 (lv_at hl 0 rfl) ?_
  refine lv_bipush (v := 9) (pc := 111) hx hb dX6_tells_111 rfl ?_
  refine lv_icmp_ne (tgt := 123) (pc := 113) hx hb dX6_tells_113 (by decide) (fun c19 => ?_) (fun c19 => ?_)
  · have hf := hf.1 c19
    refine lv_aload_n (pc := 123) hx hb dX6_tells_123 rfl (lv_at hl 1 rfl) ?_
    refine lv_iload_n (pc := 124) hx hb dX6_tells_124 rfl (lv_at hl 3 rfl) ?_
    refine lv_iload (pc := 125) hx hb dX6_tells_125 (lv_at hl 0 rfl) ?_
    refine callVI (G := (D, tysM cy, F)) (L := LM ad cy Rr) (pc := 127) (As := [.int a2, .int s0]) (rest := []) hF E cs0 hl hI (tX6_told hF hf) mwX6_98 (fitD (by decide)) (at6) rfl rfl rfl rfl (Nat.le_of_ble_eq_true rfl) dX6_tells_127 (fun r21 σ20 H locs hf hI => ?_)
    exact bX6_tells_130 hF E hr hlk hf hI (lv_sub hl [1, 2, 3, 4, 0] rfl)
  · have hf := hf.2 c19
    refine lv_aload_n (pc := 116) hx hb dX6_tells_116 rfl (lv_at hl 1 rfl) ?_
    refine g6_4 (pc := 117) E hI lkX6_115 dX6_tells_117 ?_
    refine lv_goto (tgt := 130) (pc := 120) hx hb dX6_tells_120 (by decide) ?_
    exact bX6_tells_130 hF E hr hlk hf hI (lv_sub hl [1, 2, 3, 4, 0] rfl)
def wX6_tells (p1 : Int32) (p2 : Int32) (p3 : Int32) (σ : St) (Q : Int32 → St → Prop) : Prop := wX6_isSheet p1 σ (fun r2 σ1 => ((r2 = 0 → Q (-2) σ1) ∧ (¬ r2 = 0 → wX6_isOne p2 σ1 (fun r5 σ4 => ((r5 = 0 → Q (-2) σ4) ∧ (¬ r5 = 0 → wX6_in (p3.toInt64) 0 6 σ4 (fun r8 σ7 => ((¬ r8 = 0 → vp_in p1 4 ∧ ((¬ (gA σ7 16 39 p1.toNatClampNeg) = 0 → vp_in p1 4 ∧ (((gA σ7 16 41 p1.toNatClampNeg) ≤ 20 → ((¬ p3 = 0 → ((¬ p3 = 1 → ((¬ p3 = 2 → ((¬ p3 = 3 → ((¬ p3 = 6 → (wX6_tells_j107 p1 p2 p3 6 σ7 Q)) ∧ (p3 = 6 → (wX6_tells_j107 p1 p2 p3 9 σ7 Q)))) ∧ (p3 = 3 → (wX6_tells_j107 p1 p2 p3 5 σ7 Q)))) ∧ (p3 = 2 → (wX6_tells_j107 p1 p2 p3 4 σ7 Q)))) ∧ (p3 = 1 → (wX6_tells_j107 p1 p2 p3 8 σ7 Q)))) ∧ (p3 = 0 → wX6_firstOther p1 σ7 (fun r40 σ39 => Q r40 σ39)))) ∧ (¬ (gA σ7 16 41 p1.toNatClampNeg) ≤ 20 → Q (-2) σ7))) ∧ ((gA σ7 16 39 p1.toNatClampNeg) = 0 → Q (-11) σ7))) ∧ (r8 = 0 → Q (-2) σ7)))))))))
set_option maxRecDepth 100000 in
set_option maxHeartbeats 4000000 in
theorem bX6_tells {p : Program} {l : Launch} {e : Env} {s : State} {m : MethodId} {args : Array Value} {below : List Frame} {meth : Method} {c : Code} {H : Heap} {locs : List Loc} {ls : Array Slot} {D : va_G} {F : (Nat → Prop) → State → Prop} {A : Nat → Prop} {σ : St} {ad : Nat → Nat → Nat} {cy : Nat → ClassId} {Rr : va_W} {Q : Int32 → St → Prop} {p1 : Int32} {p2 : Int32} {p3 : Int32} (hF : Stab F) (E : CallFix p m c cX6_tells 11 s args TB RX6) (hr : meth.sig.returnType = some .int) (hlk : meth.locks = false) (hf : wX6_tells p1 p2 p3 σ Q) (hI : In (D, tysM cy, F) (LM ad cy Rr σ) A s H locs) (hl : lv_has ls 11 [(0, .ref (ad 16 99)), (1, .int p1), (2, .int p2), (3, .int p3)]) : W p l e (rmD 47) s m args below meth c H locs 0 0 (PI below args s (D, tysM cy, F) A (LM ad cy Rr) Q) (F0 m 0 ls []) := by
  have hx := E.1
  have hb := E.2.1
  unfold wX6_tells at hf
  refine lv_iload_n (pc := 0) hx hb dX6_tells_0 rfl (lv_at hl 1 rfl) ?_
  refine callSI (G := (D, tysM cy, F)) (L := LM ad cy Rr) (pc := 1) (As := [.int p1]) (rest := []) hF E cs0 hl hI (tX6_isSheet hF hf) mwX6_408 (fitD (by decide)) rfl rfl (Nat.le_of_ble_eq_true rfl) dX6_tells_1 (fun r2 σ1 H locs hf hI => ?_)
  refine lv_if_eq (tgt := 27) (pc := 4) hx hb dX6_tells_4 (by decide) (fun c3 => ?_) (fun c3 => ?_)
  · have hf := hf.1 c3
    refine lv_bipush (v := (-2)) (pc := 27) hx hb dX6_tells_27 rfl ?_
    exact rI (pc := 29) E hr hlk hI hf dX6_tells_29
  · have hf := hf.2 c3
    refine lv_aload_n (pc := 7) hx hb dX6_tells_7 rfl (lv_at hl 0 rfl) ?_
    refine lv_iload_n (pc := 8) hx hb dX6_tells_8 rfl (lv_at hl 2 rfl) ?_
    refine callVI (G := (D, tysM cy, F)) (L := LM ad cy Rr) (pc := 9) (As := [.int p2]) (rest := []) hF E cs0 hl hI (tX6_isOne hF hf) mwX6_84 (fitD (by decide)) (at6) rfl rfl rfl rfl (Nat.le_of_ble_eq_true rfl) dX6_tells_9 (fun r5 σ4 H locs hf hI => ?_)
    refine lv_if_eq (tgt := 27) (pc := 12) hx hb dX6_tells_12 (by decide) (fun c6 => ?_) (fun c6 => ?_)
    · have hf := hf.1 c6
      refine lv_bipush (v := (-2)) (pc := 27) hx hb dX6_tells_27 rfl ?_
      exact rI (pc := 29) E hr hlk hI hf dX6_tells_29
    · have hf := hf.2 c6
      refine lv_iload_n (pc := 15) hx hb dX6_tells_15 rfl (lv_at hl 3 rfl) ?_
      refine lv_i2l (v := (p3.toInt64)) (pc := 16) hx hb dX6_tells_16 rfl ?_
      refine lv_lconst (v := 0) (pc := 17) hx hb dX6_tells_17 rfl ?_
      refine lv_ldc2 (pc := 18) E.1 E.2.1 E.2.2.2.1 (E.2.2.2.2 _ kcX6_411) dX6_tells_18 ?_
      refine callSI (G := (D, tysM cy, F)) (L := LM ad cy Rr) (pc := 21) (As := [.long (p3.toInt64), .long 0, .long 6]) (rest := []) hF E cs0 hl hI (tX6_in hF hf) mwX6_76 (fitD (by decide)) rfl rfl (Nat.le_of_ble_eq_true rfl) dX6_tells_21 (fun r8 σ7 H locs hf hI => ?_)
      refine lv_if_ne (tgt := 30) (pc := 24) hx hb dX6_tells_24 (by decide) (fun c9 => ?_) (fun c9 => ?_)
      · have hf := hf.1 c9
        refine lv_aload_n (pc := 30) hx hb dX6_tells_30 rfl (lv_at hl 0 rfl) ?_
        refine g6_39 (pc := 31) E hI lkX6_53 dX6_tells_31 ?_
        refine lv_iload_n (pc := 34) hx hb dX6_tells_34 rfl (lv_at hl 1 rfl) ?_
        have g10 := hf.1
        have hf := hf.2
        refine a6_39 (pc := 35) E hI g10 dX6_tells_35 ?_
        refine lv_if_ne (tgt := 42) (pc := 36) hx hb dX6_tells_36 (by decide) (fun c11 => ?_) (fun c11 => ?_)
        · have hf := hf.1 c11
          refine lv_aload_n (pc := 42) hx hb dX6_tells_42 rfl (lv_at hl 0 rfl) ?_
          refine g6_41 (pc := 43) E hI lkX6_60 dX6_tells_43 ?_
          refine lv_iload_n (pc := 46) hx hb dX6_tells_46 rfl (lv_at hl 1 rfl) ?_
          have g12 := hf.1
          have hf := hf.2
          refine a6_41 (pc := 47) E hI g12 dX6_tells_47 ?_
          refine lv_bipush (v := 20) (pc := 48) hx hb dX6_tells_48 rfl ?_
          refine lv_icmp_le (tgt := 56) (pc := 50) hx hb dX6_tells_50 (by decide) (fun c13 => ?_) (fun c13 => ?_)
          · have hf := hf.1 c13
            refine lv_iload_n (pc := 56) hx hb dX6_tells_56 rfl (lv_at hl 3 rfl) ?_
            refine lv_if_ne (tgt := 66) (pc := 57) hx hb dX6_tells_57 (by decide) (fun c14 => ?_) (fun c14 => ?_)
            · have hf := hf.1 c14
              refine lv_iload_n (pc := 66) hx hb dX6_tells_66 rfl (lv_at hl 3 rfl) ?_
              refine lv_iconst (v := 1) (pc := 67) hx hb dX6_tells_67 rfl ?_
              refine lv_icmp_ne (tgt := 76) (pc := 68) hx hb dX6_tells_68 (by decide) (fun c15 => ?_) (fun c15 => ?_)
              · have hf := hf.1 c15
                refine lv_iload_n (pc := 76) hx hb dX6_tells_76 rfl (lv_at hl 3 rfl) ?_
                refine lv_iconst (v := 2) (pc := 77) hx hb dX6_tells_77 rfl ?_
                refine lv_icmp_ne (tgt := 85) (pc := 78) hx hb dX6_tells_78 (by decide) (fun c16 => ?_) (fun c16 => ?_)
                · have hf := hf.1 c16
                  refine lv_iload_n (pc := 85) hx hb dX6_tells_85 rfl (lv_at hl 3 rfl) ?_
                  refine lv_iconst (v := 3) (pc := 86) hx hb dX6_tells_86 rfl ?_
                  refine lv_icmp_ne (tgt := 94) (pc := 87) hx hb dX6_tells_87 (by decide) (fun c17 => ?_) (fun c17 => ?_)
                  · have hf := hf.1 c17
                    refine lv_iload_n (pc := 94) hx hb dX6_tells_94 rfl (lv_at hl 3 rfl) ?_
                    refine lv_bipush (v := 6) (pc := 95) hx hb dX6_tells_95 rfl ?_
                    refine lv_icmp_ne (tgt := 105) (pc := 97) hx hb dX6_tells_97 (by decide) (fun c18 => ?_) (fun c18 => ?_)
                    · have hf := hf.1 c18
                      refine lv_bipush (v := 6) (pc := 105) hx hb dX6_tells_105 rfl ?_
                      exact bX6_tells_107 hF E hr hlk hf hI (lv_sub hl [0, 1, 2, 3] rfl)
                    · have hf := hf.2 c18
                      refine lv_bipush (v := 9) (pc := 100) hx hb dX6_tells_100 rfl ?_
                      refine lv_goto (tgt := 107) (pc := 102) hx hb dX6_tells_102 (by decide) ?_
                      exact bX6_tells_107 hF E hr hlk hf hI (lv_sub hl [0, 1, 2, 3] rfl)
                  · have hf := hf.2 c17
                    refine lv_iconst (v := 5) (pc := 90) hx hb dX6_tells_90 rfl ?_
                    refine lv_goto (tgt := 107) (pc := 91) hx hb dX6_tells_91 (by decide) ?_
                    exact bX6_tells_107 hF E hr hlk hf hI (lv_sub hl [0, 1, 2, 3] rfl)
                · have hf := hf.2 c16
                  refine lv_iconst (v := 4) (pc := 81) hx hb dX6_tells_81 rfl ?_
                  refine lv_goto (tgt := 107) (pc := 82) hx hb dX6_tells_82 (by decide) ?_
                  exact bX6_tells_107 hF E hr hlk hf hI (lv_sub hl [0, 1, 2, 3] rfl)
              · have hf := hf.2 c15
                refine lv_bipush (v := 8) (pc := 71) hx hb dX6_tells_71 rfl ?_
                refine lv_goto (tgt := 107) (pc := 73) hx hb dX6_tells_73 (by decide) ?_
                exact bX6_tells_107 hF E hr hlk hf hI (lv_sub hl [0, 1, 2, 3] rfl)
            · have hf := hf.2 c14
              refine lv_aload_n (pc := 60) hx hb dX6_tells_60 rfl (lv_at hl 0 rfl) ?_
              refine lv_iload_n (pc := 61) hx hb dX6_tells_61 rfl (lv_at hl 1 rfl) ?_
              refine callVI (G := (D, tysM cy, F)) (L := LM ad cy Rr) (pc := 62) (As := [.int p1]) (rest := []) hF E cs0 hl hI (tX6_firstOther hF hf) mwX6_413 (fitD (by decide)) (at6) rfl rfl rfl rfl (Nat.le_of_ble_eq_true rfl) dX6_tells_62 (fun r40 σ39 H locs hf hI => ?_)
              exact rI (pc := 65) E hr hlk hI hf dX6_tells_65
          · have hf := hf.2 c13
            refine lv_bipush (v := (-2)) (pc := 53) hx hb dX6_tells_53 rfl ?_
            exact rI (pc := 55) E hr hlk hI hf dX6_tells_55
        · have hf := hf.2 c11
          refine lv_bipush (v := (-11)) (pc := 39) hx hb dX6_tells_39 rfl ?_
          exact rI (pc := 41) E hr hlk hI hf dX6_tells_41
      · have hf := hf.2 c9
        refine lv_bipush (v := (-2)) (pc := 27) hx hb dX6_tells_27 rfl ?_
        exact rI (pc := 29) E hr hlk hI hf dX6_tells_29
theorem tX6_tells {l : Launch} {D : va_G} {F : (Nat → Prop) → State → Prop} {σ : St} {ad : Nat → Nat → Nat} {cy : Nat → ClassId} {Rr : va_W} {Q : Int32 → St → Prop} {p1 : Int32} {p2 : Int32} {p3 : Int32} (hF : Stab F) (hf : wX6_tells p1 p2 p3 σ Q) : CtI l yX6_tells cX6_tells 11 .int 47 (D, tysM cy, F) (LM ad cy Rr) [.ref (ad 16 99), .int p1, .int p2, .int p3] σ Q := mkI (by decide) (Nat.le_of_ble_eq_true rfl) (fun p e s m below meth c A E hr hlk hI ls hl => bX6_tells hF E hr hlk hf hI hl)

def wX6_later (p1 : Int32) (σ : St) (Q : Int64 → St → Prop) : Prop := wX6_in (p1.toInt64) 0 40 σ (fun r2 σ1 => ((r2 = 0 → Q (-4611686018427387904) σ1) ∧ (¬ r2 = 0 → wX6_filledBehind p1 σ1 (fun r5 σ4 => Q r5 σ4))))
set_option maxRecDepth 100000 in
set_option maxHeartbeats 4000000 in
theorem bX6_later {p : Program} {l : Launch} {e : Env} {s : State} {m : MethodId} {args : Array Value} {below : List Frame} {meth : Method} {c : Code} {H : Heap} {locs : List Loc} {ls : Array Slot} {D : va_G} {F : (Nat → Prop) → State → Prop} {A : Nat → Prop} {σ : St} {ad : Nat → Nat → Nat} {cy : Nat → ClassId} {Rr : va_W} {Q : Int64 → St → Prop} {p1 : Int32} (hF : Stab F) (E : CallFix p m c cX6_later 2 s args TB RX6) (hr : meth.sig.returnType = some .long) (hlk : meth.locks = false) (hf : wX6_later p1 σ Q) (hI : In (D, tysM cy, F) (LM ad cy Rr σ) A s H locs) (hl : lv_has ls 2 [(0, .ref (ad 16 99)), (1, .int p1)]) : W p l e (rmD 48) s m args below meth c H locs 0 0 (PJ below args s (D, tysM cy, F) A (LM ad cy Rr) Q) (F0 m 0 ls []) := by
  have hx := E.1
  have hb := E.2.1
  unfold wX6_later at hf
  refine lv_iload_n (pc := 0) hx hb dX6_later_0 rfl (lv_at hl 1 rfl) ?_
  refine lv_i2l (v := (p1.toInt64)) (pc := 1) hx hb dX6_later_1 rfl ?_
  refine lv_lconst (v := 0) (pc := 2) hx hb dX6_later_2 rfl ?_
  refine lv_ldc2 (pc := 3) E.1 E.2.1 E.2.2.2.1 (E.2.2.2.2 _ kcX6_394) dX6_later_3 ?_
  refine callSI (G := (D, tysM cy, F)) (L := LM ad cy Rr) (pc := 6) (As := [.long (p1.toInt64), .long 0, .long 40]) (rest := []) hF E cs0 hl hI (tX6_in hF hf) mwX6_76 (fitD (by decide)) rfl rfl (Nat.le_of_ble_eq_true rfl) dX6_later_6 (fun r2 σ1 H locs hf hI => ?_)
  refine lv_if_eq (tgt := 20) (pc := 9) hx hb dX6_later_9 (by decide) (fun c3 => ?_) (fun c3 => ?_)
  · have hf := hf.1 c3
    refine lv_ldc2 (pc := 20) E.1 E.2.1 E.2.2.2.1 (E.2.2.2.2 _ kcX6_139) dX6_later_20 ?_
    exact rJ (pc := 23) E hr hlk hI hf dX6_later_23
  · have hf := hf.2 c3
    refine lv_aload_n (pc := 12) hx hb dX6_later_12 rfl (lv_at hl 0 rfl) ?_
    refine lv_iload_n (pc := 13) hx hb dX6_later_13 rfl (lv_at hl 1 rfl) ?_
    refine callVJ (G := (D, tysM cy, F)) (L := LM ad cy Rr) (pc := 14) (As := [.int p1]) (rest := []) hF E cs0 hl hI (tX6_filledBehind hF hf) mwX6_396 (fitD (by decide)) (at6) rfl rfl rfl rfl (Nat.le_of_ble_eq_true rfl) dX6_later_14 (fun r5 σ4 H locs hf hI => ?_)
    refine lv_goto (tgt := 23) (pc := 17) hx hb dX6_later_17 (by decide) ?_
    exact rJ (pc := 23) E hr hlk hI hf dX6_later_23
theorem tX6_later {l : Launch} {D : va_G} {F : (Nat → Prop) → State → Prop} {σ : St} {ad : Nat → Nat → Nat} {cy : Nat → ClassId} {Rr : va_W} {Q : Int64 → St → Prop} {p1 : Int32} (hF : Stab F) (hf : wX6_later p1 σ Q) : CtJ l yX6_later cX6_later 2 48 (D, tysM cy, F) (LM ad cy Rr) [.ref (ad 16 99), .int p1] σ Q := mkJ (by decide) (Nat.le_of_ble_eq_true rfl) (fun p e s m below meth c A E hr hlk hI ls hl => bX6_later hF E hr hlk hf hI hl)

def wX6_atWhat_j97 (a1 : Int32) (a2 : Int32) (a3 : Int32) (a4 : Int32) (a5 : Int32) (a6 : Int32) (a7 : Int32) (σ : St) (K : Int32 → Int32 → Int32 → Int32 → Int32 → Int32 → Int32 → St → Prop) (Q : Int32 → St → Prop) : Prop := ∀ x23 : Int32, x23 = a7 + 1 → (K a1 a2 a3 a4 a5 a6 x23 σ)
set_option maxRecDepth 100000 in
set_option maxHeartbeats 4000000 in
theorem bX6_atWhat_97 {p : Program} {l : Launch} {e : Env} {s : State} {m : MethodId} {args : Array Value} {below : List Frame} {meth : Method} {c : Code} {H : Heap} {locs : List Loc} {ls : Array Slot} {D : va_G} {F : (Nat → Prop) → State → Prop} {A : Nat → Prop} {σ : St} {ad : Nat → Nat → Nat} {cy : Nat → ClassId} {Rr : va_W} {Q : Int32 → St → Prop} {a1 : Int32} {a2 : Int32} {a3 : Int32} {a4 : Int32} {a5 : Int32} {a6 : Int32} {a7 : Int32} {K : Int32 → Int32 → Int32 → Int32 → Int32 → Int32 → Int32 → St → Prop} (hF : Stab F) (E : CallFix p m c cX6_atWhat 9 s args TB RX6) (hr : meth.sig.returnType = some .int) (hlk : meth.locks = false) (hK : ∀ (a1 : Int32) (a2 : Int32) (a3 : Int32) (a4 : Int32) (a5 : Int32) (a6 : Int32) (a7 : Int32) (σ : St) (H : Heap) (locs : List Loc) (ls : Array Slot), K a1 a2 a3 a4 a5 a6 a7 σ → In (D, tysM cy, F) (LM ad cy Rr σ) A s H locs → lv_has ls 9 [(0, .ref (ad 16 99)), (1, .int a1), (2, .int a2), (3, .int a3), (4, .int a4), (5, .int a5), (6, .int a6), (7, .int a7)] → W p l e (rmD 48) s m args below meth c H locs 0 0 (PI below args s (D, tysM cy, F) A (LM ad cy Rr) Q) (F0 m 54 ls [])) (hf : wX6_atWhat_j97 a1 a2 a3 a4 a5 a6 a7 σ K Q) (hI : In (D, tysM cy, F) (LM ad cy Rr σ) A s H locs) (hl : lv_has ls 9 [(0, .ref (ad 16 99)), (1, .int a1), (2, .int a2), (3, .int a3), (4, .int a4), (5, .int a5), (6, .int a6), (7, .int a7)]) : W p l e (rmD 48) s m args below meth c H locs 0 0 (PI below args s (D, tysM cy, F) A (LM ad cy Rr) Q) (F0 m 97 ls []) := by
  have hx := E.1
  have hb := E.2.1
  unfold wX6_atWhat_j97 at hf
  obtain ⟨x23, ex23⟩ : ∃ y : Int32, y = a7 + 1 := ⟨_, rfl⟩
  have hf := hf x23 ex23
  refine lv_iinc (v := x23) (lv' := [(7, .int x23), (0, .ref (ad 16 99)), (1, .int a1), (2, .int a2), (3, .int a3), (4, .int a4), (5, .int a5), (6, .int a6)]) (pc := 97) hx hb dX6_atWhat_97 hl (k := 7) rfl (by rw [ex23]; rfl) (by decide) rfl (fun ls hl => ?_)
  refine lv_goto (tgt := 54) (pc := 100) hx hb dX6_atWhat_100 (by decide) ?_
  exact hK _ _ _ _ _ _ _ _ _ _ _ hf hI (lv_sub hl [1, 2, 3, 4, 5, 6, 7, 0] rfl)
def wX6_atWhat_l54s (ih : Int32 → Int32 → Int32 → Int32 → Int32 → Int32 → Int32 → St → Prop) (a1 : Int32) (a2 : Int32) (a3 : Int32) (a4 : Int32) (a5 : Int32) (a6 : Int32) (a7 : Int32) (σ : St) (Q : Int32 → St → Prop) : Prop := ((4 ≤ a7 → vp_in ((5 * a1) + 1) 25 ∧ ∀ σ14 : St, σ14 = sA σ 16 11 ((5 * a1) + 1).toNatClampNeg a4 → ((¬ a3 = 0 → Q a6 σ14) ∧ (a3 = 0 → Q a5 σ14))) ∧ (¬ 4 ≤ a7 → vp_in ((5 * a1) + 1) 25 ∧ ∀ σ17 : St, σ17 = sA σ 16 11 ((5 * a1) + 1).toNatClampNeg a7 → wX6_filledBehind a2 σ17 (fun r19 σ18 => wX6_bitsOf r19 σ18 (fun r21 σ20 => ((r21 ≤ a6 → (wX6_atWhat_j97 a1 a2 a3 a4 a5 a6 a7 σ20 ih Q)) ∧ (¬ r21 ≤ a6 → (wX6_atWhat_j97 a1 a2 a3 a4 a7 r21 a7 σ20 ih Q)))))))
def wX6_atWhat_l54 (n : Nat) : Int32 → Int32 → Int32 → Int32 → Int32 → Int32 → Int32 → St → (Int32 → St → Prop) → Prop := @Nat.rec (fun _ => Int32 → Int32 → Int32 → Int32 → Int32 → Int32 → Int32 → St → (Int32 → St → Prop) → Prop) (fun _ _ _ _ _ _ _ _ _ => False) (fun _ ih a1 a2 a3 a4 a5 a6 a7 σ Q => wX6_atWhat_l54s (fun a1 a2 a3 a4 a5 a6 a7 σ => ih a1 a2 a3 a4 a5 a6 a7 σ Q) a1 a2 a3 a4 a5 a6 a7 σ Q) n
set_option maxRecDepth 100000 in
set_option maxHeartbeats 4000000 in
theorem bX6_atWhat_54 {p : Program} {l : Launch} {e : Env} {s : State} {m : MethodId} {args : Array Value} {below : List Frame} {meth : Method} {c : Code} {D : va_G} {F : (Nat → Prop) → State → Prop} {A : Nat → Prop} {ad : Nat → Nat → Nat} {cy : Nat → ClassId} {Rr : va_W} {Q : Int32 → St → Prop} (hF : Stab F) (E : CallFix p m c cX6_atWhat 9 s args TB RX6) (hr : meth.sig.returnType = some .int) (hlk : meth.locks = false) : ∀ (n : Nat) {a1 : Int32} {a2 : Int32} {a3 : Int32} {a4 : Int32} {a5 : Int32} {a6 : Int32} {a7 : Int32} {σ : St} {H : Heap} {locs : List Loc} {ls : Array Slot}, wX6_atWhat_l54 n a1 a2 a3 a4 a5 a6 a7 σ Q → In (D, tysM cy, F) (LM ad cy Rr σ) A s H locs → lv_has ls 9 [(0, .ref (ad 16 99)), (1, .int a1), (2, .int a2), (3, .int a3), (4, .int a4), (5, .int a5), (6, .int a6), (7, .int a7)] → W p l e (rmD 48) s m args below meth c H locs 0 0 (PI below args s (D, tysM cy, F) A (LM ad cy Rr) Q) (F0 m 54 ls []) := by
  have hx := E.1
  have hb := E.2.1
  intro n
  induction n with
  | zero => intro a1 a2 a3 a4 a5 a6 a7 σ H locs ls hf hI hl; exact False.elim hf
  | succ n ih =>
    intro a1 a2 a3 a4 a5 a6 a7 σ H locs ls hf hI hl
    have hf : wX6_atWhat_l54s (fun a1 a2 a3 a4 a5 a6 a7 σ => wX6_atWhat_l54 n a1 a2 a3 a4 a5 a6 a7 σ Q) a1 a2 a3 a4 a5 a6 a7 σ Q := hf
    unfold wX6_atWhat_l54s at hf
    refine lv_iload (pc := 54) hx hb dX6_atWhat_54 (lv_at hl 7 rfl) ?_
    refine lv_iconst (v := 4) (pc := 56) hx hb dX6_atWhat_56 rfl ?_
    refine lv_icmp_ge (tgt := 103) (pc := 57) hx hb dX6_atWhat_57 (by decide) (fun c12 => ?_) (fun c12 => ?_)
    · have hf := hf.1 c12
      refine lv_aload_n (pc := 103) hx hb dX6_atWhat_103 rfl (lv_at hl 0 rfl) ?_
      refine g6_11 (pc := 104) E hI lkX6_29 dX6_atWhat_104 ?_
      refine lv_iconst (v := 5) (pc := 107) hx hb dX6_atWhat_107 rfl ?_
      refine lv_iload_n (pc := 108) hx hb dX6_atWhat_108 rfl (lv_at hl 1 rfl) ?_
      refine lv_imul (pc := 109) hx hb dX6_atWhat_109 ?_
      refine lv_iconst (v := 1) (pc := 110) hx hb dX6_atWhat_110 rfl ?_
      refine lv_iadd (pc := 111) hx hb dX6_atWhat_111 ?_
      refine lv_iload (pc := 112) hx hb dX6_atWhat_112 (lv_at hl 4 rfl) ?_
      have g13 := hf.1
      have hf := hf.2
      refine s6_11 (pc := 114) E hI g13 dX6_atWhat_114 (fun H locs σ14 eσ14 hI => ?_)
      have hf := hf σ14 eσ14
      refine lv_iload_n (pc := 115) hx hb dX6_atWhat_115 rfl (lv_at hl 3 rfl) ?_
      refine lv_if_ne (tgt := 124) (pc := 116) hx hb dX6_atWhat_116 (by decide) (fun c15 => ?_) (fun c15 => ?_)
      · have hf := hf.1 c15
        refine lv_iload (pc := 124) hx hb dX6_atWhat_124 (lv_at hl 6 rfl) ?_
        exact rI (pc := 126) E hr hlk hI hf dX6_atWhat_126
      · have hf := hf.2 c15
        refine lv_iload (pc := 119) hx hb dX6_atWhat_119 (lv_at hl 5 rfl) ?_
        refine lv_goto (tgt := 126) (pc := 121) hx hb dX6_atWhat_121 (by decide) ?_
        exact rI (pc := 126) E hr hlk hI hf dX6_atWhat_126
    · have hf := hf.2 c12
      refine lv_aload_n (pc := 60) hx hb dX6_atWhat_60 rfl (lv_at hl 0 rfl) ?_
      refine g6_11 (pc := 61) E hI lkX6_29 dX6_atWhat_61 ?_
      refine lv_iconst (v := 5) (pc := 64) hx hb dX6_atWhat_64 rfl ?_
      refine lv_iload_n (pc := 65) hx hb dX6_atWhat_65 rfl (lv_at hl 1 rfl) ?_
      refine lv_imul (pc := 66) hx hb dX6_atWhat_66 ?_
      refine lv_iconst (v := 1) (pc := 67) hx hb dX6_atWhat_67 rfl ?_
      refine lv_iadd (pc := 68) hx hb dX6_atWhat_68 ?_
      refine lv_iload (pc := 69) hx hb dX6_atWhat_69 (lv_at hl 7 rfl) ?_
      have g16 := hf.1
      have hf := hf.2
      refine s6_11 (pc := 71) E hI g16 dX6_atWhat_71 (fun H locs σ17 eσ17 hI => ?_)
      have hf := hf σ17 eσ17
      refine lv_aload_n (pc := 72) hx hb dX6_atWhat_72 rfl (lv_at hl 0 rfl) ?_
      refine lv_iload_n (pc := 73) hx hb dX6_atWhat_73 rfl (lv_at hl 2 rfl) ?_
      refine callVJ (G := (D, tysM cy, F)) (L := LM ad cy Rr) (pc := 74) (As := [.int a2]) (rest := []) hF E cs0 hl hI (tX6_filledBehind hF hf) mwX6_396 (fitD (by decide)) (at6) rfl rfl rfl rfl (Nat.le_of_ble_eq_true rfl) dX6_atWhat_74 (fun r19 σ18 H locs hf hI => ?_)
      refine callSI (G := (D, tysM cy, F)) (L := LM ad cy Rr) (pc := 77) (As := [.long r19]) (rest := []) hF E cs0 hl hI (tX6_bitsOf hF hf) mwX6_352 (fitD (by decide)) rfl rfl (Nat.le_of_ble_eq_true rfl) dX6_atWhat_77 (fun r21 σ20 H locs hf hI => ?_)
      refine lv_istore (lv' := [(8, .int r21), (0, .ref (ad 16 99)), (1, .int a1), (2, .int a2), (3, .int a3), (4, .int a4), (5, .int a5), (6, .int a6), (7, .int a7)]) (pc := 80) hx hb dX6_atWhat_80 hl (by decide) rfl (fun ls hl => ?_)
      refine lv_iload (pc := 82) hx hb dX6_atWhat_82 (lv_at hl 0 rfl) ?_
      refine lv_iload (pc := 84) hx hb dX6_atWhat_84 (lv_at hl 7 rfl) ?_
      refine lv_icmp_le (tgt := 97) (pc := 86) hx hb dX6_atWhat_86 (by decide) (fun c22 => ?_) (fun c22 => ?_)
      · have hf := hf.1 c22
        exact bX6_atWhat_97 hF E hr hlk (fun _ _ _ _ _ _ _ _ _ _ _ hf hI hl => ih hf hI hl) hf hI (lv_sub hl [1, 2, 3, 4, 5, 6, 7, 8] rfl)
      · have hf := hf.2 c22
        refine lv_iload (pc := 89) hx hb dX6_atWhat_89 (lv_at hl 8 rfl) ?_
        refine lv_istore (lv' := [(5, .int a7), (8, .int r21), (0, .ref (ad 16 99)), (1, .int a1), (2, .int a2), (3, .int a3), (4, .int a4), (6, .int a6), (7, .int a7)]) (pc := 91) hx hb dX6_atWhat_91 hl (by decide) rfl (fun ls hl => ?_)
        refine lv_iload (pc := 93) hx hb dX6_atWhat_93 (lv_at hl 1 rfl) ?_
        refine lv_istore (lv' := [(6, .int r21), (5, .int a7), (8, .int r21), (0, .ref (ad 16 99)), (1, .int a1), (2, .int a2), (3, .int a3), (4, .int a4), (7, .int a7)]) (pc := 95) hx hb dX6_atWhat_95 hl (by decide) rfl (fun ls hl => ?_)
        exact bX6_atWhat_97 hF E hr hlk (fun _ _ _ _ _ _ _ _ _ _ _ hf hI hl => ih hf hI hl) hf hI (lv_sub hl [3, 4, 5, 6, 7, 1, 0, 8] rfl)
def wX6_atWhat (p1 : Int32) (p2 : Int32) (p3 : Int32) (σ : St) (Q : Int32 → St → Prop) : Prop := wX6_isOne p1 σ (fun r2 σ1 => ((r2 = 0 → Q (-2) σ1) ∧ (¬ r2 = 0 → wX6_in (p2.toInt64) 0 40 σ1 (fun r5 σ4 => ((r5 = 0 → Q (-2) σ4) ∧ (¬ r5 = 0 → wX6_in (p3.toInt64) 0 1 σ4 (fun r8 σ7 => ((¬ r8 = 0 → vp_in ((5 * p1) + 1) 25 ∧ ∀ x11 : Int32, x11 = (gA σ7 16 11 ((5 * p1) + 1).toNatClampNeg) → ∃ n24 : Nat, wX6_atWhat_l54 n24 p1 p2 p3 x11 0 (-1) 0 σ7 Q) ∧ (r8 = 0 → Q (-2) σ7)))))))))
set_option maxRecDepth 100000 in
set_option maxHeartbeats 4000000 in
theorem bX6_atWhat {p : Program} {l : Launch} {e : Env} {s : State} {m : MethodId} {args : Array Value} {below : List Frame} {meth : Method} {c : Code} {H : Heap} {locs : List Loc} {ls : Array Slot} {D : va_G} {F : (Nat → Prop) → State → Prop} {A : Nat → Prop} {σ : St} {ad : Nat → Nat → Nat} {cy : Nat → ClassId} {Rr : va_W} {Q : Int32 → St → Prop} {p1 : Int32} {p2 : Int32} {p3 : Int32} (hF : Stab F) (E : CallFix p m c cX6_atWhat 9 s args TB RX6) (hr : meth.sig.returnType = some .int) (hlk : meth.locks = false) (hf : wX6_atWhat p1 p2 p3 σ Q) (hI : In (D, tysM cy, F) (LM ad cy Rr σ) A s H locs) (hl : lv_has ls 9 [(0, .ref (ad 16 99)), (1, .int p1), (2, .int p2), (3, .int p3)]) : W p l e (rmD 48) s m args below meth c H locs 0 0 (PI below args s (D, tysM cy, F) A (LM ad cy Rr) Q) (F0 m 0 ls []) := by
  have hx := E.1
  have hb := E.2.1
  unfold wX6_atWhat at hf
  refine lv_aload_n (pc := 0) hx hb dX6_atWhat_0 rfl (lv_at hl 0 rfl) ?_
  refine lv_iload_n (pc := 1) hx hb dX6_atWhat_1 rfl (lv_at hl 1 rfl) ?_
  refine callVI (G := (D, tysM cy, F)) (L := LM ad cy Rr) (pc := 2) (As := [.int p1]) (rest := []) hF E cs0 hl hI (tX6_isOne hF hf) mwX6_84 (fitD (by decide)) (at6) rfl rfl rfl rfl (Nat.le_of_ble_eq_true rfl) dX6_atWhat_2 (fun r2 σ1 H locs hf hI => ?_)
  refine lv_if_eq (tgt := 30) (pc := 5) hx hb dX6_atWhat_5 (by decide) (fun c3 => ?_) (fun c3 => ?_)
  · have hf := hf.1 c3
    refine lv_bipush (v := (-2)) (pc := 30) hx hb dX6_atWhat_30 rfl ?_
    exact rI (pc := 32) E hr hlk hI hf dX6_atWhat_32
  · have hf := hf.2 c3
    refine lv_iload_n (pc := 8) hx hb dX6_atWhat_8 rfl (lv_at hl 2 rfl) ?_
    refine lv_i2l (v := (p2.toInt64)) (pc := 9) hx hb dX6_atWhat_9 rfl ?_
    refine lv_lconst (v := 0) (pc := 10) hx hb dX6_atWhat_10 rfl ?_
    refine lv_ldc2 (pc := 11) E.1 E.2.1 E.2.2.2.1 (E.2.2.2.2 _ kcX6_394) dX6_atWhat_11 ?_
    refine callSI (G := (D, tysM cy, F)) (L := LM ad cy Rr) (pc := 14) (As := [.long (p2.toInt64), .long 0, .long 40]) (rest := []) hF E cs0 hl hI (tX6_in hF hf) mwX6_76 (fitD (by decide)) rfl rfl (Nat.le_of_ble_eq_true rfl) dX6_atWhat_14 (fun r5 σ4 H locs hf hI => ?_)
    refine lv_if_eq (tgt := 30) (pc := 17) hx hb dX6_atWhat_17 (by decide) (fun c6 => ?_) (fun c6 => ?_)
    · have hf := hf.1 c6
      refine lv_bipush (v := (-2)) (pc := 30) hx hb dX6_atWhat_30 rfl ?_
      exact rI (pc := 32) E hr hlk hI hf dX6_atWhat_32
    · have hf := hf.2 c6
      refine lv_iload_n (pc := 20) hx hb dX6_atWhat_20 rfl (lv_at hl 3 rfl) ?_
      refine lv_i2l (v := (p3.toInt64)) (pc := 21) hx hb dX6_atWhat_21 rfl ?_
      refine lv_lconst (v := 0) (pc := 22) hx hb dX6_atWhat_22 rfl ?_
      refine lv_lconst (v := 1) (pc := 23) hx hb dX6_atWhat_23 rfl ?_
      refine callSI (G := (D, tysM cy, F)) (L := LM ad cy Rr) (pc := 24) (As := [.long (p3.toInt64), .long 0, .long 1]) (rest := []) hF E cs0 hl hI (tX6_in hF hf) mwX6_76 (fitD (by decide)) rfl rfl (Nat.le_of_ble_eq_true rfl) dX6_atWhat_24 (fun r8 σ7 H locs hf hI => ?_)
      refine lv_if_ne (tgt := 33) (pc := 27) hx hb dX6_atWhat_27 (by decide) (fun c9 => ?_) (fun c9 => ?_)
      · have hf := hf.1 c9
        refine lv_aload_n (pc := 33) hx hb dX6_atWhat_33 rfl (lv_at hl 0 rfl) ?_
        refine g6_11 (pc := 34) E hI lkX6_29 dX6_atWhat_34 ?_
        refine lv_iconst (v := 5) (pc := 37) hx hb dX6_atWhat_37 rfl ?_
        refine lv_iload_n (pc := 38) hx hb dX6_atWhat_38 rfl (lv_at hl 1 rfl) ?_
        refine lv_imul (pc := 39) hx hb dX6_atWhat_39 ?_
        refine lv_iconst (v := 1) (pc := 40) hx hb dX6_atWhat_40 rfl ?_
        refine lv_iadd (pc := 41) hx hb dX6_atWhat_41 ?_
        have g10 := hf.1
        have hf := hf.2
        refine a6_11 (pc := 42) E hI g10 dX6_atWhat_42 ?_
        refine lv_topi (fun x11 ex11 => ?_)
        have hf := hf x11 ex11
        refine lv_istore (lv' := [(4, .int x11), (0, .ref (ad 16 99)), (1, .int p1), (2, .int p2), (3, .int p3)]) (pc := 43) hx hb dX6_atWhat_43 hl (by decide) rfl (fun ls hl => ?_)
        refine lv_iconst (v := 0) (pc := 45) hx hb dX6_atWhat_45 rfl ?_
        refine lv_istore (lv' := [(5, .int 0), (4, .int x11), (0, .ref (ad 16 99)), (1, .int p1), (2, .int p2), (3, .int p3)]) (pc := 46) hx hb dX6_atWhat_46 hl (by decide) rfl (fun ls hl => ?_)
        refine lv_iconst (v := (-1)) (pc := 48) hx hb dX6_atWhat_48 rfl ?_
        refine lv_istore (lv' := [(6, .int (-1)), (5, .int 0), (4, .int x11), (0, .ref (ad 16 99)), (1, .int p1), (2, .int p2), (3, .int p3)]) (pc := 49) hx hb dX6_atWhat_49 hl (by decide) rfl (fun ls hl => ?_)
        refine lv_iconst (v := 0) (pc := 51) hx hb dX6_atWhat_51 rfl ?_
        refine lv_istore (lv' := [(7, .int 0), (6, .int (-1)), (5, .int 0), (4, .int x11), (0, .ref (ad 16 99)), (1, .int p1), (2, .int p2), (3, .int p3)]) (pc := 52) hx hb dX6_atWhat_52 hl (by decide) rfl (fun ls hl => ?_)
        obtain ⟨n24, hf⟩ := hf
        exact bX6_atWhat_54 hF E hr hlk n24 hf hI (lv_sub hl [4, 5, 6, 7, 3, 2, 1, 0] rfl)
      · have hf := hf.2 c9
        refine lv_bipush (v := (-2)) (pc := 30) hx hb dX6_atWhat_30 rfl ?_
        exact rI (pc := 32) E hr hlk hI hf dX6_atWhat_32
theorem tX6_atWhat {l : Launch} {D : va_G} {F : (Nat → Prop) → State → Prop} {σ : St} {ad : Nat → Nat → Nat} {cy : Nat → ClassId} {Rr : va_W} {Q : Int32 → St → Prop} {p1 : Int32} {p2 : Int32} {p3 : Int32} (hF : Stab F) (hf : wX6_atWhat p1 p2 p3 σ Q) : CtI l yX6_atWhat cX6_atWhat 9 .int 48 (D, tysM cy, F) (LM ad cy Rr) [.ref (ad 16 99), .int p1, .int p2, .int p3] σ Q := mkI (by decide) (Nat.le_of_ble_eq_true rfl) (fun p e s m below meth c A E hr hlk hI ls hl => bX6_atWhat hF E hr hlk hf hI hl)

def wX6_want_j127 (a1 : Int32) (a2 : Int32) (a3 : Int32) (a4 : Int32) (a5 : Int32) (σ : St) (K : Int32 → Int32 → Int32 → Int32 → Int32 → St → Prop) (Q : Int32 → St → Prop) : Prop := ∀ x17 : Int32, x17 = a5 + 1 → (K a1 a2 a3 a4 x17 σ)
set_option maxRecDepth 100000 in
set_option maxHeartbeats 4000000 in
theorem bX6_want_127 {p : Program} {l : Launch} {e : Env} {s : State} {m : MethodId} {args : Array Value} {below : List Frame} {meth : Method} {c : Code} {H : Heap} {locs : List Loc} {ls : Array Slot} {D : va_G} {F : (Nat → Prop) → State → Prop} {A : Nat → Prop} {σ : St} {ad : Nat → Nat → Nat} {cy : Nat → ClassId} {Rr : va_W} {Q : Int32 → St → Prop} {a1 : Int32} {a2 : Int32} {a3 : Int32} {a4 : Int32} {a5 : Int32} {K : Int32 → Int32 → Int32 → Int32 → Int32 → St → Prop} (hF : Stab F) (E : CallFix p m c cX6_want 9 s args TB RX6) (hr : meth.sig.returnType = some .int) (hlk : meth.locks = false) (hK : ∀ (a1 : Int32) (a2 : Int32) (a3 : Int32) (a4 : Int32) (a5 : Int32) (σ : St) (H : Heap) (locs : List Loc) (ls : Array Slot), K a1 a2 a3 a4 a5 σ → In (D, tysM cy, F) (LM ad cy Rr σ) A s H locs → lv_has ls 9 [(0, .ref (ad 16 99)), (1, .int a1), (2, .int a2), (3, .int a3), (4, .int a4), (5, .int a5)] → W p l e (rmD 48) s m args below meth c H locs 0 0 (PI below args s (D, tysM cy, F) A (LM ad cy Rr) Q) (F0 m 40 ls [])) (hf : wX6_want_j127 a1 a2 a3 a4 a5 σ K Q) (hI : In (D, tysM cy, F) (LM ad cy Rr σ) A s H locs) (hl : lv_has ls 9 [(0, .ref (ad 16 99)), (1, .int a1), (2, .int a2), (3, .int a3), (4, .int a4), (5, .int a5)]) : W p l e (rmD 48) s m args below meth c H locs 0 0 (PI below args s (D, tysM cy, F) A (LM ad cy Rr) Q) (F0 m 127 ls []) := by
  have hx := E.1
  have hb := E.2.1
  unfold wX6_want_j127 at hf
  obtain ⟨x17, ex17⟩ : ∃ y : Int32, y = a5 + 1 := ⟨_, rfl⟩
  have hf := hf x17 ex17
  refine lv_iinc (v := x17) (lv' := [(5, .int x17), (0, .ref (ad 16 99)), (1, .int a1), (2, .int a2), (3, .int a3), (4, .int a4)]) (pc := 127) hx hb dX6_want_127 hl (k := 5) rfl (by rw [ex17]; rfl) (by decide) rfl (fun ls hl => ?_)
  refine lv_goto (tgt := 40) (pc := 130) hx hb dX6_want_130 (by decide) ?_
  exact hK _ _ _ _ _ _ _ _ _ hf hI (lv_sub hl [1, 2, 3, 4, 5, 0] rfl)
def wX6_want_l40s (ih : Int32 → Int32 → Int32 → Int32 → Int32 → St → Prop) (a1 : Int32) (a2 : Int32) (a3 : Int32) (a4 : Int32) (a5 : Int32) (σ : St) (Q : Int32 → St → Prop) : Prop := ((256 ≤ a5 → ((¬ a2 = 0 → Q a4 σ) ∧ (a2 = 0 → Q a3 σ))) ∧ (¬ 256 ≤ a5 → ∀ x13 : Int32, x13 = (a5 / 4) → wX6_has (gJ σ 16 8) x13 σ (fun r15 σ14 => ((¬ r15 = 0 → (wX6_want_j127 a1 a2 a3 a4 a5 σ14 ih Q)) ∧ (r15 = 0 → vp_in x13 64 ∧ ∀ x19 : Int32, x19 = (gA σ14 16 9 x13.toNatClampNeg) → vp_in x13 64 ∧ ∀ σ21 : St, σ21 = sA σ14 16 9 x13.toNatClampNeg (irm a5 4) → wX6_filledBehind a1 σ21 (fun r23 σ22 => wX6_bitsOf r23 σ22 (fun r25 σ24 => vp_in x13 64 ∧ ∀ σ27 : St, σ27 = sA σ24 16 9 x13.toNatClampNeg x19 → ((r25 ≤ a4 → (wX6_want_j127 a1 a2 a3 a4 a5 σ27 ih Q)) ∧ (¬ r25 ≤ a4 → ∀ x29 : Int32, x29 = ((10 * x13) + (irm a5 4)) → (wX6_want_j127 a1 a2 x29 r25 a5 σ27 ih Q))))))))))
def wX6_want_l40 (n : Nat) : Int32 → Int32 → Int32 → Int32 → Int32 → St → (Int32 → St → Prop) → Prop := @Nat.rec (fun _ => Int32 → Int32 → Int32 → Int32 → Int32 → St → (Int32 → St → Prop) → Prop) (fun _ _ _ _ _ _ _ => False) (fun _ ih a1 a2 a3 a4 a5 σ Q => wX6_want_l40s (fun a1 a2 a3 a4 a5 σ => ih a1 a2 a3 a4 a5 σ Q) a1 a2 a3 a4 a5 σ Q) n
set_option maxRecDepth 100000 in
set_option maxHeartbeats 4000000 in
theorem bX6_want_40 {p : Program} {l : Launch} {e : Env} {s : State} {m : MethodId} {args : Array Value} {below : List Frame} {meth : Method} {c : Code} {D : va_G} {F : (Nat → Prop) → State → Prop} {A : Nat → Prop} {ad : Nat → Nat → Nat} {cy : Nat → ClassId} {Rr : va_W} {Q : Int32 → St → Prop} (hF : Stab F) (E : CallFix p m c cX6_want 9 s args TB RX6) (hr : meth.sig.returnType = some .int) (hlk : meth.locks = false) : ∀ (n : Nat) {a1 : Int32} {a2 : Int32} {a3 : Int32} {a4 : Int32} {a5 : Int32} {σ : St} {H : Heap} {locs : List Loc} {ls : Array Slot}, wX6_want_l40 n a1 a2 a3 a4 a5 σ Q → In (D, tysM cy, F) (LM ad cy Rr σ) A s H locs → lv_has ls 9 [(0, .ref (ad 16 99)), (1, .int a1), (2, .int a2), (3, .int a3), (4, .int a4), (5, .int a5)] → W p l e (rmD 48) s m args below meth c H locs 0 0 (PI below args s (D, tysM cy, F) A (LM ad cy Rr) Q) (F0 m 40 ls []) := by
  have hx := E.1
  have hb := E.2.1
  intro n
  induction n with
  | zero => intro a1 a2 a3 a4 a5 σ H locs ls hf hI hl; exact False.elim hf
  | succ n ih =>
    intro a1 a2 a3 a4 a5 σ H locs ls hf hI hl
    have hf : wX6_want_l40s (fun a1 a2 a3 a4 a5 σ => wX6_want_l40 n a1 a2 a3 a4 a5 σ Q) a1 a2 a3 a4 a5 σ Q := hf
    unfold wX6_want_l40s at hf
    refine lv_iload (pc := 40) hx hb dX6_want_40 (lv_at hl 5 rfl) ?_
    refine lv_sipush (v := 256) (pc := 42) hx hb dX6_want_42 rfl ?_
    refine lv_icmp_ge (tgt := 133) (pc := 45) hx hb dX6_want_45 (by decide) (fun c11 => ?_) (fun c11 => ?_)
    · have hf := hf.1 c11
      refine lv_iload_n (pc := 133) hx hb dX6_want_133 rfl (lv_at hl 2 rfl) ?_
      refine lv_if_ne (tgt := 141) (pc := 134) hx hb dX6_want_134 (by decide) (fun c12 => ?_) (fun c12 => ?_)
      · have hf := hf.1 c12
        refine lv_iload (pc := 141) hx hb dX6_want_141 (lv_at hl 4 rfl) ?_
        exact rI (pc := 143) E hr hlk hI hf dX6_want_143
      · have hf := hf.2 c12
        refine lv_iload_n (pc := 137) hx hb dX6_want_137 rfl (lv_at hl 3 rfl) ?_
        refine lv_goto (tgt := 143) (pc := 138) hx hb dX6_want_138 (by decide) ?_
        exact rI (pc := 143) E hr hlk hI hf dX6_want_143
    · have hf := hf.2 c11
      refine lv_iload (pc := 48) hx hb dX6_want_48 (lv_at hl 5 rfl) ?_
      refine lv_iconst (v := 4) (pc := 50) hx hb dX6_want_50 rfl ?_
      refine lv_idiv (pc := 51) hx hb dX6_want_51 (by decide) ?_
      refine lv_topi (fun x13 ex13 => ?_)
      have hf := hf x13 ex13
      refine lv_istore (lv' := [(6, .int x13), (0, .ref (ad 16 99)), (1, .int a1), (2, .int a2), (3, .int a3), (4, .int a4), (5, .int a5)]) (pc := 52) hx hb dX6_want_52 hl (by decide) rfl (fun ls hl => ?_)
      refine lv_aload_n (pc := 54) hx hb dX6_want_54 rfl (lv_at hl 1 rfl) ?_
      refine g6_8 (pc := 55) E hI lkX6_109 dX6_want_55 ?_
      refine lv_iload (pc := 58) hx hb dX6_want_58 (lv_at hl 0 rfl) ?_
      refine callSI (G := (D, tysM cy, F)) (L := LM ad cy Rr) (pc := 60) (As := [.long (gJ σ 16 8), .int x13]) (rest := []) hF E cs0 hl hI (tX6_has hF hf) mwX6_124 (fitD (by decide)) rfl rfl (Nat.le_of_ble_eq_true rfl) dX6_want_60 (fun r15 σ14 H locs hf hI => ?_)
      refine lv_if_ne (tgt := 127) (pc := 63) hx hb dX6_want_63 (by decide) (fun c16 => ?_) (fun c16 => ?_)
      · have hf := hf.1 c16
        exact bX6_want_127 hF E hr hlk (fun _ _ _ _ _ _ _ _ _ hf hI hl => ih hf hI hl) hf hI (lv_sub hl [1, 2, 3, 4, 5, 6] rfl)
      · have hf := hf.2 c16
        refine lv_aload_n (pc := 66) hx hb dX6_want_66 rfl (lv_at hl 1 rfl) ?_
        refine g6_9 (pc := 67) E hI lkX6_23 dX6_want_67 ?_
        refine lv_iload (pc := 70) hx hb dX6_want_70 (lv_at hl 0 rfl) ?_
        have g18 := hf.1
        have hf := hf.2
        refine a6_9 (pc := 72) E hI g18 dX6_want_72 ?_
        refine lv_topi (fun x19 ex19 => ?_)
        have hf := hf x19 ex19
        refine lv_istore (lv' := [(7, .int x19), (6, .int x13), (0, .ref (ad 16 99)), (1, .int a1), (2, .int a2), (3, .int a3), (4, .int a4), (5, .int a5)]) (pc := 73) hx hb dX6_want_73 hl (by decide) rfl (fun ls hl => ?_)
        refine lv_aload_n (pc := 75) hx hb dX6_want_75 rfl (lv_at hl 2 rfl) ?_
        refine g6_9 (pc := 76) E hI lkX6_23 dX6_want_76 ?_
        refine lv_iload (pc := 79) hx hb dX6_want_79 (lv_at hl 1 rfl) ?_
        refine lv_iload (pc := 81) hx hb dX6_want_81 (lv_at hl 7 rfl) ?_
        refine lv_iconst (v := 4) (pc := 83) hx hb dX6_want_83 rfl ?_
        refine lv_irem1 (pc := 84) hx hb dX6_want_84 (by decide) ?_
        have g20 := hf.1
        have hf := hf.2
        refine s6_9 (pc := 85) E hI g20 dX6_want_85 (fun H locs σ21 eσ21 hI => ?_)
        have hf := hf σ21 eσ21
        refine lv_aload_n (pc := 86) hx hb dX6_want_86 rfl (lv_at hl 2 rfl) ?_
        refine lv_iload_n (pc := 87) hx hb dX6_want_87 rfl (lv_at hl 3 rfl) ?_
        refine callVJ (G := (D, tysM cy, F)) (L := LM ad cy Rr) (pc := 88) (As := [.int a1]) (rest := []) hF E cs0 hl hI (tX6_filledBehind hF hf) mwX6_396 (fitD (by decide)) (at6) rfl rfl rfl rfl (Nat.le_of_ble_eq_true rfl) dX6_want_88 (fun r23 σ22 H locs hf hI => ?_)
        refine callSI (G := (D, tysM cy, F)) (L := LM ad cy Rr) (pc := 91) (As := [.long r23]) (rest := []) hF E cs0 hl hI (tX6_bitsOf hF hf) mwX6_352 (fitD (by decide)) rfl rfl (Nat.le_of_ble_eq_true rfl) dX6_want_91 (fun r25 σ24 H locs hf hI => ?_)
        refine lv_istore (lv' := [(8, .int r25), (7, .int x19), (6, .int x13), (0, .ref (ad 16 99)), (1, .int a1), (2, .int a2), (3, .int a3), (4, .int a4), (5, .int a5)]) (pc := 94) hx hb dX6_want_94 hl (by decide) rfl (fun ls hl => ?_)
        refine lv_aload_n (pc := 96) hx hb dX6_want_96 rfl (lv_at hl 3 rfl) ?_
        refine g6_9 (pc := 97) E hI lkX6_23 dX6_want_97 ?_
        refine lv_iload (pc := 100) hx hb dX6_want_100 (lv_at hl 2 rfl) ?_
        refine lv_iload (pc := 102) hx hb dX6_want_102 (lv_at hl 1 rfl) ?_
        have g26 := hf.1
        have hf := hf.2
        refine s6_9 (pc := 104) E hI g26 dX6_want_104 (fun H locs σ27 eσ27 hI => ?_)
        have hf := hf σ27 eσ27
        refine lv_iload (pc := 105) hx hb dX6_want_105 (lv_at hl 0 rfl) ?_
        refine lv_iload (pc := 107) hx hb dX6_want_107 (lv_at hl 7 rfl) ?_
        refine lv_icmp_le (tgt := 127) (pc := 109) hx hb dX6_want_109 (by decide) (fun c28 => ?_) (fun c28 => ?_)
        · have hf := hf.1 c28
          exact bX6_want_127 hF E hr hlk (fun _ _ _ _ _ _ _ _ _ hf hI hl => ih hf hI hl) hf hI (lv_sub hl [3, 4, 5, 6, 7, 8] rfl)
        · have hf := hf.2 c28
          refine lv_bipush (v := 10) (pc := 112) hx hb dX6_want_112 rfl ?_
          refine lv_iload (pc := 114) hx hb dX6_want_114 (lv_at hl 2 rfl) ?_
          refine lv_imul (pc := 116) hx hb dX6_want_116 ?_
          refine lv_iload (pc := 117) hx hb dX6_want_117 (lv_at hl 8 rfl) ?_
          refine lv_iconst (v := 4) (pc := 119) hx hb dX6_want_119 rfl ?_
          refine lv_irem1 (pc := 120) hx hb dX6_want_120 (by decide) ?_
          refine lv_iadd (pc := 121) hx hb dX6_want_121 ?_
          refine lv_topi (fun x29 ex29 => ?_)
          have hf := hf x29 ex29
          refine lv_istore_n (lv' := [(3, .int x29), (8, .int r25), (7, .int x19), (6, .int x13), (0, .ref (ad 16 99)), (1, .int a1), (2, .int a2), (4, .int a4), (5, .int a5)]) (pc := 122) hx hb dX6_want_122 rfl hl (by decide) rfl (fun ls hl => ?_)
          refine lv_iload (pc := 123) hx hb dX6_want_123 (lv_at hl 1 rfl) ?_
          refine lv_istore (lv' := [(4, .int r25), (3, .int x29), (8, .int r25), (7, .int x19), (6, .int x13), (0, .ref (ad 16 99)), (1, .int a1), (2, .int a2), (5, .int a5)]) (pc := 125) hx hb dX6_want_125 hl (by decide) rfl (fun ls hl => ?_)
          exact bX6_want_127 hF E hr hlk (fun _ _ _ _ _ _ _ _ _ hf hI hl => ih hf hI hl) hf hI (lv_sub hl [5, 6, 7, 1, 0, 8] rfl)
def wX6_want (p1 : Int32) (p2 : Int32) (σ : St) (Q : Int32 → St → Prop) : Prop := wX6_in (p1.toInt64) 1 20 σ (fun r2 σ1 => ((r2 = 0 → Q (-2) σ1) ∧ (¬ r2 = 0 → wX6_in (p2.toInt64) 0 1 σ1 (fun r5 σ4 => ((¬ r5 = 0 → wX6_filledBehind p1 σ4 (fun r8 σ7 => wX6_bitsOf r8 σ7 (fun r10 σ9 => ∃ n30 : Nat, wX6_want_l40 n30 p1 p2 (-1) r10 0 σ9 Q))) ∧ (r5 = 0 → Q (-2) σ4))))))
set_option maxRecDepth 100000 in
set_option maxHeartbeats 4000000 in
theorem bX6_want {p : Program} {l : Launch} {e : Env} {s : State} {m : MethodId} {args : Array Value} {below : List Frame} {meth : Method} {c : Code} {H : Heap} {locs : List Loc} {ls : Array Slot} {D : va_G} {F : (Nat → Prop) → State → Prop} {A : Nat → Prop} {σ : St} {ad : Nat → Nat → Nat} {cy : Nat → ClassId} {Rr : va_W} {Q : Int32 → St → Prop} {p1 : Int32} {p2 : Int32} (hF : Stab F) (E : CallFix p m c cX6_want 9 s args TB RX6) (hr : meth.sig.returnType = some .int) (hlk : meth.locks = false) (hf : wX6_want p1 p2 σ Q) (hI : In (D, tysM cy, F) (LM ad cy Rr σ) A s H locs) (hl : lv_has ls 9 [(0, .ref (ad 16 99)), (1, .int p1), (2, .int p2)]) : W p l e (rmD 48) s m args below meth c H locs 0 0 (PI below args s (D, tysM cy, F) A (LM ad cy Rr) Q) (F0 m 0 ls []) := by
  have hx := E.1
  have hb := E.2.1
  unfold wX6_want at hf
  refine lv_iload_n (pc := 0) hx hb dX6_want_0 rfl (lv_at hl 1 rfl) ?_
  refine lv_i2l (v := (p1.toInt64)) (pc := 1) hx hb dX6_want_1 rfl ?_
  refine lv_lconst (v := 1) (pc := 2) hx hb dX6_want_2 rfl ?_
  refine lv_ldc2 (pc := 3) E.1 E.2.1 E.2.2.2.1 (E.2.2.2.2 _ kcX6_399) dX6_want_3 ?_
  refine callSI (G := (D, tysM cy, F)) (L := LM ad cy Rr) (pc := 6) (As := [.long (p1.toInt64), .long 1, .long 20]) (rest := []) hF E cs0 hl hI (tX6_in hF hf) mwX6_76 (fitD (by decide)) rfl rfl (Nat.le_of_ble_eq_true rfl) dX6_want_6 (fun r2 σ1 H locs hf hI => ?_)
  refine lv_if_eq (tgt := 22) (pc := 9) hx hb dX6_want_9 (by decide) (fun c3 => ?_) (fun c3 => ?_)
  · have hf := hf.1 c3
    refine lv_bipush (v := (-2)) (pc := 22) hx hb dX6_want_22 rfl ?_
    exact rI (pc := 24) E hr hlk hI hf dX6_want_24
  · have hf := hf.2 c3
    refine lv_iload_n (pc := 12) hx hb dX6_want_12 rfl (lv_at hl 2 rfl) ?_
    refine lv_i2l (v := (p2.toInt64)) (pc := 13) hx hb dX6_want_13 rfl ?_
    refine lv_lconst (v := 0) (pc := 14) hx hb dX6_want_14 rfl ?_
    refine lv_lconst (v := 1) (pc := 15) hx hb dX6_want_15 rfl ?_
    refine callSI (G := (D, tysM cy, F)) (L := LM ad cy Rr) (pc := 16) (As := [.long (p2.toInt64), .long 0, .long 1]) (rest := []) hF E cs0 hl hI (tX6_in hF hf) mwX6_76 (fitD (by decide)) rfl rfl (Nat.le_of_ble_eq_true rfl) dX6_want_16 (fun r5 σ4 H locs hf hI => ?_)
    refine lv_if_ne (tgt := 25) (pc := 19) hx hb dX6_want_19 (by decide) (fun c6 => ?_) (fun c6 => ?_)
    · have hf := hf.1 c6
      refine lv_iconst (v := (-1)) (pc := 25) hx hb dX6_want_25 rfl ?_
      refine lv_istore_n (lv' := [(3, .int (-1)), (0, .ref (ad 16 99)), (1, .int p1), (2, .int p2)]) (pc := 26) hx hb dX6_want_26 rfl hl (by decide) rfl (fun ls hl => ?_)
      refine lv_aload_n (pc := 27) hx hb dX6_want_27 rfl (lv_at hl 1 rfl) ?_
      refine lv_iload_n (pc := 28) hx hb dX6_want_28 rfl (lv_at hl 2 rfl) ?_
      refine callVJ (G := (D, tysM cy, F)) (L := LM ad cy Rr) (pc := 29) (As := [.int p1]) (rest := []) hF E cs0 hl hI (tX6_filledBehind hF hf) mwX6_396 (fitD (by decide)) (at6) rfl rfl rfl rfl (Nat.le_of_ble_eq_true rfl) dX6_want_29 (fun r8 σ7 H locs hf hI => ?_)
      refine callSI (G := (D, tysM cy, F)) (L := LM ad cy Rr) (pc := 32) (As := [.long r8]) (rest := []) hF E cs0 hl hI (tX6_bitsOf hF hf) mwX6_352 (fitD (by decide)) rfl rfl (Nat.le_of_ble_eq_true rfl) dX6_want_32 (fun r10 σ9 H locs hf hI => ?_)
      refine lv_istore (lv' := [(4, .int r10), (3, .int (-1)), (0, .ref (ad 16 99)), (1, .int p1), (2, .int p2)]) (pc := 35) hx hb dX6_want_35 hl (by decide) rfl (fun ls hl => ?_)
      refine lv_iconst (v := 0) (pc := 37) hx hb dX6_want_37 rfl ?_
      refine lv_istore (lv' := [(5, .int 0), (4, .int r10), (3, .int (-1)), (0, .ref (ad 16 99)), (1, .int p1), (2, .int p2)]) (pc := 38) hx hb dX6_want_38 hl (by decide) rfl (fun ls hl => ?_)
      obtain ⟨n30, hf⟩ := hf
      exact bX6_want_40 hF E hr hlk n30 hf hI (lv_sub hl [3, 4, 5, 2, 1, 0] rfl)
    · have hf := hf.2 c6
      refine lv_bipush (v := (-2)) (pc := 22) hx hb dX6_want_22 rfl ?_
      exact rI (pc := 24) E hr hlk hI hf dX6_want_24
theorem tX6_want {l : Launch} {D : va_G} {F : (Nat → Prop) → State → Prop} {σ : St} {ad : Nat → Nat → Nat} {cy : Nat → ClassId} {Rr : va_W} {Q : Int32 → St → Prop} {p1 : Int32} {p2 : Int32} (hF : Stab F) (hf : wX6_want p1 p2 σ Q) : CtI l yX6_want cX6_want 9 .int 48 (D, tysM cy, F) (LM ad cy Rr) [.ref (ad 16 99), .int p1, .int p2] σ Q := mkI (by decide) (Nat.le_of_ble_eq_true rfl) (fun p e s m below meth c A E hr hlk hI ls hl => bX6_want hF E hr hlk hf hI hl)

def wX6_idle_j74 (a3 : Int32) (σ : St) (Q : Int32 → St → Prop) : Prop := ∀ σ9 : St, σ9 = sI σ 16 13 (-1) → Q a3 σ9
set_option maxRecDepth 100000 in
set_option maxHeartbeats 4000000 in
theorem bX6_idle_74 {p : Program} {l : Launch} {e : Env} {s : State} {m : MethodId} {args : Array Value} {below : List Frame} {meth : Method} {c : Code} {H : Heap} {locs : List Loc} {ls : Array Slot} {D : va_G} {F : (Nat → Prop) → State → Prop} {A : Nat → Prop} {σ : St} {ad : Nat → Nat → Nat} {cy : Nat → ClassId} {Rr : va_W} {Q : Int32 → St → Prop} {a3 : Int32} (hF : Stab F) (E : CallFix p m c cX6_idle 5 s args TB RX6) (hr : meth.sig.returnType = some .int) (hlk : meth.locks = false) (hf : wX6_idle_j74 a3 σ Q) (hI : In (D, tysM cy, F) (LM ad cy Rr σ) A s H locs) (hl : lv_has ls 5 [(0, .ref (ad 16 99)), (3, .int a3)]) : W p l e (rmD 48) s m args below meth c H locs 0 0 (PI below args s (D, tysM cy, F) A (LM ad cy Rr) Q) (F0 m 74 ls []) := by
  have hx := E.1
  have hb := E.2.1
  unfold wX6_idle_j74 at hf
  refine lv_aload_n (pc := 74) hx hb dX6_idle_74 rfl (lv_at hl 0 rfl) ?_
  refine lv_iconst (v := (-1)) (pc := 75) hx hb dX6_idle_75 rfl ?_
  refine p6_13 (pc := 76) E hI lkX6_32 dX6_idle_76 (fun H locs σ9 eσ9 hI => ?_)
  have hf := hf σ9 eσ9
  refine lv_iload_n (pc := 79) hx hb dX6_idle_79 rfl (lv_at hl 1 rfl) ?_
  exact rI (pc := 80) E hr hlk hI hf dX6_idle_80
def wX6_idle_j67 (a1 : Int32) (a2 : Int32) (a4 : Int32) (s0 : Int32) (σ : St) (K : Int32 → Int32 → Int32 → Int32 → St → Prop) (Q : Int32 → St → Prop) : Prop := ∀ x17 : Int32, x17 = a4 + 1 → (K a1 a2 s0 x17 σ)
set_option maxRecDepth 100000 in
set_option maxHeartbeats 4000000 in
theorem bX6_idle_67 {p : Program} {l : Launch} {e : Env} {s : State} {m : MethodId} {args : Array Value} {below : List Frame} {meth : Method} {c : Code} {H : Heap} {locs : List Loc} {ls : Array Slot} {D : va_G} {F : (Nat → Prop) → State → Prop} {A : Nat → Prop} {σ : St} {ad : Nat → Nat → Nat} {cy : Nat → ClassId} {Rr : va_W} {Q : Int32 → St → Prop} {a1 : Int32} {a2 : Int32} {a4 : Int32} {s0 : Int32} {K : Int32 → Int32 → Int32 → Int32 → St → Prop} (hF : Stab F) (E : CallFix p m c cX6_idle 5 s args TB RX6) (hr : meth.sig.returnType = some .int) (hlk : meth.locks = false) (hK : ∀ (a1 : Int32) (a2 : Int32) (a3 : Int32) (a4 : Int32) (σ : St) (H : Heap) (locs : List Loc) (ls : Array Slot), K a1 a2 a3 a4 σ → In (D, tysM cy, F) (LM ad cy Rr σ) A s H locs → lv_has ls 5 [(0, .ref (ad 16 99)), (1, .int a1), (2, .int a2), (3, .int a3), (4, .int a4)] → W p l e (rmD 48) s m args below meth c H locs 0 0 (PI below args s (D, tysM cy, F) A (LM ad cy Rr) Q) (F0 m 29 ls [])) (hf : wX6_idle_j67 a1 a2 a4 s0 σ K Q) (hI : In (D, tysM cy, F) (LM ad cy Rr σ) A s H locs) (hl : lv_has ls 5 [(0, .ref (ad 16 99)), (1, .int a1), (2, .int a2), (4, .int a4)]) : W p l e (rmD 48) s m args below meth c H locs 0 0 (PI below args s (D, tysM cy, F) A (LM ad cy Rr) Q) (F0 m 67 ls [.int s0]) := by
  have hx := E.1
  have hb := E.2.1
  unfold wX6_idle_j67 at hf
  refine lv_istore_n (lv' := [(3, .int s0), (0, .ref (ad 16 99)), (1, .int a1), (2, .int a2), (4, .int a4)]) (pc := 67) hx hb dX6_idle_67 rfl hl (by decide) rfl (fun ls hl => ?_)
  obtain ⟨x17, ex17⟩ : ∃ y : Int32, y = a4 + 1 := ⟨_, rfl⟩
  have hf := hf x17 ex17
  refine lv_iinc (v := x17) (lv' := [(4, .int x17), (3, .int s0), (0, .ref (ad 16 99)), (1, .int a1), (2, .int a2)]) (pc := 68) hx hb dX6_idle_68 hl (k := 4) rfl (by rw [ex17]; rfl) (by decide) rfl (fun ls hl => ?_)
  refine lv_goto (tgt := 29) (pc := 71) hx hb dX6_idle_71 (by decide) ?_
  exact hK _ _ _ _ _ _ _ _ hf hI (lv_sub hl [2, 3, 4, 1, 0] rfl)
def wX6_idle_l29s (ih : Int32 → Int32 → Int32 → Int32 → St → Prop) (a1 : Int32) (a2 : Int32) (a3 : Int32) (a4 : Int32) (σ : St) (Q : Int32 → St → Prop) : Prop := (((gI σ 16 12) ≤ a4 → (wX6_idle_j74 a3 σ Q)) ∧ (¬ (gI σ 16 12) ≤ a4 → ((¬ a3 = (-1) → (wX6_idle_j74 a3 σ Q)) ∧ (a3 = (-1) → ∀ σ11 : St, σ11 = sI σ 16 13 a4 → wX6_filledBehind a1 σ11 (fun r13 σ12 => wX6_bitsOf r13 σ12 (fun r15 σ14 => ((¬ r15 = a2 → (wX6_idle_j67 a1 a2 a4 (-1) σ14 ih Q)) ∧ (r15 = a2 → (wX6_idle_j67 a1 a2 a4 a4 σ14 ih Q)))))))))
def wX6_idle_l29 (n : Nat) : Int32 → Int32 → Int32 → Int32 → St → (Int32 → St → Prop) → Prop := @Nat.rec (fun _ => Int32 → Int32 → Int32 → Int32 → St → (Int32 → St → Prop) → Prop) (fun _ _ _ _ _ _ => False) (fun _ ih a1 a2 a3 a4 σ Q => wX6_idle_l29s (fun a1 a2 a3 a4 σ => ih a1 a2 a3 a4 σ Q) a1 a2 a3 a4 σ Q) n
set_option maxRecDepth 100000 in
set_option maxHeartbeats 4000000 in
theorem bX6_idle_29 {p : Program} {l : Launch} {e : Env} {s : State} {m : MethodId} {args : Array Value} {below : List Frame} {meth : Method} {c : Code} {D : va_G} {F : (Nat → Prop) → State → Prop} {A : Nat → Prop} {ad : Nat → Nat → Nat} {cy : Nat → ClassId} {Rr : va_W} {Q : Int32 → St → Prop} (hF : Stab F) (E : CallFix p m c cX6_idle 5 s args TB RX6) (hr : meth.sig.returnType = some .int) (hlk : meth.locks = false) : ∀ (n : Nat) {a1 : Int32} {a2 : Int32} {a3 : Int32} {a4 : Int32} {σ : St} {H : Heap} {locs : List Loc} {ls : Array Slot}, wX6_idle_l29 n a1 a2 a3 a4 σ Q → In (D, tysM cy, F) (LM ad cy Rr σ) A s H locs → lv_has ls 5 [(0, .ref (ad 16 99)), (1, .int a1), (2, .int a2), (3, .int a3), (4, .int a4)] → W p l e (rmD 48) s m args below meth c H locs 0 0 (PI below args s (D, tysM cy, F) A (LM ad cy Rr) Q) (F0 m 29 ls []) := by
  have hx := E.1
  have hb := E.2.1
  intro n
  induction n with
  | zero => intro a1 a2 a3 a4 σ H locs ls hf hI hl; exact False.elim hf
  | succ n ih =>
    intro a1 a2 a3 a4 σ H locs ls hf hI hl
    have hf : wX6_idle_l29s (fun a1 a2 a3 a4 σ => wX6_idle_l29 n a1 a2 a3 a4 σ Q) a1 a2 a3 a4 σ Q := hf
    unfold wX6_idle_l29s at hf
    refine lv_iload (pc := 29) hx hb dX6_idle_29 (lv_at hl 4 rfl) ?_
    refine lv_aload_n (pc := 31) hx hb dX6_idle_31 rfl (lv_at hl 0 rfl) ?_
    refine g6_12 (pc := 32) E hI lkX6_73 dX6_idle_32 ?_
    refine lv_icmp_ge (tgt := 74) (pc := 35) hx hb dX6_idle_35 (by decide) (fun c8 => ?_) (fun c8 => ?_)
    · have hf := hf.1 c8
      exact bX6_idle_74 hF E hr hlk hf hI (lv_sub hl [0, 3] rfl)
    · have hf := hf.2 c8
      refine lv_iload_n (pc := 38) hx hb dX6_idle_38 rfl (lv_at hl 3 rfl) ?_
      refine lv_iconst (v := (-1)) (pc := 39) hx hb dX6_idle_39 rfl ?_
      refine lv_icmp_ne (tgt := 74) (pc := 40) hx hb dX6_idle_40 (by decide) (fun c10 => ?_) (fun c10 => ?_)
      · have hf := hf.1 c10
        exact bX6_idle_74 hF E hr hlk hf hI (lv_sub hl [0, 3] rfl)
      · have hf := hf.2 c10
        refine lv_aload_n (pc := 43) hx hb dX6_idle_43 rfl (lv_at hl 0 rfl) ?_
        refine lv_iload (pc := 44) hx hb dX6_idle_44 (lv_at hl 4 rfl) ?_
        refine p6_13 (pc := 46) E hI lkX6_32 dX6_idle_46 (fun H locs σ11 eσ11 hI => ?_)
        have hf := hf σ11 eσ11
        refine lv_aload_n (pc := 49) hx hb dX6_idle_49 rfl (lv_at hl 0 rfl) ?_
        refine lv_iload_n (pc := 50) hx hb dX6_idle_50 rfl (lv_at hl 1 rfl) ?_
        refine callVJ (G := (D, tysM cy, F)) (L := LM ad cy Rr) (pc := 51) (As := [.int a1]) (rest := []) hF E cs0 hl hI (tX6_filledBehind hF hf) mwX6_396 (fitD (by decide)) (at6) rfl rfl rfl rfl (Nat.le_of_ble_eq_true rfl) dX6_idle_51 (fun r13 σ12 H locs hf hI => ?_)
        refine callSI (G := (D, tysM cy, F)) (L := LM ad cy Rr) (pc := 54) (As := [.long r13]) (rest := []) hF E cs0 hl hI (tX6_bitsOf hF hf) mwX6_352 (fitD (by decide)) rfl rfl (Nat.le_of_ble_eq_true rfl) dX6_idle_54 (fun r15 σ14 H locs hf hI => ?_)
        refine lv_iload_n (pc := 57) hx hb dX6_idle_57 rfl (lv_at hl 2 rfl) ?_
        refine lv_icmp_ne (tgt := 66) (pc := 58) hx hb dX6_idle_58 (by decide) (fun c16 => ?_) (fun c16 => ?_)
        · have hf := hf.1 c16
          refine lv_iconst (v := (-1)) (pc := 66) hx hb dX6_idle_66 rfl ?_
          exact bX6_idle_67 hF E hr hlk (fun _ _ _ _ _ _ _ _ hf hI hl => ih hf hI hl) hf hI (lv_sub hl [0, 1, 2, 4] rfl)
        · have hf := hf.2 c16
          refine lv_iload (pc := 61) hx hb dX6_idle_61 (lv_at hl 4 rfl) ?_
          refine lv_goto (tgt := 67) (pc := 63) hx hb dX6_idle_63 (by decide) ?_
          exact bX6_idle_67 hF E hr hlk (fun _ _ _ _ _ _ _ _ hf hI hl => ih hf hI hl) hf hI (lv_sub hl [0, 1, 2, 4] rfl)
def wX6_idle (p1 : Int32) (σ : St) (Q : Int32 → St → Prop) : Prop := wX6_in (p1.toInt64) 0 40 σ (fun r2 σ1 => ((¬ r2 = 0 → wX6_filledBehind p1 σ1 (fun r5 σ4 => wX6_bitsOf r5 σ4 (fun r7 σ6 => ∃ n18 : Nat, wX6_idle_l29 n18 p1 r7 (-1) 0 σ6 Q))) ∧ (r2 = 0 → Q (-2) σ1)))
set_option maxRecDepth 100000 in
set_option maxHeartbeats 4000000 in
theorem bX6_idle {p : Program} {l : Launch} {e : Env} {s : State} {m : MethodId} {args : Array Value} {below : List Frame} {meth : Method} {c : Code} {H : Heap} {locs : List Loc} {ls : Array Slot} {D : va_G} {F : (Nat → Prop) → State → Prop} {A : Nat → Prop} {σ : St} {ad : Nat → Nat → Nat} {cy : Nat → ClassId} {Rr : va_W} {Q : Int32 → St → Prop} {p1 : Int32} (hF : Stab F) (E : CallFix p m c cX6_idle 5 s args TB RX6) (hr : meth.sig.returnType = some .int) (hlk : meth.locks = false) (hf : wX6_idle p1 σ Q) (hI : In (D, tysM cy, F) (LM ad cy Rr σ) A s H locs) (hl : lv_has ls 5 [(0, .ref (ad 16 99)), (1, .int p1)]) : W p l e (rmD 48) s m args below meth c H locs 0 0 (PI below args s (D, tysM cy, F) A (LM ad cy Rr) Q) (F0 m 0 ls []) := by
  have hx := E.1
  have hb := E.2.1
  unfold wX6_idle at hf
  refine lv_iload_n (pc := 0) hx hb dX6_idle_0 rfl (lv_at hl 1 rfl) ?_
  refine lv_i2l (v := (p1.toInt64)) (pc := 1) hx hb dX6_idle_1 rfl ?_
  refine lv_lconst (v := 0) (pc := 2) hx hb dX6_idle_2 rfl ?_
  refine lv_ldc2 (pc := 3) E.1 E.2.1 E.2.2.2.1 (E.2.2.2.2 _ kcX6_394) dX6_idle_3 ?_
  refine callSI (G := (D, tysM cy, F)) (L := LM ad cy Rr) (pc := 6) (As := [.long (p1.toInt64), .long 0, .long 40]) (rest := []) hF E cs0 hl hI (tX6_in hF hf) mwX6_76 (fitD (by decide)) rfl rfl (Nat.le_of_ble_eq_true rfl) dX6_idle_6 (fun r2 σ1 H locs hf hI => ?_)
  refine lv_if_ne (tgt := 15) (pc := 9) hx hb dX6_idle_9 (by decide) (fun c3 => ?_) (fun c3 => ?_)
  · have hf := hf.1 c3
    refine lv_aload_n (pc := 15) hx hb dX6_idle_15 rfl (lv_at hl 0 rfl) ?_
    refine lv_iload_n (pc := 16) hx hb dX6_idle_16 rfl (lv_at hl 1 rfl) ?_
    refine callVJ (G := (D, tysM cy, F)) (L := LM ad cy Rr) (pc := 17) (As := [.int p1]) (rest := []) hF E cs0 hl hI (tX6_filledBehind hF hf) mwX6_396 (fitD (by decide)) (at6) rfl rfl rfl rfl (Nat.le_of_ble_eq_true rfl) dX6_idle_17 (fun r5 σ4 H locs hf hI => ?_)
    refine callSI (G := (D, tysM cy, F)) (L := LM ad cy Rr) (pc := 20) (As := [.long r5]) (rest := []) hF E cs0 hl hI (tX6_bitsOf hF hf) mwX6_352 (fitD (by decide)) rfl rfl (Nat.le_of_ble_eq_true rfl) dX6_idle_20 (fun r7 σ6 H locs hf hI => ?_)
    refine lv_istore_n (lv' := [(2, .int r7), (0, .ref (ad 16 99)), (1, .int p1)]) (pc := 23) hx hb dX6_idle_23 rfl hl (by decide) rfl (fun ls hl => ?_)
    refine lv_iconst (v := (-1)) (pc := 24) hx hb dX6_idle_24 rfl ?_
    refine lv_istore_n (lv' := [(3, .int (-1)), (2, .int r7), (0, .ref (ad 16 99)), (1, .int p1)]) (pc := 25) hx hb dX6_idle_25 rfl hl (by decide) rfl (fun ls hl => ?_)
    refine lv_iconst (v := 0) (pc := 26) hx hb dX6_idle_26 rfl ?_
    refine lv_istore (lv' := [(4, .int 0), (3, .int (-1)), (2, .int r7), (0, .ref (ad 16 99)), (1, .int p1)]) (pc := 27) hx hb dX6_idle_27 hl (by decide) rfl (fun ls hl => ?_)
    obtain ⟨n18, hf⟩ := hf
    exact bX6_idle_29 hF E hr hlk n18 hf hI (lv_sub hl [3, 4, 2, 1, 0] rfl)
  · have hf := hf.2 c3
    refine lv_bipush (v := (-2)) (pc := 12) hx hb dX6_idle_12 rfl ?_
    exact rI (pc := 14) E hr hlk hI hf dX6_idle_14
theorem tX6_idle {l : Launch} {D : va_G} {F : (Nat → Prop) → State → Prop} {σ : St} {ad : Nat → Nat → Nat} {cy : Nat → ClassId} {Rr : va_W} {Q : Int32 → St → Prop} {p1 : Int32} (hF : Stab F) (hf : wX6_idle p1 σ Q) : CtI l yX6_idle cX6_idle 5 .int 48 (D, tysM cy, F) (LM ad cy Rr) [.ref (ad 16 99), .int p1] σ Q := mkI (by decide) (Nat.le_of_ble_eq_true rfl) (fun p e s m below meth c A E hr hlk hI ls hl => bX6_idle hF E hr hlk hf hI hl)

def wX6_filledDrawn_l68s (ih : Int32 → Int32 → St → Prop) (a4 : Int32) (a5 : Int32) (σ : St) (Q : Int32 → St → Prop) : Prop := ((64 ≤ a5 → Q a4 σ) ∧ (¬ 64 ≤ a5 → vp_in a5 64 ∧ vp_in a5 64 ∧ ∀ σ9 : St, σ9 = sA σ 16 9 a5.toNatClampNeg (gA σ 16 31 a5.toNatClampNeg) → ∀ x10 : Int32, x10 = a5 + 1 → (ih a4 x10 σ9)))
def wX6_filledDrawn_l68 (n : Nat) : Int32 → Int32 → St → (Int32 → St → Prop) → Prop := @Nat.rec (fun _ => Int32 → Int32 → St → (Int32 → St → Prop) → Prop) (fun _ _ _ _ => False) (fun _ ih a4 a5 σ Q => wX6_filledDrawn_l68s (fun a4 a5 σ => ih a4 a5 σ Q) a4 a5 σ Q) n
set_option maxRecDepth 100000 in
set_option maxHeartbeats 4000000 in
theorem bX6_filledDrawn_68 {p : Program} {l : Launch} {e : Env} {s : State} {m : MethodId} {args : Array Value} {below : List Frame} {meth : Method} {c : Code} {D : va_G} {F : (Nat → Prop) → State → Prop} {A : Nat → Prop} {ad : Nat → Nat → Nat} {cy : Nat → ClassId} {Rr : va_W} {Q : Int32 → St → Prop} (hF : Stab F) (E : CallFix p m c cX6_filledDrawn 6 s args TB RX6) (hr : meth.sig.returnType = some .int) (hlk : meth.locks = false) : ∀ (n : Nat) {a4 : Int32} {a5 : Int32} {σ : St} {H : Heap} {locs : List Loc} {ls : Array Slot}, wX6_filledDrawn_l68 n a4 a5 σ Q → In (D, tysM cy, F) (LM ad cy Rr σ) A s H locs → lv_has ls 6 [(0, .ref (ad 16 99)), (4, .int a4), (5, .int a5)] → W p l e (rmD 48) s m args below meth c H locs 0 0 (PI below args s (D, tysM cy, F) A (LM ad cy Rr) Q) (F0 m 68 ls []) := by
  have hx := E.1
  have hb := E.2.1
  intro n
  induction n with
  | zero => intro a4 a5 σ H locs ls hf hI hl; exact False.elim hf
  | succ n ih =>
    intro a4 a5 σ H locs ls hf hI hl
    have hf : wX6_filledDrawn_l68s (fun a4 a5 σ => wX6_filledDrawn_l68 n a4 a5 σ Q) a4 a5 σ Q := hf
    unfold wX6_filledDrawn_l68s at hf
    refine lv_iload (pc := 68) hx hb dX6_filledDrawn_68 (lv_at hl 2 rfl) ?_
    refine lv_bipush (v := 64) (pc := 70) hx hb dX6_filledDrawn_70 rfl ?_
    refine lv_icmp_ge (tgt := 95) (pc := 72) hx hb dX6_filledDrawn_72 (by decide) (fun c6 => ?_) (fun c6 => ?_)
    · have hf := hf.1 c6
      refine lv_iload (pc := 95) hx hb dX6_filledDrawn_95 (lv_at hl 1 rfl) ?_
      exact rI (pc := 97) E hr hlk hI hf dX6_filledDrawn_97
    · have hf := hf.2 c6
      refine lv_aload_n (pc := 75) hx hb dX6_filledDrawn_75 rfl (lv_at hl 0 rfl) ?_
      refine g6_9 (pc := 76) E hI lkX6_23 dX6_filledDrawn_76 ?_
      refine lv_iload (pc := 79) hx hb dX6_filledDrawn_79 (lv_at hl 2 rfl) ?_
      refine lv_aload_n (pc := 81) hx hb dX6_filledDrawn_81 rfl (lv_at hl 0 rfl) ?_
      refine g6_31 (pc := 82) E hI lkX6_38 dX6_filledDrawn_82 ?_
      refine lv_iload (pc := 85) hx hb dX6_filledDrawn_85 (lv_at hl 2 rfl) ?_
      have g7 := hf.1
      have hf := hf.2
      refine a6_31 (pc := 87) E hI g7 dX6_filledDrawn_87 ?_
      have g8 := hf.1
      have hf := hf.2
      refine s6_9 (pc := 88) E hI g8 dX6_filledDrawn_88 (fun H locs σ9 eσ9 hI => ?_)
      have hf := hf σ9 eσ9
      obtain ⟨x10, ex10⟩ : ∃ y : Int32, y = a5 + 1 := ⟨_, rfl⟩
      have hf := hf x10 ex10
      refine lv_iinc (v := x10) (lv' := [(5, .int x10), (0, .ref (ad 16 99)), (4, .int a4)]) (pc := 89) hx hb dX6_filledDrawn_89 hl (k := 2) rfl (by rw [ex10]; rfl) (by decide) rfl (fun ls hl => ?_)
      refine lv_goto (tgt := 68) (pc := 92) hx hb dX6_filledDrawn_92 (by decide) ?_
      exact ih hf hI (lv_sub hl [1, 2, 0] rfl)
def wX6_filledDrawn_l5s (ih : Int32 → Int32 → Int32 → St → Prop) (a2 : Int32) (a3 : Int32) (a4 : Int32) (σ : St) (Q : Int32 → St → Prop) : Prop := ((64 ≤ a4 → wX6_filledBehind a2 σ (fun r3 σ2 => wX6_bitsOf r3 σ2 (fun r5 σ4 => ∃ n11 : Nat, wX6_filledDrawn_l68 n11 r5 0 σ4 Q))) ∧ (¬ 64 ≤ a4 → vp_in a4 64 ∧ vp_in a4 64 ∧ ∀ σ14 : St, σ14 = sA σ 16 31 a4.toNatClampNeg (gA σ 16 9 a4.toNatClampNeg) → ∀ x15 : Int32, x15 = ((a3 * 1103515245) + 12345) → vp_in a4 64 ∧ ∀ σ17 : St, σ17 = sA σ14 16 9 a4.toNatClampNeg (irm (iusr x15 9) 4) → ∀ x18 : Int32, x18 = a4 + 1 → (ih a2 x15 x18 σ17)))
def wX6_filledDrawn_l5 (n : Nat) : Int32 → Int32 → Int32 → St → (Int32 → St → Prop) → Prop := @Nat.rec (fun _ => Int32 → Int32 → Int32 → St → (Int32 → St → Prop) → Prop) (fun _ _ _ _ _ => False) (fun _ ih a2 a3 a4 σ Q => wX6_filledDrawn_l5s (fun a2 a3 a4 σ => ih a2 a3 a4 σ Q) a2 a3 a4 σ Q) n
set_option maxRecDepth 100000 in
set_option maxHeartbeats 4000000 in
theorem bX6_filledDrawn_5 {p : Program} {l : Launch} {e : Env} {s : State} {m : MethodId} {args : Array Value} {below : List Frame} {meth : Method} {c : Code} {D : va_G} {F : (Nat → Prop) → State → Prop} {A : Nat → Prop} {ad : Nat → Nat → Nat} {cy : Nat → ClassId} {Rr : va_W} {Q : Int32 → St → Prop} (hF : Stab F) (E : CallFix p m c cX6_filledDrawn 6 s args TB RX6) (hr : meth.sig.returnType = some .int) (hlk : meth.locks = false) : ∀ (n : Nat) {a2 : Int32} {a3 : Int32} {a4 : Int32} {σ : St} {H : Heap} {locs : List Loc} {ls : Array Slot}, wX6_filledDrawn_l5 n a2 a3 a4 σ Q → In (D, tysM cy, F) (LM ad cy Rr σ) A s H locs → lv_has ls 6 [(0, .ref (ad 16 99)), (2, .int a2), (3, .int a3), (4, .int a4)] → W p l e (rmD 48) s m args below meth c H locs 0 0 (PI below args s (D, tysM cy, F) A (LM ad cy Rr) Q) (F0 m 5 ls []) := by
  have hx := E.1
  have hb := E.2.1
  intro n
  induction n with
  | zero => intro a2 a3 a4 σ H locs ls hf hI hl; exact False.elim hf
  | succ n ih =>
    intro a2 a3 a4 σ H locs ls hf hI hl
    have hf : wX6_filledDrawn_l5s (fun a2 a3 a4 σ => wX6_filledDrawn_l5 n a2 a3 a4 σ Q) a2 a3 a4 σ Q := hf
    unfold wX6_filledDrawn_l5s at hf
    refine lv_iload (pc := 5) hx hb dX6_filledDrawn_5 (lv_at hl 3 rfl) ?_
    refine lv_bipush (v := 64) (pc := 7) hx hb dX6_filledDrawn_7 rfl ?_
    refine lv_icmp_ge (tgt := 55) (pc := 9) hx hb dX6_filledDrawn_9 (by decide) (fun c1 => ?_) (fun c1 => ?_)
    · have hf := hf.1 c1
      refine lv_aload_n (pc := 55) hx hb dX6_filledDrawn_55 rfl (lv_at hl 0 rfl) ?_
      refine lv_iload_n (pc := 56) hx hb dX6_filledDrawn_56 rfl (lv_at hl 1 rfl) ?_
      refine callVJ (G := (D, tysM cy, F)) (L := LM ad cy Rr) (pc := 57) (As := [.int a2]) (rest := []) hF E cs0 hl hI (tX6_filledBehind hF hf) mwX6_396 (fitD (by decide)) (at6) rfl rfl rfl rfl (Nat.le_of_ble_eq_true rfl) dX6_filledDrawn_57 (fun r3 σ2 H locs hf hI => ?_)
      refine callSI (G := (D, tysM cy, F)) (L := LM ad cy Rr) (pc := 60) (As := [.long r3]) (rest := []) hF E cs0 hl hI (tX6_bitsOf hF hf) mwX6_352 (fitD (by decide)) rfl rfl (Nat.le_of_ble_eq_true rfl) dX6_filledDrawn_60 (fun r5 σ4 H locs hf hI => ?_)
      refine lv_istore (lv' := [(4, .int r5), (0, .ref (ad 16 99)), (2, .int a2), (3, .int a3)]) (pc := 63) hx hb dX6_filledDrawn_63 hl (by decide) rfl (fun ls hl => ?_)
      refine lv_iconst (v := 0) (pc := 65) hx hb dX6_filledDrawn_65 rfl ?_
      refine lv_istore (lv' := [(5, .int 0), (4, .int r5), (0, .ref (ad 16 99)), (2, .int a2), (3, .int a3)]) (pc := 66) hx hb dX6_filledDrawn_66 hl (by decide) rfl (fun ls hl => ?_)
      obtain ⟨n11, hf⟩ := hf
      exact bX6_filledDrawn_68 hF E hr hlk n11 hf hI (lv_sub hl [2, 1, 0] rfl)
    · have hf := hf.2 c1
      refine lv_aload_n (pc := 12) hx hb dX6_filledDrawn_12 rfl (lv_at hl 0 rfl) ?_
      refine g6_31 (pc := 13) E hI lkX6_38 dX6_filledDrawn_13 ?_
      refine lv_iload (pc := 16) hx hb dX6_filledDrawn_16 (lv_at hl 3 rfl) ?_
      refine lv_aload_n (pc := 18) hx hb dX6_filledDrawn_18 rfl (lv_at hl 0 rfl) ?_
      refine g6_9 (pc := 19) E hI lkX6_23 dX6_filledDrawn_19 ?_
      refine lv_iload (pc := 22) hx hb dX6_filledDrawn_22 (lv_at hl 3 rfl) ?_
      have g12 := hf.1
      have hf := hf.2
      refine a6_9 (pc := 24) E hI g12 dX6_filledDrawn_24 ?_
      have g13 := hf.1
      have hf := hf.2
      refine s6_31 (pc := 25) E hI g13 dX6_filledDrawn_25 (fun H locs σ14 eσ14 hI => ?_)
      have hf := hf σ14 eσ14
      refine lv_iload_n (pc := 26) hx hb dX6_filledDrawn_26 rfl (lv_at hl 2 rfl) ?_
      refine lv_ldcw (pc := 27) E.1 E.2.1 E.2.2.2.1 (E.2.2.2.2 _ kcX6_419) dX6_filledDrawn_27 ?_
      refine lv_imul (pc := 30) hx hb dX6_filledDrawn_30 ?_
      refine lv_sipush (v := 12345) (pc := 31) hx hb dX6_filledDrawn_31 rfl ?_
      refine lv_iadd (pc := 34) hx hb dX6_filledDrawn_34 ?_
      refine lv_topi (fun x15 ex15 => ?_)
      have hf := hf x15 ex15
      refine lv_istore_n (lv' := [(3, .int x15), (0, .ref (ad 16 99)), (2, .int a2), (4, .int a4)]) (pc := 35) hx hb dX6_filledDrawn_35 rfl hl (by decide) rfl (fun ls hl => ?_)
      refine lv_aload_n (pc := 36) hx hb dX6_filledDrawn_36 rfl (lv_at hl 1 rfl) ?_
      refine g6_9 (pc := 37) E hI lkX6_23 dX6_filledDrawn_37 ?_
      refine lv_iload (pc := 40) hx hb dX6_filledDrawn_40 (lv_at hl 3 rfl) ?_
      refine lv_iload_n (pc := 42) hx hb dX6_filledDrawn_42 rfl (lv_at hl 0 rfl) ?_
      refine lv_bipush (v := 9) (pc := 43) hx hb dX6_filledDrawn_43 rfl ?_
      refine lv_iushr (v := (iusr x15 9)) (pc := 45) hx hb dX6_filledDrawn_45 rfl ?_
      refine lv_iconst (v := 4) (pc := 46) hx hb dX6_filledDrawn_46 rfl ?_
      refine lv_irem1 (pc := 47) hx hb dX6_filledDrawn_47 (by decide) ?_
      have g16 := hf.1
      have hf := hf.2
      refine s6_9 (pc := 48) E hI g16 dX6_filledDrawn_48 (fun H locs σ17 eσ17 hI => ?_)
      have hf := hf σ17 eσ17
      obtain ⟨x18, ex18⟩ : ∃ y : Int32, y = a4 + 1 := ⟨_, rfl⟩
      have hf := hf x18 ex18
      refine lv_iinc (v := x18) (lv' := [(4, .int x18), (3, .int x15), (0, .ref (ad 16 99)), (2, .int a2)]) (pc := 49) hx hb dX6_filledDrawn_49 hl (k := 3) rfl (by rw [ex18]; rfl) (by decide) rfl (fun ls hl => ?_)
      refine lv_goto (tgt := 5) (pc := 52) hx hb dX6_filledDrawn_52 (by decide) ?_
      exact ih hf hI (lv_sub hl [2, 3, 1, 0] rfl)
def wX6_filledDrawn (p1 : Int32) (p2 : Int32) (σ : St) (Q : Int32 → St → Prop) : Prop := ∃ n19 : Nat, wX6_filledDrawn_l5 n19 p2 p1 0 σ Q
set_option maxRecDepth 100000 in
set_option maxHeartbeats 4000000 in
theorem bX6_filledDrawn {p : Program} {l : Launch} {e : Env} {s : State} {m : MethodId} {args : Array Value} {below : List Frame} {meth : Method} {c : Code} {H : Heap} {locs : List Loc} {ls : Array Slot} {D : va_G} {F : (Nat → Prop) → State → Prop} {A : Nat → Prop} {σ : St} {ad : Nat → Nat → Nat} {cy : Nat → ClassId} {Rr : va_W} {Q : Int32 → St → Prop} {p1 : Int32} {p2 : Int32} (hF : Stab F) (E : CallFix p m c cX6_filledDrawn 6 s args TB RX6) (hr : meth.sig.returnType = some .int) (hlk : meth.locks = false) (hf : wX6_filledDrawn p1 p2 σ Q) (hI : In (D, tysM cy, F) (LM ad cy Rr σ) A s H locs) (hl : lv_has ls 6 [(0, .ref (ad 16 99)), (1, .int p1), (2, .int p2)]) : W p l e (rmD 48) s m args below meth c H locs 0 0 (PI below args s (D, tysM cy, F) A (LM ad cy Rr) Q) (F0 m 0 ls []) := by
  have hx := E.1
  have hb := E.2.1
  unfold wX6_filledDrawn at hf
  refine lv_iload_n (pc := 0) hx hb dX6_filledDrawn_0 rfl (lv_at hl 1 rfl) ?_
  refine lv_istore_n (lv' := [(3, .int p1), (0, .ref (ad 16 99)), (1, .int p1), (2, .int p2)]) (pc := 1) hx hb dX6_filledDrawn_1 rfl hl (by decide) rfl (fun ls hl => ?_)
  refine lv_iconst (v := 0) (pc := 2) hx hb dX6_filledDrawn_2 rfl ?_
  refine lv_istore (lv' := [(4, .int 0), (3, .int p1), (0, .ref (ad 16 99)), (1, .int p1), (2, .int p2)]) (pc := 3) hx hb dX6_filledDrawn_3 hl (by decide) rfl (fun ls hl => ?_)
  obtain ⟨n19, hf⟩ := hf
  exact bX6_filledDrawn_5 hF E hr hlk n19 hf hI (lv_sub hl [2, 4, 1, 0] rfl)
theorem tX6_filledDrawn {l : Launch} {D : va_G} {F : (Nat → Prop) → State → Prop} {σ : St} {ad : Nat → Nat → Nat} {cy : Nat → ClassId} {Rr : va_W} {Q : Int32 → St → Prop} {p1 : Int32} {p2 : Int32} (hF : Stab F) (hf : wX6_filledDrawn p1 p2 σ Q) : CtI l yX6_filledDrawn cX6_filledDrawn 6 .int 48 (D, tysM cy, F) (LM ad cy Rr) [.ref (ad 16 99), .int p1, .int p2] σ Q := mkI (by decide) (Nat.le_of_ble_eq_true rfl) (fun p e s m below meth c A E hr hlk hI ls hl => bX6_filledDrawn hF E hr hlk hf hI hl)

def wX6_drawn (p1 : Int32) (p2 : Int32) (σ : St) (Q : Int32 → St → Prop) : Prop := wX6_in (p2.toInt64) 0 40 σ (fun r2 σ1 => ((r2 = 0 → Q (-2) σ1) ∧ (¬ r2 = 0 → wX6_filledDrawn p1 p2 σ1 (fun r5 σ4 => Q r5 σ4))))
set_option maxRecDepth 100000 in
set_option maxHeartbeats 4000000 in
theorem bX6_drawn {p : Program} {l : Launch} {e : Env} {s : State} {m : MethodId} {args : Array Value} {below : List Frame} {meth : Method} {c : Code} {H : Heap} {locs : List Loc} {ls : Array Slot} {D : va_G} {F : (Nat → Prop) → State → Prop} {A : Nat → Prop} {σ : St} {ad : Nat → Nat → Nat} {cy : Nat → ClassId} {Rr : va_W} {Q : Int32 → St → Prop} {p1 : Int32} {p2 : Int32} (hF : Stab F) (E : CallFix p m c cX6_drawn 3 s args TB RX6) (hr : meth.sig.returnType = some .int) (hlk : meth.locks = false) (hf : wX6_drawn p1 p2 σ Q) (hI : In (D, tysM cy, F) (LM ad cy Rr σ) A s H locs) (hl : lv_has ls 3 [(0, .ref (ad 16 99)), (1, .int p1), (2, .int p2)]) : W p l e (rmD 49) s m args below meth c H locs 0 0 (PI below args s (D, tysM cy, F) A (LM ad cy Rr) Q) (F0 m 0 ls []) := by
  have hx := E.1
  have hb := E.2.1
  unfold wX6_drawn at hf
  refine lv_iload_n (pc := 0) hx hb dX6_drawn_0 rfl (lv_at hl 2 rfl) ?_
  refine lv_i2l (v := (p2.toInt64)) (pc := 1) hx hb dX6_drawn_1 rfl ?_
  refine lv_lconst (v := 0) (pc := 2) hx hb dX6_drawn_2 rfl ?_
  refine lv_ldc2 (pc := 3) E.1 E.2.1 E.2.2.2.1 (E.2.2.2.2 _ kcX6_394) dX6_drawn_3 ?_
  refine callSI (G := (D, tysM cy, F)) (L := LM ad cy Rr) (pc := 6) (As := [.long (p2.toInt64), .long 0, .long 40]) (rest := []) hF E cs0 hl hI (tX6_in hF hf) mwX6_76 (fitD (by decide)) rfl rfl (Nat.le_of_ble_eq_true rfl) dX6_drawn_6 (fun r2 σ1 H locs hf hI => ?_)
  refine lv_if_eq (tgt := 21) (pc := 9) hx hb dX6_drawn_9 (by decide) (fun c3 => ?_) (fun c3 => ?_)
  · have hf := hf.1 c3
    refine lv_bipush (v := (-2)) (pc := 21) hx hb dX6_drawn_21 rfl ?_
    exact rI (pc := 23) E hr hlk hI hf dX6_drawn_23
  · have hf := hf.2 c3
    refine lv_aload_n (pc := 12) hx hb dX6_drawn_12 rfl (lv_at hl 0 rfl) ?_
    refine lv_iload_n (pc := 13) hx hb dX6_drawn_13 rfl (lv_at hl 1 rfl) ?_
    refine lv_iload_n (pc := 14) hx hb dX6_drawn_14 rfl (lv_at hl 2 rfl) ?_
    refine callVI (G := (D, tysM cy, F)) (L := LM ad cy Rr) (pc := 15) (As := [.int p1, .int p2]) (rest := []) hF E cs0 hl hI (tX6_filledDrawn hF hf) mwX6_420 (fitD (by decide)) (at6) rfl rfl rfl rfl (Nat.le_of_ble_eq_true rfl) dX6_drawn_15 (fun r5 σ4 H locs hf hI => ?_)
    refine lv_goto (tgt := 23) (pc := 18) hx hb dX6_drawn_18 (by decide) ?_
    exact rI (pc := 23) E hr hlk hI hf dX6_drawn_23
theorem tX6_drawn {l : Launch} {D : va_G} {F : (Nat → Prop) → State → Prop} {σ : St} {ad : Nat → Nat → Nat} {cy : Nat → ClassId} {Rr : va_W} {Q : Int32 → St → Prop} {p1 : Int32} {p2 : Int32} (hF : Stab F) (hf : wX6_drawn p1 p2 σ Q) : CtI l yX6_drawn cX6_drawn 3 .int 49 (D, tysM cy, F) (LM ad cy Rr) [.ref (ad 16 99), .int p1, .int p2] σ Q := mkI (by decide) (Nat.le_of_ble_eq_true rfl) (fun p e s m below meth c A E hr hlk hI ls hl => bX6_drawn hF E hr hlk hf hI hl)

def wX6_chance_j72 (a1 : Int32) (a2 : Int32) (a3 : Int32) (a4 : Int32) (a7 : Int32) (s0 : Int64) (s1 : Int64) (σ : St) (K : Int32 → Int32 → Int32 → Int32 → Int64 → Int32 → St → Prop) (Q : Int64 → St → Prop) : Prop := ∀ x16 : Int64, x16 = (s0 + s1) → ∀ x17 : Int32, x17 = a7 + 1 → (K a1 a2 a3 a4 x16 x17 σ)
set_option maxRecDepth 100000 in
set_option maxHeartbeats 4000000 in
theorem bX6_chance_72 {p : Program} {l : Launch} {e : Env} {s : State} {m : MethodId} {args : Array Value} {below : List Frame} {meth : Method} {c : Code} {H : Heap} {locs : List Loc} {ls : Array Slot} {D : va_G} {F : (Nat → Prop) → State → Prop} {A : Nat → Prop} {σ : St} {ad : Nat → Nat → Nat} {cy : Nat → ClassId} {Rr : va_W} {Q : Int64 → St → Prop} {a1 : Int32} {a2 : Int32} {a3 : Int32} {a4 : Int32} {a7 : Int32} {s0 : Int64} {s1 : Int64} {K : Int32 → Int32 → Int32 → Int32 → Int64 → Int32 → St → Prop} (hF : Stab F) (E : CallFix p m c cX6_chance 8 s args TB RX6) (hr : meth.sig.returnType = some .long) (hlk : meth.locks = false) (hK : ∀ (a1 : Int32) (a2 : Int32) (a3 : Int32) (a4 : Int32) (a5 : Int64) (a7 : Int32) (σ : St) (H : Heap) (locs : List Loc) (ls : Array Slot), K a1 a2 a3 a4 a5 a7 σ → In (D, tysM cy, F) (LM ad cy Rr σ) A s H locs → lv_has ls 8 [(0, .ref (ad 16 99)), (1, .int a1), (2, .int a2), (3, .int a3), (4, .int a4), (5, .long a5), (7, .int a7)] → W p l e (rmD 49) s m args below meth c H locs 0 0 (PJ below args s (D, tysM cy, F) A (LM ad cy Rr) Q) (F0 m 45 ls [])) (hf : wX6_chance_j72 a1 a2 a3 a4 a7 s0 s1 σ K Q) (hI : In (D, tysM cy, F) (LM ad cy Rr σ) A s H locs) (hl : lv_has ls 8 [(0, .ref (ad 16 99)), (1, .int a1), (2, .int a2), (3, .int a3), (4, .int a4), (7, .int a7)]) : W p l e (rmD 49) s m args below meth c H locs 0 0 (PJ below args s (D, tysM cy, F) A (LM ad cy Rr) Q) (F0 m 72 ls [.long s1, .long s0]) := by
  have hx := E.1
  have hb := E.2.1
  unfold wX6_chance_j72 at hf
  refine lv_ladd (pc := 72) hx hb dX6_chance_72 ?_
  refine lv_topl (fun x16 ex16 => ?_)
  have hf := hf x16 ex16
  refine lv_lstore (lv' := [(5, .long x16), (0, .ref (ad 16 99)), (1, .int a1), (2, .int a2), (3, .int a3), (4, .int a4), (7, .int a7)]) (pc := 73) hx hb dX6_chance_73 hl (by decide) rfl (fun ls hl => ?_)
  obtain ⟨x17, ex17⟩ : ∃ y : Int32, y = a7 + 1 := ⟨_, rfl⟩
  have hf := hf x17 ex17
  refine lv_iinc (v := x17) (lv' := [(7, .int x17), (5, .long x16), (0, .ref (ad 16 99)), (1, .int a1), (2, .int a2), (3, .int a3), (4, .int a4)]) (pc := 75) hx hb dX6_chance_75 hl (k := 6) rfl (by rw [ex17]; rfl) (by decide) rfl (fun ls hl => ?_)
  refine lv_goto (tgt := 45) (pc := 78) hx hb dX6_chance_78 (by decide) ?_
  exact hK _ _ _ _ _ _ _ _ _ _ hf hI (lv_sub hl [2, 3, 4, 5, 6, 1, 0] rfl)
def wX6_chance_l45s (ih : Int32 → Int32 → Int32 → Int32 → Int64 → Int32 → St → Prop) (a1 : Int32) (a2 : Int32) (a3 : Int32) (a4 : Int32) (a5 : Int64) (a7 : Int32) (σ : St) (Q : Int64 → St → Prop) : Prop := ((a2 ≤ a7 → wX6_lowest a5 (a2.toInt64) a4 σ (fun r12 σ11 => Q r12 σ11)) ∧ (¬ a2 ≤ a7 → wX6_filledDrawn (a1 + a7) 12 σ (fun r14 σ13 => ((r14 < a3 → (wX6_chance_j72 a1 a2 a3 a4 a7 a5 0 σ13 ih Q)) ∧ (¬ r14 < a3 → (wX6_chance_j72 a1 a2 a3 a4 a7 a5 1 σ13 ih Q))))))
def wX6_chance_l45 (n : Nat) : Int32 → Int32 → Int32 → Int32 → Int64 → Int32 → St → (Int64 → St → Prop) → Prop := @Nat.rec (fun _ => Int32 → Int32 → Int32 → Int32 → Int64 → Int32 → St → (Int64 → St → Prop) → Prop) (fun _ _ _ _ _ _ _ _ => False) (fun _ ih a1 a2 a3 a4 a5 a7 σ Q => wX6_chance_l45s (fun a1 a2 a3 a4 a5 a7 σ => ih a1 a2 a3 a4 a5 a7 σ Q) a1 a2 a3 a4 a5 a7 σ Q) n
set_option maxRecDepth 100000 in
set_option maxHeartbeats 4000000 in
theorem bX6_chance_45 {p : Program} {l : Launch} {e : Env} {s : State} {m : MethodId} {args : Array Value} {below : List Frame} {meth : Method} {c : Code} {D : va_G} {F : (Nat → Prop) → State → Prop} {A : Nat → Prop} {ad : Nat → Nat → Nat} {cy : Nat → ClassId} {Rr : va_W} {Q : Int64 → St → Prop} (hF : Stab F) (E : CallFix p m c cX6_chance 8 s args TB RX6) (hr : meth.sig.returnType = some .long) (hlk : meth.locks = false) : ∀ (n : Nat) {a1 : Int32} {a2 : Int32} {a3 : Int32} {a4 : Int32} {a5 : Int64} {a7 : Int32} {σ : St} {H : Heap} {locs : List Loc} {ls : Array Slot}, wX6_chance_l45 n a1 a2 a3 a4 a5 a7 σ Q → In (D, tysM cy, F) (LM ad cy Rr σ) A s H locs → lv_has ls 8 [(0, .ref (ad 16 99)), (1, .int a1), (2, .int a2), (3, .int a3), (4, .int a4), (5, .long a5), (7, .int a7)] → W p l e (rmD 49) s m args below meth c H locs 0 0 (PJ below args s (D, tysM cy, F) A (LM ad cy Rr) Q) (F0 m 45 ls []) := by
  have hx := E.1
  have hb := E.2.1
  intro n
  induction n with
  | zero => intro a1 a2 a3 a4 a5 a7 σ H locs ls hf hI hl; exact False.elim hf
  | succ n ih =>
    intro a1 a2 a3 a4 a5 a7 σ H locs ls hf hI hl
    have hf : wX6_chance_l45s (fun a1 a2 a3 a4 a5 a7 σ => wX6_chance_l45 n a1 a2 a3 a4 a5 a7 σ Q) a1 a2 a3 a4 a5 a7 σ Q := hf
    unfold wX6_chance_l45s at hf
    refine lv_iload (pc := 45) hx hb dX6_chance_45 (lv_at hl 6 rfl) ?_
    refine lv_iload_n (pc := 47) hx hb dX6_chance_47 rfl (lv_at hl 2 rfl) ?_
    refine lv_icmp_ge (tgt := 81) (pc := 48) hx hb dX6_chance_48 (by decide) (fun c10 => ?_) (fun c10 => ?_)
    · have hf := hf.1 c10
      refine lv_lload (pc := 81) hx hb dX6_chance_81 (lv_at hl 5 rfl) ?_
      refine lv_iload_n (pc := 83) hx hb dX6_chance_83 rfl (lv_at hl 2 rfl) ?_
      refine lv_i2l (v := (a2.toInt64)) (pc := 84) hx hb dX6_chance_84 rfl ?_
      refine lv_iload (pc := 85) hx hb dX6_chance_85 (lv_at hl 4 rfl) ?_
      refine callSJ (G := (D, tysM cy, F)) (L := LM ad cy Rr) (pc := 87) (As := [.long a5, .long (a2.toInt64), .int a4]) (rest := []) hF E cs0 hl hI (tX6_lowest hF hf) mwX6_404 (fitD (by decide)) rfl rfl (Nat.le_of_ble_eq_true rfl) dX6_chance_87 (fun r12 σ11 H locs hf hI => ?_)
      exact rJ (pc := 90) E hr hlk hI hf dX6_chance_90
    · have hf := hf.2 c10
      refine lv_lload (pc := 51) hx hb dX6_chance_51 (lv_at hl 5 rfl) ?_
      refine lv_aload_n (pc := 53) hx hb dX6_chance_53 rfl (lv_at hl 0 rfl) ?_
      refine lv_iload_n (pc := 54) hx hb dX6_chance_54 rfl (lv_at hl 1 rfl) ?_
      refine lv_iload (pc := 55) hx hb dX6_chance_55 (lv_at hl 6 rfl) ?_
      refine lv_iadd (pc := 57) hx hb dX6_chance_57 ?_
      refine lv_bipush (v := 12) (pc := 58) hx hb dX6_chance_58 rfl ?_
      refine callVI (G := (D, tysM cy, F)) (L := LM ad cy Rr) (pc := 60) (As := [.int (a1 + a7), .int 12]) (rest := [.long a5]) hF E cs0 hl hI (tX6_filledDrawn hF hf) mwX6_420 (fitD (by decide)) (at6) rfl rfl rfl rfl (Nat.le_of_ble_eq_true rfl) dX6_chance_60 (fun r14 σ13 H locs hf hI => ?_)
      refine lv_iload_n (pc := 63) hx hb dX6_chance_63 rfl (lv_at hl 3 rfl) ?_
      refine lv_icmp_lt (tgt := 71) (pc := 64) hx hb dX6_chance_64 (by decide) (fun c15 => ?_) (fun c15 => ?_)
      · have hf := hf.1 c15
        refine lv_lconst (v := 0) (pc := 71) hx hb dX6_chance_71 rfl ?_
        exact bX6_chance_72 hF E hr hlk (fun _ _ _ _ _ _ _ _ _ _ hf hI hl => ih hf hI hl) hf hI (lv_sub hl [0, 1, 2, 3, 4, 6] rfl)
      · have hf := hf.2 c15
        refine lv_lconst (v := 1) (pc := 67) hx hb dX6_chance_67 rfl ?_
        refine lv_goto (tgt := 72) (pc := 68) hx hb dX6_chance_68 (by decide) ?_
        exact bX6_chance_72 hF E hr hlk (fun _ _ _ _ _ _ _ _ _ _ hf hI hl => ih hf hI hl) hf hI (lv_sub hl [0, 1, 2, 3, 4, 6] rfl)
def wX6_chance (p1 : Int32) (p2 : Int32) (p3 : Int32) (p4 : Int32) (σ : St) (Q : Int64 → St → Prop) : Prop := wX6_in (p2.toInt64) 1 20 σ (fun r2 σ1 => ((r2 = 0 → Q (-4611686018427387904) σ1) ∧ (¬ r2 = 0 → wX6_in (p3.toInt64) 0 64 σ1 (fun r5 σ4 => ((r5 = 0 → Q (-4611686018427387904) σ4) ∧ (¬ r5 = 0 → wX6_in (p4.toInt64) 0 1 σ4 (fun r8 σ7 => ((¬ r8 = 0 → ∃ n18 : Nat, wX6_chance_l45 n18 p1 p2 p3 p4 0 0 σ7 Q) ∧ (r8 = 0 → Q (-4611686018427387904) σ7)))))))))
set_option maxRecDepth 100000 in
set_option maxHeartbeats 4000000 in
theorem bX6_chance {p : Program} {l : Launch} {e : Env} {s : State} {m : MethodId} {args : Array Value} {below : List Frame} {meth : Method} {c : Code} {H : Heap} {locs : List Loc} {ls : Array Slot} {D : va_G} {F : (Nat → Prop) → State → Prop} {A : Nat → Prop} {σ : St} {ad : Nat → Nat → Nat} {cy : Nat → ClassId} {Rr : va_W} {Q : Int64 → St → Prop} {p1 : Int32} {p2 : Int32} {p3 : Int32} {p4 : Int32} (hF : Stab F) (E : CallFix p m c cX6_chance 8 s args TB RX6) (hr : meth.sig.returnType = some .long) (hlk : meth.locks = false) (hf : wX6_chance p1 p2 p3 p4 σ Q) (hI : In (D, tysM cy, F) (LM ad cy Rr σ) A s H locs) (hl : lv_has ls 8 [(0, .ref (ad 16 99)), (1, .int p1), (2, .int p2), (3, .int p3), (4, .int p4)]) : W p l e (rmD 49) s m args below meth c H locs 0 0 (PJ below args s (D, tysM cy, F) A (LM ad cy Rr) Q) (F0 m 0 ls []) := by
  have hx := E.1
  have hb := E.2.1
  unfold wX6_chance at hf
  refine lv_iload_n (pc := 0) hx hb dX6_chance_0 rfl (lv_at hl 2 rfl) ?_
  refine lv_i2l (v := (p2.toInt64)) (pc := 1) hx hb dX6_chance_1 rfl ?_
  refine lv_lconst (v := 1) (pc := 2) hx hb dX6_chance_2 rfl ?_
  refine lv_ldc2 (pc := 3) E.1 E.2.1 E.2.2.2.1 (E.2.2.2.2 _ kcX6_399) dX6_chance_3 ?_
  refine callSI (G := (D, tysM cy, F)) (L := LM ad cy Rr) (pc := 6) (As := [.long (p2.toInt64), .long 1, .long 20]) (rest := []) hF E cs0 hl hI (tX6_in hF hf) mwX6_76 (fitD (by decide)) rfl rfl (Nat.le_of_ble_eq_true rfl) dX6_chance_6 (fun r2 σ1 H locs hf hI => ?_)
  refine lv_if_eq (tgt := 35) (pc := 9) hx hb dX6_chance_9 (by decide) (fun c3 => ?_) (fun c3 => ?_)
  · have hf := hf.1 c3
    refine lv_ldc2 (pc := 35) E.1 E.2.1 E.2.2.2.1 (E.2.2.2.2 _ kcX6_139) dX6_chance_35 ?_
    exact rJ (pc := 38) E hr hlk hI hf dX6_chance_38
  · have hf := hf.2 c3
    refine lv_iload_n (pc := 12) hx hb dX6_chance_12 rfl (lv_at hl 3 rfl) ?_
    refine lv_i2l (v := (p3.toInt64)) (pc := 13) hx hb dX6_chance_13 rfl ?_
    refine lv_lconst (v := 0) (pc := 14) hx hb dX6_chance_14 rfl ?_
    refine lv_ldc2 (pc := 15) E.1 E.2.1 E.2.2.2.1 (E.2.2.2.2 _ kcX6_423) dX6_chance_15 ?_
    refine callSI (G := (D, tysM cy, F)) (L := LM ad cy Rr) (pc := 18) (As := [.long (p3.toInt64), .long 0, .long 64]) (rest := []) hF E cs0 hl hI (tX6_in hF hf) mwX6_76 (fitD (by decide)) rfl rfl (Nat.le_of_ble_eq_true rfl) dX6_chance_18 (fun r5 σ4 H locs hf hI => ?_)
    refine lv_if_eq (tgt := 35) (pc := 21) hx hb dX6_chance_21 (by decide) (fun c6 => ?_) (fun c6 => ?_)
    · have hf := hf.1 c6
      refine lv_ldc2 (pc := 35) E.1 E.2.1 E.2.2.2.1 (E.2.2.2.2 _ kcX6_139) dX6_chance_35 ?_
      exact rJ (pc := 38) E hr hlk hI hf dX6_chance_38
    · have hf := hf.2 c6
      refine lv_iload (pc := 24) hx hb dX6_chance_24 (lv_at hl 4 rfl) ?_
      refine lv_i2l (v := (p4.toInt64)) (pc := 26) hx hb dX6_chance_26 rfl ?_
      refine lv_lconst (v := 0) (pc := 27) hx hb dX6_chance_27 rfl ?_
      refine lv_lconst (v := 1) (pc := 28) hx hb dX6_chance_28 rfl ?_
      refine callSI (G := (D, tysM cy, F)) (L := LM ad cy Rr) (pc := 29) (As := [.long (p4.toInt64), .long 0, .long 1]) (rest := []) hF E cs0 hl hI (tX6_in hF hf) mwX6_76 (fitD (by decide)) rfl rfl (Nat.le_of_ble_eq_true rfl) dX6_chance_29 (fun r8 σ7 H locs hf hI => ?_)
      refine lv_if_ne (tgt := 39) (pc := 32) hx hb dX6_chance_32 (by decide) (fun c9 => ?_) (fun c9 => ?_)
      · have hf := hf.1 c9
        refine lv_lconst (v := 0) (pc := 39) hx hb dX6_chance_39 rfl ?_
        refine lv_lstore (lv' := [(5, .long 0), (0, .ref (ad 16 99)), (1, .int p1), (2, .int p2), (3, .int p3), (4, .int p4)]) (pc := 40) hx hb dX6_chance_40 hl (by decide) rfl (fun ls hl => ?_)
        refine lv_iconst (v := 0) (pc := 42) hx hb dX6_chance_42 rfl ?_
        refine lv_istore (lv' := [(7, .int 0), (5, .long 0), (0, .ref (ad 16 99)), (1, .int p1), (2, .int p2), (3, .int p3), (4, .int p4)]) (pc := 43) hx hb dX6_chance_43 hl (by decide) rfl (fun ls hl => ?_)
        obtain ⟨n18, hf⟩ := hf
        exact bX6_chance_45 hF E hr hlk n18 hf hI (lv_sub hl [2, 3, 4, 5, 6, 1, 0] rfl)
      · have hf := hf.2 c9
        refine lv_ldc2 (pc := 35) E.1 E.2.1 E.2.2.2.1 (E.2.2.2.2 _ kcX6_139) dX6_chance_35 ?_
        exact rJ (pc := 38) E hr hlk hI hf dX6_chance_38
theorem tX6_chance {l : Launch} {D : va_G} {F : (Nat → Prop) → State → Prop} {σ : St} {ad : Nat → Nat → Nat} {cy : Nat → ClassId} {Rr : va_W} {Q : Int64 → St → Prop} {p1 : Int32} {p2 : Int32} {p3 : Int32} {p4 : Int32} (hF : Stab F) (hf : wX6_chance p1 p2 p3 p4 σ Q) : CtJ l yX6_chance cX6_chance 8 49 (D, tysM cy, F) (LM ad cy Rr) [.ref (ad 16 99), .int p1, .int p2, .int p3, .int p4] σ Q := mkJ (by decide) (Nat.le_of_ble_eq_true rfl) (fun p e s m below meth c A E hr hlk hI ls hl => bX6_chance hF E hr hlk hf hI hl)
