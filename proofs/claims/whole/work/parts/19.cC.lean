def wX0_wordAt (p1 : Int32) (σ : St) (Q : Nat → St → Prop) : Prop := ((p1 = 0 → Q 0 σ) ∧ (p1 = 1 → Q 1 σ) ∧ (p1 = 2 → Q 2 σ) ∧ (p1 = 3 → Q 3 σ) ∧ (p1 = 4 → Q 4 σ) ∧ (p1 = 5 → Q 5 σ) ∧ (p1 = 6 → Q 6 σ) ∧ (p1 = 7 → Q 7 σ) ∧ (p1 = 8 → Q 8 σ) ∧ (p1 = 9 → Q 9 σ) ∧ (p1 = 10 → Q 10 σ) ∧ (¬ p1 = 0 → ¬ p1 = 1 → ¬ p1 = 2 → ¬ p1 = 3 → ¬ p1 = 4 → ¬ p1 = 5 → ¬ p1 = 6 → ¬ p1 = 7 → ¬ p1 = 8 → ¬ p1 = 9 → ¬ p1 = 10 → Q 11 σ))
set_option maxRecDepth 100000 in
set_option maxHeartbeats 4000000 in
theorem bX0_wordAt {p : Program} {l : Launch} {e : Env} {s : State} {m : MethodId} {args : Array Value} {below : List Frame} {meth : Method} {c : Code} {H : Heap} {locs : List Loc} {ls : Array Slot} {D : va_G} {z : Nat → Nat} {A : Nat → Prop} {σ : St} {ad : Nat → Nat → Nat} {cy : Nat → ClassId} {Rr : va_W} {Q : Nat → St → Prop} {p1 : Int32} (E : CallFix p m c cX0_wordAt 1 s args TB RX0) (hr : meth.sig.returnType = some (.object "java/lang/String")) (hlk : meth.locks = false) (hf : wX0_wordAt p1 σ Q) (hI : In (D, tysC cy, SF z) (LC ad cy Rr σ) A s H locs) (hl : lv_has ls 1 [(0, .int p1)]) : W p l e (rmD 0) s m args below meth c H locs 0 0 (PS z below args s (D, tysC cy, SF z) A (LC ad cy Rr) Q) (F0 m 0 ls []) := by
  have hx := E.1
  have hb := E.2.1
  unfold wX0_wordAt at hf
  refine lv_iload_n (pc := 0) hx hb dX0_wordAt_0 rfl (lv_at hl 0 rfl) ?_
  by_cases c1 : p1 = 0
  · refine lv_tableIn (tgt := 60) (pc := 1) hx hb dX0_wordAt_1 (by rw [c1]; decide) (by rw [c1]; decide) (by rw [c1]; rfl) (by decide) ?_
    have hf := hf.1 c1
    refine rLdS (i := 0) (pc := 60) E hI (by decide) rfl rfl dX0_wordAt_60 ?_
    exact rS (pc := 62) E hr hlk hI (by decide) hf dX0_wordAt_62
  have hf := hf.2
  by_cases c2 : p1 = 1
  · refine lv_tableIn (tgt := 63) (pc := 1) hx hb dX0_wordAt_1 (by rw [c2]; decide) (by rw [c2]; decide) (by rw [c2]; rfl) (by decide) ?_
    have hf := hf.1 c2
    refine rLdS (i := 1) (pc := 63) E hI (by decide) rfl rfl dX0_wordAt_63 ?_
    exact rS (pc := 65) E hr hlk hI (by decide) hf dX0_wordAt_65
  have hf := hf.2
  by_cases c3 : p1 = 2
  · refine lv_tableIn (tgt := 66) (pc := 1) hx hb dX0_wordAt_1 (by rw [c3]; decide) (by rw [c3]; decide) (by rw [c3]; rfl) (by decide) ?_
    have hf := hf.1 c3
    refine rLdS (i := 2) (pc := 66) E hI (by decide) rfl rfl dX0_wordAt_66 ?_
    exact rS (pc := 68) E hr hlk hI (by decide) hf dX0_wordAt_68
  have hf := hf.2
  by_cases c4 : p1 = 3
  · refine lv_tableIn (tgt := 69) (pc := 1) hx hb dX0_wordAt_1 (by rw [c4]; decide) (by rw [c4]; decide) (by rw [c4]; rfl) (by decide) ?_
    have hf := hf.1 c4
    refine rLdS (i := 3) (pc := 69) E hI (by decide) rfl rfl dX0_wordAt_69 ?_
    exact rS (pc := 71) E hr hlk hI (by decide) hf dX0_wordAt_71
  have hf := hf.2
  by_cases c5 : p1 = 4
  · refine lv_tableIn (tgt := 72) (pc := 1) hx hb dX0_wordAt_1 (by rw [c5]; decide) (by rw [c5]; decide) (by rw [c5]; rfl) (by decide) ?_
    have hf := hf.1 c5
    refine rLdS (i := 4) (pc := 72) E hI (by decide) rfl rfl dX0_wordAt_72 ?_
    exact rS (pc := 74) E hr hlk hI (by decide) hf dX0_wordAt_74
  have hf := hf.2
  by_cases c6 : p1 = 5
  · refine lv_tableIn (tgt := 75) (pc := 1) hx hb dX0_wordAt_1 (by rw [c6]; decide) (by rw [c6]; decide) (by rw [c6]; rfl) (by decide) ?_
    have hf := hf.1 c6
    refine rLdS (i := 5) (pc := 75) E hI (by decide) rfl rfl dX0_wordAt_75 ?_
    exact rS (pc := 77) E hr hlk hI (by decide) hf dX0_wordAt_77
  have hf := hf.2
  by_cases c7 : p1 = 6
  · refine lv_tableIn (tgt := 78) (pc := 1) hx hb dX0_wordAt_1 (by rw [c7]; decide) (by rw [c7]; decide) (by rw [c7]; rfl) (by decide) ?_
    have hf := hf.1 c7
    refine rLdS (i := 6) (pc := 78) E hI (by decide) rfl rfl dX0_wordAt_78 ?_
    exact rS (pc := 80) E hr hlk hI (by decide) hf dX0_wordAt_80
  have hf := hf.2
  by_cases c8 : p1 = 7
  · refine lv_tableIn (tgt := 81) (pc := 1) hx hb dX0_wordAt_1 (by rw [c8]; decide) (by rw [c8]; decide) (by rw [c8]; rfl) (by decide) ?_
    have hf := hf.1 c8
    refine rLdS (i := 7) (pc := 81) E hI (by decide) rfl rfl dX0_wordAt_81 ?_
    exact rS (pc := 83) E hr hlk hI (by decide) hf dX0_wordAt_83
  have hf := hf.2
  by_cases c9 : p1 = 8
  · refine lv_tableIn (tgt := 84) (pc := 1) hx hb dX0_wordAt_1 (by rw [c9]; decide) (by rw [c9]; decide) (by rw [c9]; rfl) (by decide) ?_
    have hf := hf.1 c9
    refine rLdS (i := 8) (pc := 84) E hI (by decide) rfl rfl dX0_wordAt_84 ?_
    exact rS (pc := 86) E hr hlk hI (by decide) hf dX0_wordAt_86
  have hf := hf.2
  by_cases c10 : p1 = 9
  · refine lv_tableIn (tgt := 87) (pc := 1) hx hb dX0_wordAt_1 (by rw [c10]; decide) (by rw [c10]; decide) (by rw [c10]; rfl) (by decide) ?_
    have hf := hf.1 c10
    refine rLdS (i := 9) (pc := 87) E hI (by decide) rfl rfl dX0_wordAt_87 ?_
    exact rS (pc := 89) E hr hlk hI (by decide) hf dX0_wordAt_89
  have hf := hf.2
  by_cases c11 : p1 = 10
  · refine lv_tableIn (tgt := 90) (pc := 1) hx hb dX0_wordAt_1 (by rw [c11]; decide) (by rw [c11]; decide) (by rw [c11]; rfl) (by decide) ?_
    have hf := hf.1 c11
    refine rLdS (i := 10) (pc := 90) E hI (by decide) rfl rfl dX0_wordAt_90 ?_
    exact rS (pc := 92) E hr hlk hI (by decide) hf dX0_wordAt_92
  have hf := hf.2
  have hf := hf c1 c2 c3 c4 c5 c6 c7 c8 c9 c10 c11
  refine lv_tableOut (tgt := 93) (pc := 1) hx hb dX0_wordAt_1 (by have := neI (k := 0) c1 rfl; have := neI (k := 1) c2 rfl; have := neI (k := 2) c3 rfl; have := neI (k := 3) c4 rfl; have := neI (k := 4) c5 rfl; have := neI (k := 5) c6 rfl; have := neI (k := 6) c7 rfl; have := neI (k := 7) c8 rfl; have := neI (k := 8) c9 rfl; have := neI (k := 9) c10 rfl; have := neI (k := 10) c11 rfl; omega) (by decide) ?_
  refine rLdS (i := 11) (pc := 93) E hI (by decide) rfl rfl dX0_wordAt_93 ?_
  exact rS (pc := 95) E hr hlk hI (by decide) hf dX0_wordAt_95
theorem tX0_wordAt {l : Launch} {D : va_G} {z : Nat → Nat} {σ : St} {ad : Nat → Nat → Nat} {cy : Nat → ClassId} {Rr : va_W} {Q : Nat → St → Prop} {p1 : Int32} (hf : wX0_wordAt p1 σ Q) : CtS l yX0_wordAt cX0_wordAt 1 z 0 (D, tysC cy, SF z) (LC ad cy Rr) [.int p1] σ Q := mkS (by decide) (Nat.le_of_ble_eq_true rfl) (fun p e s m below meth c A E hr hlk hI ls hl => bX0_wordAt E hr hlk hf hI hl)

def wX0_isWord_l20s (ih : Nat → Int32 → St → Prop) (q1 : Nat) (a2 : Int32) (σ : St) (Q : Int32 → St → Prop) : Prop := (((strLn q1) ≤ a2 → Q 1 σ) ∧ (¬ (strLn q1) ≤ a2 → vp_in a2 (strL.getD q1 0) ∧ vp_in ((gI σ 5 4) + a2) 160 ∧ (((strAt q1 a2.toNatClampNeg) = (gA σ 5 0 ((gI σ 5 4) + a2).toNatClampNeg) → ∀ x6 : Int32, x6 = a2 + 1 → (ih q1 x6 σ)) ∧ (¬ (strAt q1 a2.toNatClampNeg) = (gA σ 5 0 ((gI σ 5 4) + a2).toNatClampNeg) → Q 0 σ))))
def wX0_isWord_l20 (n : Nat) : Nat → Int32 → St → (Int32 → St → Prop) → Prop := @Nat.rec (fun _ => Nat → Int32 → St → (Int32 → St → Prop) → Prop) (fun _ _ _ _ => False) (fun _ ih q1 a2 σ Q => wX0_isWord_l20s (fun q1 a2 σ => ih q1 a2 σ Q) q1 a2 σ Q) n
set_option maxRecDepth 100000 in
set_option maxHeartbeats 4000000 in
theorem bX0_isWord_20 {p : Program} {l : Launch} {e : Env} {s : State} {m : MethodId} {args : Array Value} {below : List Frame} {meth : Method} {c : Code} {D : va_G} {z : Nat → Nat} {A : Nat → Prop} {ad : Nat → Nat → Nat} {cy : Nat → ClassId} {Rr : va_W} {Q : Int32 → St → Prop} (E : CallFix p m c cX0_isWord 3 s args TB RX0) (hr : meth.sig.returnType = some .boolean) (hlk : meth.locks = false) : ∀ (n : Nat) {q1 : Nat} {a2 : Int32} (hq1 : q1 < 13) {σ : St} {H : Heap} {locs : List Loc} {ls : Array Slot}, wX0_isWord_l20 n q1 a2 σ Q → In (D, tysC cy, SF z) (LC ad cy Rr σ) A s H locs → lv_has ls 3 [(0, .ref (ad 5 99)), (1, .ref (z (10 + q1))), (2, .int a2)] → W p l e (rmD 4) s m args below meth c H locs 0 0 (PI below args s (D, tysC cy, SF z) A (LC ad cy Rr) Q) (F0 m 20 ls []) := by
  have hx := E.1
  have hb := E.2.1
  intro n
  induction n with
  | zero => intro q1 a2 hq1 σ H locs ls hf hI hl; exact False.elim hf
  | succ n ih =>
    intro q1 a2 hq1 σ H locs ls hf hI hl
    have hf : wX0_isWord_l20s (fun q1 a2 σ => wX0_isWord_l20 n q1 a2 σ Q) q1 a2 σ Q := hf
    unfold wX0_isWord_l20s at hf
    refine lv_iload_n (pc := 20) hx hb dX0_isWord_20 rfl (lv_at hl 2 rfl) ?_
    refine lv_aload_n (pc := 21) hx hb dX0_isWord_21 rfl (lv_at hl 1 rfl) ?_
    refine rStrLen (pc := 22) E cs0 hl hI hq1 mwX0_95 (fitD (by decide)) (Nat.le_of_ble_eq_true rfl) dX0_isWord_22 (fun H locs hI => ?_)
    refine lv_icmp_ge (tgt := 55) (pc := 25) hx hb dX0_isWord_25 (by decide) (fun c2 => ?_) (fun c2 => ?_)
    · have hf := hf.1 c2
      refine lv_iconst (v := 1) (pc := 55) hx hb dX0_isWord_55 rfl ?_
      exact rZ (pc := 56) E hr hlk hI (Or.inr rfl) hf dX0_isWord_56
    · have hf := hf.2 c2
      refine lv_aload_n (pc := 28) hx hb dX0_isWord_28 rfl (lv_at hl 1 rfl) ?_
      refine lv_iload_n (pc := 29) hx hb dX0_isWord_29 rfl (lv_at hl 2 rfl) ?_
      have g3 := hf.1
      have hf := hf.2
      refine rStrAt (pc := 30) E cs0 hl hI hq1 g3 mwX0_101 (fitD (by decide)) (Nat.le_of_ble_eq_true rfl) dX0_isWord_30 (fun H locs hI => ?_)
      refine lv_aload_n (pc := 33) hx hb dX0_isWord_33 rfl (lv_at hl 0 rfl) ?_
      refine g0_0 (pc := 34) E hI rfl lkX0_11 dX0_isWord_34 ?_
      refine lv_aload_n (pc := 37) hx hb dX0_isWord_37 rfl (lv_at hl 0 rfl) ?_
      refine g0_4 (pc := 38) E hI rfl lkX0_25 dX0_isWord_38 ?_
      refine lv_iload_n (pc := 41) hx hb dX0_isWord_41 rfl (lv_at hl 2 rfl) ?_
      refine lv_iadd (pc := 42) hx hb dX0_isWord_42 ?_
      have g4 := hf.1
      have hf := hf.2
      refine a0_0 (pc := 43) E hI rfl g4 dX0_isWord_43 ?_
      refine lv_icmp_eq (tgt := 49) (pc := 44) hx hb dX0_isWord_44 (by decide) (fun c5 => ?_) (fun c5 => ?_)
      · have hf := hf.1 c5
        obtain ⟨x6, ex6⟩ : ∃ y : Int32, y = a2 + 1 := ⟨_, rfl⟩
        have hf := hf x6 ex6
        refine lv_iinc (v := x6) (lv' := [(2, .int x6), (0, .ref (ad 5 99)), (1, .ref (z (10 + q1)))]) (pc := 49) hx hb dX0_isWord_49 hl (k := 2) rfl (by rw [ex6]; rfl) (by decide) rfl (fun ls hl => ?_)
        refine lv_goto (tgt := 20) (pc := 52) hx hb dX0_isWord_52 (by decide) ?_
        exact ih hq1 hf hI (lv_sub hl [1, 2, 0] rfl)
      · have hf := hf.2 c5
        refine lv_iconst (v := 0) (pc := 47) hx hb dX0_isWord_47 rfl ?_
        exact rZ (pc := 48) E hr hlk hI (Or.inl rfl) hf dX0_isWord_48
def wX0_isWord (w1 : Nat) (σ : St) (Q : Int32 → St → Prop) : Prop := (((strLn w1) = ((gI σ 5 2) - (gI σ 5 4)) → ∃ n7 : Nat, wX0_isWord_l20 n7 w1 0 σ Q) ∧ (¬ (strLn w1) = ((gI σ 5 2) - (gI σ 5 4)) → Q 0 σ))
set_option maxRecDepth 100000 in
set_option maxHeartbeats 4000000 in
theorem bX0_isWord {p : Program} {l : Launch} {e : Env} {s : State} {m : MethodId} {args : Array Value} {below : List Frame} {meth : Method} {c : Code} {H : Heap} {locs : List Loc} {ls : Array Slot} {D : va_G} {z : Nat → Nat} {A : Nat → Prop} {σ : St} {ad : Nat → Nat → Nat} {cy : Nat → ClassId} {Rr : va_W} {Q : Int32 → St → Prop} {w1 : Nat} (E : CallFix p m c cX0_isWord 3 s args TB RX0) (hr : meth.sig.returnType = some .boolean) (hlk : meth.locks = false) (hw1 : w1 < 13) (hf : wX0_isWord w1 σ Q) (hI : In (D, tysC cy, SF z) (LC ad cy Rr σ) A s H locs) (hl : lv_has ls 3 [(0, .ref (ad 5 99)), (1, .ref (z (10 + w1)))]) : W p l e (rmD 4) s m args below meth c H locs 0 0 (PI below args s (D, tysC cy, SF z) A (LC ad cy Rr) Q) (F0 m 0 ls []) := by
  have hx := E.1
  have hb := E.2.1
  unfold wX0_isWord at hf
  refine lv_aload_n (pc := 0) hx hb dX0_isWord_0 rfl (lv_at hl 1 rfl) ?_
  refine rStrLen (pc := 1) E cs0 hl hI hw1 mwX0_95 (fitD (by decide)) (Nat.le_of_ble_eq_true rfl) dX0_isWord_1 (fun H locs hI => ?_)
  refine lv_aload_n (pc := 4) hx hb dX0_isWord_4 rfl (lv_at hl 0 rfl) ?_
  refine g0_2 (pc := 5) E hI rfl lkX0_19 dX0_isWord_5 ?_
  refine lv_aload_n (pc := 8) hx hb dX0_isWord_8 rfl (lv_at hl 0 rfl) ?_
  refine g0_4 (pc := 9) E hI rfl lkX0_25 dX0_isWord_9 ?_
  refine lv_isub (pc := 12) hx hb dX0_isWord_12 ?_
  refine lv_icmp_eq (tgt := 18) (pc := 13) hx hb dX0_isWord_13 (by decide) (fun c1 => ?_) (fun c1 => ?_)
  · have hf := hf.1 c1
    refine lv_iconst (v := 0) (pc := 18) hx hb dX0_isWord_18 rfl ?_
    refine lv_istore_n (lv' := [(2, .int 0), (0, .ref (ad 5 99)), (1, .ref (z (10 + w1)))]) (pc := 19) hx hb dX0_isWord_19 rfl hl (by decide) rfl (fun ls hl => ?_)
    obtain ⟨n7, hf⟩ := hf
    exact bX0_isWord_20 E hr hlk n7 hw1 hf hI (lv_sub hl [1, 2, 0] rfl)
  · have hf := hf.2 c1
    refine lv_iconst (v := 0) (pc := 16) hx hb dX0_isWord_16 rfl ?_
    exact rZ (pc := 17) E hr hlk hI (Or.inl rfl) hf dX0_isWord_17
theorem tX0_isWord {l : Launch} {D : va_G} {z : Nat → Nat} {σ : St} {ad : Nat → Nat → Nat} {cy : Nat → ClassId} {Rr : va_W} {Q : Int32 → St → Prop} {w1 : Nat} (hw1 : w1 < 13) (hf : wX0_isWord w1 σ Q) : CtI l yX0_isWord cX0_isWord 3 .boolean 4 (D, tysC cy, SF z) (LC ad cy Rr) [.ref (ad 5 99), .ref (z (10 + w1))] σ Q := mkI (by decide) (Nat.le_of_ble_eq_true rfl) (fun p e s m below meth c A E hr hlk hI ls hl => bX0_isWord E hr hlk hw1 hf hI hl)

def wX0_takeWord_j72 (a1 : Int32) (σ : St) (K : Int32 → St → Prop) (Q : St → Prop) : Prop := ∀ x9 : Int32, x9 = a1 + 1 → (K x9 σ)
set_option maxRecDepth 100000 in
set_option maxHeartbeats 4000000 in
theorem bX0_takeWord_72 {p : Program} {l : Launch} {e : Env} {s : State} {m : MethodId} {args : Array Value} {below : List Frame} {meth : Method} {c : Code} {H : Heap} {locs : List Loc} {ls : Array Slot} {D : va_G} {z : Nat → Nat} {A : Nat → Prop} {σ : St} {ad : Nat → Nat → Nat} {cy : Nat → ClassId} {Rr : va_W} {Q : St → Prop} {a1 : Int32} {K : Int32 → St → Prop} (E : CallFix p m c cX0_takeWord 2 s args TB RX0) (hr : meth.sig.returnType = none) (hlk : meth.locks = false) (hK : ∀ (a1 : Int32) (σ : St) (H : Heap) (locs : List Loc) (ls : Array Slot), K a1 σ → In (D, tysC cy, SF z) (LC ad cy Rr σ) A s H locs → lv_has ls 2 [(0, .ref (ad 5 99)), (1, .int a1)] → W p l e (rmD 5) s m args below meth c H locs 0 0 (PV below args s (D, tysC cy, SF z) A (LC ad cy Rr) Q) (F0 m 46 ls [])) (hf : wX0_takeWord_j72 a1 σ K Q) (hI : In (D, tysC cy, SF z) (LC ad cy Rr σ) A s H locs) (hl : lv_has ls 2 [(0, .ref (ad 5 99)), (1, .int a1)]) : W p l e (rmD 5) s m args below meth c H locs 0 0 (PV below args s (D, tysC cy, SF z) A (LC ad cy Rr) Q) (F0 m 72 ls []) := by
  have hx := E.1
  have hb := E.2.1
  unfold wX0_takeWord_j72 at hf
  obtain ⟨x9, ex9⟩ : ∃ y : Int32, y = a1 + 1 := ⟨_, rfl⟩
  have hf := hf x9 ex9
  refine lv_iinc (v := x9) (lv' := [(1, .int x9), (0, .ref (ad 5 99))]) (pc := 72) hx hb dX0_takeWord_72 hl (k := 1) rfl (by rw [ex9]; rfl) (by decide) rfl (fun ls hl => ?_)
  refine lv_goto (tgt := 46) (pc := 75) hx hb dX0_takeWord_75 (by decide) ?_
  exact hK _ _ _ _ _ hf hI (lv_sub hl [1, 0] rfl)
def wX0_takeWord_l46s (ih : Int32 → St → Prop) (a1 : Int32) (σ : St) (Q : St → Prop) : Prop := ((12 ≤ a1 → Q σ) ∧ (¬ 12 ≤ a1 → wX0_wordAt a1 σ (fun r5 σ4 => wX0_isWord r5 σ4 (fun r7 σ6 => ((r7 = 0 → (wX0_takeWord_j72 a1 σ6 ih Q)) ∧ (¬ r7 = 0 → ∀ σ10 : St, σ10 = sI σ6 5 3 (300 + a1) → (wX0_takeWord_j72 a1 σ10 ih Q)))))))
def wX0_takeWord_l46 (n : Nat) : Int32 → St → (St → Prop) → Prop := @Nat.rec (fun _ => Int32 → St → (St → Prop) → Prop) (fun _ _ _ => False) (fun _ ih a1 σ Q => wX0_takeWord_l46s (fun a1 σ => ih a1 σ Q) a1 σ Q) n
set_option maxRecDepth 100000 in
set_option maxHeartbeats 4000000 in
theorem bX0_takeWord_46 {p : Program} {l : Launch} {e : Env} {s : State} {m : MethodId} {args : Array Value} {below : List Frame} {meth : Method} {c : Code} {D : va_G} {z : Nat → Nat} {A : Nat → Prop} {ad : Nat → Nat → Nat} {cy : Nat → ClassId} {Rr : va_W} {Q : St → Prop} (E : CallFix p m c cX0_takeWord 2 s args TB RX0) (hr : meth.sig.returnType = none) (hlk : meth.locks = false) : ∀ (n : Nat) {a1 : Int32} {σ : St} {H : Heap} {locs : List Loc} {ls : Array Slot}, wX0_takeWord_l46 n a1 σ Q → In (D, tysC cy, SF z) (LC ad cy Rr σ) A s H locs → lv_has ls 2 [(0, .ref (ad 5 99)), (1, .int a1)] → W p l e (rmD 5) s m args below meth c H locs 0 0 (PV below args s (D, tysC cy, SF z) A (LC ad cy Rr) Q) (F0 m 46 ls []) := by
  have hx := E.1
  have hb := E.2.1
  intro n
  induction n with
  | zero => intro a1 σ H locs ls hf hI hl; exact False.elim hf
  | succ n ih =>
    intro a1 σ H locs ls hf hI hl
    have hf : wX0_takeWord_l46s (fun a1 σ => wX0_takeWord_l46 n a1 σ Q) a1 σ Q := hf
    unfold wX0_takeWord_l46s at hf
    refine lv_iload_n (pc := 46) hx hb dX0_takeWord_46 rfl (lv_at hl 1 rfl) ?_
    refine lv_bipush (v := 12) (pc := 47) hx hb dX0_takeWord_47 rfl ?_
    refine lv_icmp_ge (tgt := 78) (pc := 49) hx hb dX0_takeWord_49 (by decide) (fun c3 => ?_) (fun c3 => ?_)
    · have hf := hf.1 c3
      exact rV (pc := 78) E hr hlk hI hf dX0_takeWord_78
    · have hf := hf.2 c3
      refine lv_aload_n (pc := 52) hx hb dX0_takeWord_52 rfl (lv_at hl 0 rfl) ?_
      refine lv_iload_n (pc := 53) hx hb dX0_takeWord_53 rfl (lv_at hl 1 rfl) ?_
      refine callSS (z := z) (G := (D, tysC cy, SF z)) (L := LC ad cy Rr) (pc := 54) (As := [.int a1]) (rest := [.ref (ad 5 99)]) stabSF E cs0 hl hI (tX0_wordAt hf) mwX0_87 (fitD (by decide)) rfl rfl (Nat.le_of_ble_eq_true rfl) dX0_takeWord_54 (fun r5 σ4 H locs hr5 hf hI => ?_)
      refine callVI (G := (D, tysC cy, SF z)) (L := LC ad cy Rr) (pc := 57) (As := [.ref (z (10 + r5))]) (rest := []) stabSF E cs0 hl hI (tX0_isWord hr5 hf) mwX0_91 (fitD (by decide)) (at0 rfl) rfl rfl rfl rfl (Nat.le_of_ble_eq_true rfl) dX0_takeWord_57 (fun r7 σ6 H locs hf hI => ?_)
      refine lv_if_eq (tgt := 72) (pc := 60) hx hb dX0_takeWord_60 (by decide) (fun c8 => ?_) (fun c8 => ?_)
      · have hf := hf.1 c8
        exact bX0_takeWord_72 E hr hlk (fun _ _ _ _ _ hf hI hl => ih hf hI hl) hf hI (lv_sub hl [0, 1] rfl)
      · have hf := hf.2 c8
        refine lv_aload_n (pc := 63) hx hb dX0_takeWord_63 rfl (lv_at hl 0 rfl) ?_
        refine lv_sipush (v := 300) (pc := 64) hx hb dX0_takeWord_64 rfl ?_
        refine lv_iload_n (pc := 67) hx hb dX0_takeWord_67 rfl (lv_at hl 1 rfl) ?_
        refine lv_iadd (pc := 68) hx hb dX0_takeWord_68 ?_
        refine p0_3 (pc := 69) E hI rfl lkX0_22 dX0_takeWord_69 (fun H locs σ10 eσ10 hI => ?_)
        have hf := hf σ10 eσ10
        exact bX0_takeWord_72 E hr hlk (fun _ _ _ _ _ hf hI hl => ih hf hI hl) hf hI (lv_sub hl [0, 1] rfl)
def wX0_takeWord_j39 (σ : St) (Q : St → Prop) : Prop := ∀ σ2 : St, σ2 = sI σ 5 3 1 → ∃ n11 : Nat, wX0_takeWord_l46 n11 0 σ2 Q
set_option maxRecDepth 100000 in
set_option maxHeartbeats 4000000 in
theorem bX0_takeWord_39 {p : Program} {l : Launch} {e : Env} {s : State} {m : MethodId} {args : Array Value} {below : List Frame} {meth : Method} {c : Code} {H : Heap} {locs : List Loc} {ls : Array Slot} {D : va_G} {z : Nat → Nat} {A : Nat → Prop} {σ : St} {ad : Nat → Nat → Nat} {cy : Nat → ClassId} {Rr : va_W} {Q : St → Prop} (E : CallFix p m c cX0_takeWord 2 s args TB RX0) (hr : meth.sig.returnType = none) (hlk : meth.locks = false) (hf : wX0_takeWord_j39 σ Q) (hI : In (D, tysC cy, SF z) (LC ad cy Rr σ) A s H locs) (hl : lv_has ls 2 [(0, .ref (ad 5 99))]) : W p l e (rmD 5) s m args below meth c H locs 0 0 (PV below args s (D, tysC cy, SF z) A (LC ad cy Rr) Q) (F0 m 39 ls []) := by
  have hx := E.1
  have hb := E.2.1
  unfold wX0_takeWord_j39 at hf
  refine lv_aload_n (pc := 39) hx hb dX0_takeWord_39 rfl (lv_at hl 0 rfl) ?_
  refine lv_iconst (v := 1) (pc := 40) hx hb dX0_takeWord_40 rfl ?_
  refine p0_3 (pc := 41) E hI rfl lkX0_22 dX0_takeWord_41 (fun H locs σ2 eσ2 hI => ?_)
  have hf := hf σ2 eσ2
  refine lv_iconst (v := 0) (pc := 44) hx hb dX0_takeWord_44 rfl ?_
  refine lv_istore_n (lv' := [(1, .int 0), (0, .ref (ad 5 99))]) (pc := 45) hx hb dX0_takeWord_45 rfl hl (by decide) rfl (fun ls hl => ?_)
  obtain ⟨n11, hf⟩ := hf
  exact bX0_takeWord_46 E hr hlk n11 hf hI (lv_sub hl [1, 0] rfl)
def wX0_takeWord_l0s (ih : St → Prop) (σ : St) (Q : St → Prop) : Prop := (((gI σ 5 1) ≤ (gI σ 5 2) → (wX0_takeWord_j39 σ Q)) ∧ (¬ (gI σ 5 1) ≤ (gI σ 5 2) → vp_in (gI σ 5 2) 160 ∧ wX0_isLetter (gA σ 5 0 (gI σ 5 2).toNatClampNeg) σ (fun r14 σ13 => ((r14 = 0 → (wX0_takeWord_j39 σ13 Q)) ∧ (¬ r14 = 0 → ∀ σ16 : St, σ16 = sI σ13 5 2 ((gI σ13 5 2) + 1) → (ih σ16))))))
def wX0_takeWord_l0 (n : Nat) : St → (St → Prop) → Prop := @Nat.rec (fun _ => St → (St → Prop) → Prop) (fun _ _ => False) (fun _ ih σ Q => wX0_takeWord_l0s (fun σ => ih σ Q) σ Q) n
set_option maxRecDepth 100000 in
set_option maxHeartbeats 4000000 in
theorem bX0_takeWord_0 {p : Program} {l : Launch} {e : Env} {s : State} {m : MethodId} {args : Array Value} {below : List Frame} {meth : Method} {c : Code} {D : va_G} {z : Nat → Nat} {A : Nat → Prop} {ad : Nat → Nat → Nat} {cy : Nat → ClassId} {Rr : va_W} {Q : St → Prop} (E : CallFix p m c cX0_takeWord 2 s args TB RX0) (hr : meth.sig.returnType = none) (hlk : meth.locks = false) : ∀ (n : Nat) {σ : St} {H : Heap} {locs : List Loc} {ls : Array Slot}, wX0_takeWord_l0 n σ Q → In (D, tysC cy, SF z) (LC ad cy Rr σ) A s H locs → lv_has ls 2 [(0, .ref (ad 5 99))] → W p l e (rmD 5) s m args below meth c H locs 0 0 (PV below args s (D, tysC cy, SF z) A (LC ad cy Rr) Q) (F0 m 0 ls []) := by
  have hx := E.1
  have hb := E.2.1
  intro n
  induction n with
  | zero => intro σ H locs ls hf hI hl; exact False.elim hf
  | succ n ih =>
    intro σ H locs ls hf hI hl
    have hf : wX0_takeWord_l0s (fun σ => wX0_takeWord_l0 n σ Q) σ Q := hf
    unfold wX0_takeWord_l0s at hf
    refine lv_aload_n (pc := 0) hx hb dX0_takeWord_0 rfl (lv_at hl 0 rfl) ?_
    refine g0_2 (pc := 1) E hI rfl lkX0_19 dX0_takeWord_1 ?_
    refine lv_aload_n (pc := 4) hx hb dX0_takeWord_4 rfl (lv_at hl 0 rfl) ?_
    refine g0_1 (pc := 5) E hI rfl lkX0_15 dX0_takeWord_5 ?_
    refine lv_icmp_ge (tgt := 39) (pc := 8) hx hb dX0_takeWord_8 (by decide) (fun c1 => ?_) (fun c1 => ?_)
    · have hf := hf.1 c1
      exact bX0_takeWord_39 E hr hlk hf hI (lv_sub hl [0] rfl)
    · have hf := hf.2 c1
      refine lv_aload_n (pc := 11) hx hb dX0_takeWord_11 rfl (lv_at hl 0 rfl) ?_
      refine g0_0 (pc := 12) E hI rfl lkX0_11 dX0_takeWord_12 ?_
      refine lv_aload_n (pc := 15) hx hb dX0_takeWord_15 rfl (lv_at hl 0 rfl) ?_
      refine g0_2 (pc := 16) E hI rfl lkX0_19 dX0_takeWord_16 ?_
      have g12 := hf.1
      have hf := hf.2
      refine a0_0 (pc := 19) E hI rfl g12 dX0_takeWord_19 ?_
      refine callSI (G := (D, tysC cy, SF z)) (L := LC ad cy Rr) (pc := 20) (As := [.int (gA σ 5 0 (gI σ 5 2).toNatClampNeg)]) (rest := []) stabSF E cs0 hl hI (tX0_isLetter hf) mwX0_72 (fitD (by decide)) rfl rfl (Nat.le_of_ble_eq_true rfl) dX0_takeWord_20 (fun r14 σ13 H locs hf hI => ?_)
      refine lv_if_eq (tgt := 39) (pc := 23) hx hb dX0_takeWord_23 (by decide) (fun c15 => ?_) (fun c15 => ?_)
      · have hf := hf.1 c15
        exact bX0_takeWord_39 E hr hlk hf hI (lv_sub hl [0] rfl)
      · have hf := hf.2 c15
        refine lv_aload_n (pc := 26) hx hb dX0_takeWord_26 rfl (lv_at hl 0 rfl) ?_
        refine lv_dup (pc := 27) hx hb dX0_takeWord_27 rfl ?_
        refine g0_2 (pc := 28) E hI rfl lkX0_19 dX0_takeWord_28 ?_
        refine lv_iconst (v := 1) (pc := 31) hx hb dX0_takeWord_31 rfl ?_
        refine lv_iadd (pc := 32) hx hb dX0_takeWord_32 ?_
        refine p0_2 (pc := 33) E hI rfl lkX0_19 dX0_takeWord_33 (fun H locs σ16 eσ16 hI => ?_)
        have hf := hf σ16 eσ16
        refine lv_goto (tgt := 0) (pc := 36) hx hb dX0_takeWord_36 (by decide) ?_
        exact ih hf hI (lv_sub hl [0] rfl)
def wX0_takeWord (σ : St) (Q : St → Prop) : Prop := ∃ n17 : Nat, wX0_takeWord_l0 n17 σ Q
set_option maxRecDepth 100000 in
set_option maxHeartbeats 4000000 in
theorem bX0_takeWord {p : Program} {l : Launch} {e : Env} {s : State} {m : MethodId} {args : Array Value} {below : List Frame} {meth : Method} {c : Code} {H : Heap} {locs : List Loc} {ls : Array Slot} {D : va_G} {z : Nat → Nat} {A : Nat → Prop} {σ : St} {ad : Nat → Nat → Nat} {cy : Nat → ClassId} {Rr : va_W} {Q : St → Prop} (E : CallFix p m c cX0_takeWord 2 s args TB RX0) (hr : meth.sig.returnType = none) (hlk : meth.locks = false) (hf : wX0_takeWord σ Q) (hI : In (D, tysC cy, SF z) (LC ad cy Rr σ) A s H locs) (hl : lv_has ls 2 [(0, .ref (ad 5 99))]) : W p l e (rmD 5) s m args below meth c H locs 0 0 (PV below args s (D, tysC cy, SF z) A (LC ad cy Rr) Q) (F0 m 0 ls []) := by
  have hx := E.1
  have hb := E.2.1
  unfold wX0_takeWord at hf
  obtain ⟨n17, hf⟩ := hf
  exact bX0_takeWord_0 E hr hlk n17 hf hI (lv_sub hl [0] rfl)
theorem tX0_takeWord {l : Launch} {D : va_G} {z : Nat → Nat} {σ : St} {ad : Nat → Nat → Nat} {cy : Nat → ClassId} {Rr : va_W} {Q : St → Prop} (hf : wX0_takeWord σ Q) : CtV l yX0_takeWord cX0_takeWord 2 5 (D, tysC cy, SF z) (LC ad cy Rr) [.ref (ad 5 99)] σ Q := mkV (by decide) (Nat.le_of_ble_eq_true rfl) (fun p e s m below meth c A E hr hlk hI ls hl => bX0_takeWord E hr hlk hf hI hl)

def wX0_advance_j152 (s1 : Int32) (σ : St) (Q : St → Prop) : Prop := ∀ σ16 : St, σ16 = sI σ 5 3 s1 → ∀ σ17 : St, σ17 = sI σ16 5 2 ((gI σ16 5 2) + 1) → Q σ17
set_option maxRecDepth 100000 in
set_option maxHeartbeats 4000000 in
theorem bX0_advance_152 {p : Program} {l : Launch} {e : Env} {s : State} {m : MethodId} {args : Array Value} {below : List Frame} {meth : Method} {c : Code} {H : Heap} {locs : List Loc} {ls : Array Slot} {D : va_G} {z : Nat → Nat} {A : Nat → Prop} {σ : St} {ad : Nat → Nat → Nat} {cy : Nat → ClassId} {Rr : va_W} {Q : St → Prop} {s1 : Int32} (E : CallFix p m c cX0_advance 1 s args TB RX0) (hr : meth.sig.returnType = none) (hlk : meth.locks = false) (hf : wX0_advance_j152 s1 σ Q) (hI : In (D, tysC cy, SF z) (LC ad cy Rr σ) A s H locs) (hl : lv_has ls 1 [(0, .ref (ad 5 99))]) : W p l e (rmD 6) s m args below meth c H locs 0 0 (PV below args s (D, tysC cy, SF z) A (LC ad cy Rr) Q) (F0 m 152 ls [.int s1, .ref (ad 5 99)]) := by
  have hx := E.1
  have hb := E.2.1
  unfold wX0_advance_j152 at hf
  refine p0_3 (pc := 152) E hI rfl lkX0_22 dX0_advance_152 (fun H locs σ16 eσ16 hI => ?_)
  have hf := hf σ16 eσ16
  refine lv_aload_n (pc := 155) hx hb dX0_advance_155 rfl (lv_at hl 0 rfl) ?_
  refine lv_dup (pc := 156) hx hb dX0_advance_156 rfl ?_
  refine g0_2 (pc := 157) E hI rfl lkX0_19 dX0_advance_157 ?_
  refine lv_iconst (v := 1) (pc := 160) hx hb dX0_advance_160 rfl ?_
  refine lv_iadd (pc := 161) hx hb dX0_advance_161 ?_
  refine p0_2 (pc := 162) E hI rfl lkX0_19 dX0_advance_162 (fun H locs σ17 eσ17 hI => ?_)
  have hf := hf σ17 eσ17
  exact rV (pc := 165) E hr hlk hI hf dX0_advance_165
def wX0_advance_j52 (σ : St) (Q : St → Prop) : Prop := ∀ σ2 : St, σ2 = sI σ 5 4 (gI σ 5 2) → (((gI σ2 5 2) < (gI σ2 5 1) → vp_in (gI σ2 5 2) 160 ∧ wX0_isLetter (gA σ2 5 0 (gI σ2 5 2).toNatClampNeg) σ2 (fun r6 σ5 => ((r6 = 0 → vp_in (gI σ5 5 2) 160 ∧ wX0_isDigit (gA σ5 5 0 (gI σ5 5 2).toNatClampNeg) σ5 (fun r10 σ9 => ((r10 = 0 → vp_in (gI σ9 5 2) 160 ∧ wX0_isSign (gA σ9 5 0 (gI σ9 5 2).toNatClampNeg) σ9 (fun r14 σ13 => ((r14 = 0 → (wX0_advance_j152 1 σ13 Q)) ∧ (¬ r14 = 0 → vp_in (gI σ13 5 2) 160 ∧ (wX0_advance_j152 (gA σ13 5 0 (gI σ13 5 2).toNatClampNeg) σ13 Q))))) ∧ (¬ r10 = 0 → wX0_takeDigits σ9 (fun σ19 => Q σ19))))) ∧ (¬ r6 = 0 → wX0_takeWord σ5 (fun σ20 => Q σ20))))) ∧ (¬ (gI σ2 5 2) < (gI σ2 5 1) → ∀ σ21 : St, σ21 = sI σ2 5 3 0 → Q σ21))
set_option maxRecDepth 100000 in
set_option maxHeartbeats 4000000 in
theorem bX0_advance_52 {p : Program} {l : Launch} {e : Env} {s : State} {m : MethodId} {args : Array Value} {below : List Frame} {meth : Method} {c : Code} {H : Heap} {locs : List Loc} {ls : Array Slot} {D : va_G} {z : Nat → Nat} {A : Nat → Prop} {σ : St} {ad : Nat → Nat → Nat} {cy : Nat → ClassId} {Rr : va_W} {Q : St → Prop} (E : CallFix p m c cX0_advance 1 s args TB RX0) (hr : meth.sig.returnType = none) (hlk : meth.locks = false) (hf : wX0_advance_j52 σ Q) (hI : In (D, tysC cy, SF z) (LC ad cy Rr σ) A s H locs) (hl : lv_has ls 1 [(0, .ref (ad 5 99))]) : W p l e (rmD 6) s m args below meth c H locs 0 0 (PV below args s (D, tysC cy, SF z) A (LC ad cy Rr) Q) (F0 m 52 ls []) := by
  have hx := E.1
  have hb := E.2.1
  unfold wX0_advance_j52 at hf
  refine lv_aload_n (pc := 52) hx hb dX0_advance_52 rfl (lv_at hl 0 rfl) ?_
  refine lv_aload_n (pc := 53) hx hb dX0_advance_53 rfl (lv_at hl 0 rfl) ?_
  refine g0_2 (pc := 54) E hI rfl lkX0_19 dX0_advance_54 ?_
  refine p0_4 (pc := 57) E hI rfl lkX0_25 dX0_advance_57 (fun H locs σ2 eσ2 hI => ?_)
  have hf := hf σ2 eσ2
  refine lv_aload_n (pc := 60) hx hb dX0_advance_60 rfl (lv_at hl 0 rfl) ?_
  refine g0_2 (pc := 61) E hI rfl lkX0_19 dX0_advance_61 ?_
  refine lv_aload_n (pc := 64) hx hb dX0_advance_64 rfl (lv_at hl 0 rfl) ?_
  refine g0_1 (pc := 65) E hI rfl lkX0_15 dX0_advance_65 ?_
  refine lv_icmp_lt (tgt := 79) (pc := 68) hx hb dX0_advance_68 (by decide) (fun c3 => ?_) (fun c3 => ?_)
  · have hf := hf.1 c3
    refine lv_aload_n (pc := 79) hx hb dX0_advance_79 rfl (lv_at hl 0 rfl) ?_
    refine g0_0 (pc := 80) E hI rfl lkX0_11 dX0_advance_80 ?_
    refine lv_aload_n (pc := 83) hx hb dX0_advance_83 rfl (lv_at hl 0 rfl) ?_
    refine g0_2 (pc := 84) E hI rfl lkX0_19 dX0_advance_84 ?_
    have g4 := hf.1
    have hf := hf.2
    refine a0_0 (pc := 87) E hI rfl g4 dX0_advance_87 ?_
    refine callSI (G := (D, tysC cy, SF z)) (L := LC ad cy Rr) (pc := 88) (As := [.int (gA σ2 5 0 (gI σ2 5 2).toNatClampNeg)]) (rest := []) stabSF E cs0 hl hI (tX0_isLetter hf) mwX0_72 (fitD (by decide)) rfl rfl (Nat.le_of_ble_eq_true rfl) dX0_advance_88 (fun r6 σ5 H locs hf hI => ?_)
    refine lv_if_eq (tgt := 101) (pc := 91) hx hb dX0_advance_91 (by decide) (fun c7 => ?_) (fun c7 => ?_)
    · have hf := hf.1 c7
      refine lv_aload_n (pc := 101) hx hb dX0_advance_101 rfl (lv_at hl 0 rfl) ?_
      refine g0_0 (pc := 102) E hI rfl lkX0_11 dX0_advance_102 ?_
      refine lv_aload_n (pc := 105) hx hb dX0_advance_105 rfl (lv_at hl 0 rfl) ?_
      refine g0_2 (pc := 106) E hI rfl lkX0_19 dX0_advance_106 ?_
      have g8 := hf.1
      have hf := hf.2
      refine a0_0 (pc := 109) E hI rfl g8 dX0_advance_109 ?_
      refine callSI (G := (D, tysC cy, SF z)) (L := LC ad cy Rr) (pc := 110) (As := [.int (gA σ5 5 0 (gI σ5 5 2).toNatClampNeg)]) (rest := []) stabSF E cs0 hl hI (tX0_isDigit hf) mwX0_78 (fitD (by decide)) rfl rfl (Nat.le_of_ble_eq_true rfl) dX0_advance_110 (fun r10 σ9 H locs hf hI => ?_)
      refine lv_if_eq (tgt := 123) (pc := 113) hx hb dX0_advance_113 (by decide) (fun c11 => ?_) (fun c11 => ?_)
      · have hf := hf.1 c11
        refine lv_aload_n (pc := 123) hx hb dX0_advance_123 rfl (lv_at hl 0 rfl) ?_
        refine lv_aload_n (pc := 124) hx hb dX0_advance_124 rfl (lv_at hl 0 rfl) ?_
        refine g0_0 (pc := 125) E hI rfl lkX0_11 dX0_advance_125 ?_
        refine lv_aload_n (pc := 128) hx hb dX0_advance_128 rfl (lv_at hl 0 rfl) ?_
        refine g0_2 (pc := 129) E hI rfl lkX0_19 dX0_advance_129 ?_
        have g12 := hf.1
        have hf := hf.2
        refine a0_0 (pc := 132) E hI rfl g12 dX0_advance_132 ?_
        refine callSI (G := (D, tysC cy, SF z)) (L := LC ad cy Rr) (pc := 133) (As := [.int (gA σ9 5 0 (gI σ9 5 2).toNatClampNeg)]) (rest := [.ref (ad 5 99)]) stabSF E cs0 hl hI (tX0_isSign hf) mwX0_84 (fitD (by decide)) rfl rfl (Nat.le_of_ble_eq_true rfl) dX0_advance_133 (fun r14 σ13 H locs hf hI => ?_)
        refine lv_if_eq (tgt := 151) (pc := 136) hx hb dX0_advance_136 (by decide) (fun c15 => ?_) (fun c15 => ?_)
        · have hf := hf.1 c15
          refine lv_iconst (v := 1) (pc := 151) hx hb dX0_advance_151 rfl ?_
          exact bX0_advance_152 E hr hlk hf hI (lv_sub hl [0] rfl)
        · have hf := hf.2 c15
          refine lv_aload_n (pc := 139) hx hb dX0_advance_139 rfl (lv_at hl 0 rfl) ?_
          refine g0_0 (pc := 140) E hI rfl lkX0_11 dX0_advance_140 ?_
          refine lv_aload_n (pc := 143) hx hb dX0_advance_143 rfl (lv_at hl 0 rfl) ?_
          refine g0_2 (pc := 144) E hI rfl lkX0_19 dX0_advance_144 ?_
          have g18 := hf.1
          have hf := hf.2
          refine a0_0 (pc := 147) E hI rfl g18 dX0_advance_147 ?_
          refine lv_goto (tgt := 152) (pc := 148) hx hb dX0_advance_148 (by decide) ?_
          exact bX0_advance_152 E hr hlk hf hI (lv_sub hl [0] rfl)
      · have hf := hf.2 c11
        refine lv_aload_n (pc := 116) hx hb dX0_advance_116 rfl (lv_at hl 0 rfl) ?_
        refine callVV (G := (D, tysC cy, SF z)) (L := LC ad cy Rr) (pc := 117) (As := []) (rest := []) stabSF E cs0 hl hI (tX0_takeDigits hf) mwX0_81 (fitD (by decide)) (at0 rfl) rfl rfl rfl rfl (Nat.le_of_ble_eq_true rfl) dX0_advance_117 (fun σ19 H locs hf hI => ?_)
        refine lv_goto (tgt := 165) (pc := 120) hx hb dX0_advance_120 (by decide) ?_
        exact rV (pc := 165) E hr hlk hI hf dX0_advance_165
    · have hf := hf.2 c7
      refine lv_aload_n (pc := 94) hx hb dX0_advance_94 rfl (lv_at hl 0 rfl) ?_
      refine callVV (G := (D, tysC cy, SF z)) (L := LC ad cy Rr) (pc := 95) (As := []) (rest := []) stabSF E cs0 hl hI (tX0_takeWord hf) mwX0_75 (fitD (by decide)) (at0 rfl) rfl rfl rfl rfl (Nat.le_of_ble_eq_true rfl) dX0_advance_95 (fun σ20 H locs hf hI => ?_)
      refine lv_goto (tgt := 165) (pc := 98) hx hb dX0_advance_98 (by decide) ?_
      exact rV (pc := 165) E hr hlk hI hf dX0_advance_165
  · have hf := hf.2 c3
    refine lv_aload_n (pc := 71) hx hb dX0_advance_71 rfl (lv_at hl 0 rfl) ?_
    refine lv_iconst (v := 0) (pc := 72) hx hb dX0_advance_72 rfl ?_
    refine p0_3 (pc := 73) E hI rfl lkX0_22 dX0_advance_73 (fun H locs σ21 eσ21 hI => ?_)
    have hf := hf σ21 eσ21
    refine lv_goto (tgt := 165) (pc := 76) hx hb dX0_advance_76 (by decide) ?_
    exact rV (pc := 165) E hr hlk hI hf dX0_advance_165
def wX0_advance_j39 (σ : St) (K : St → Prop) (Q : St → Prop) : Prop := ∀ σ24 : St, σ24 = sI σ 5 2 ((gI σ 5 2) + 1) → (K σ24)
set_option maxRecDepth 100000 in
set_option maxHeartbeats 4000000 in
theorem bX0_advance_39 {p : Program} {l : Launch} {e : Env} {s : State} {m : MethodId} {args : Array Value} {below : List Frame} {meth : Method} {c : Code} {H : Heap} {locs : List Loc} {ls : Array Slot} {D : va_G} {z : Nat → Nat} {A : Nat → Prop} {σ : St} {ad : Nat → Nat → Nat} {cy : Nat → ClassId} {Rr : va_W} {Q : St → Prop} {K : St → Prop} (E : CallFix p m c cX0_advance 1 s args TB RX0) (hr : meth.sig.returnType = none) (hlk : meth.locks = false) (hK : ∀ (σ : St) (H : Heap) (locs : List Loc) (ls : Array Slot), K σ → In (D, tysC cy, SF z) (LC ad cy Rr σ) A s H locs → lv_has ls 1 [(0, .ref (ad 5 99))] → W p l e (rmD 6) s m args below meth c H locs 0 0 (PV below args s (D, tysC cy, SF z) A (LC ad cy Rr) Q) (F0 m 0 ls [])) (hf : wX0_advance_j39 σ K Q) (hI : In (D, tysC cy, SF z) (LC ad cy Rr σ) A s H locs) (hl : lv_has ls 1 [(0, .ref (ad 5 99))]) : W p l e (rmD 6) s m args below meth c H locs 0 0 (PV below args s (D, tysC cy, SF z) A (LC ad cy Rr) Q) (F0 m 39 ls []) := by
  have hx := E.1
  have hb := E.2.1
  unfold wX0_advance_j39 at hf
  refine lv_aload_n (pc := 39) hx hb dX0_advance_39 rfl (lv_at hl 0 rfl) ?_
  refine lv_dup (pc := 40) hx hb dX0_advance_40 rfl ?_
  refine g0_2 (pc := 41) E hI rfl lkX0_19 dX0_advance_41 ?_
  refine lv_iconst (v := 1) (pc := 44) hx hb dX0_advance_44 rfl ?_
  refine lv_iadd (pc := 45) hx hb dX0_advance_45 ?_
  refine p0_2 (pc := 46) E hI rfl lkX0_19 dX0_advance_46 (fun H locs σ24 eσ24 hI => ?_)
  have hf := hf σ24 eσ24
  refine lv_goto (tgt := 0) (pc := 49) hx hb dX0_advance_49 (by decide) ?_
  exact hK _ _ _ _ hf hI (lv_sub hl [0] rfl)
def wX0_advance_l0s (ih : St → Prop) (σ : St) (Q : St → Prop) : Prop := (((gI σ 5 1) ≤ (gI σ 5 2) → (wX0_advance_j52 σ Q)) ∧ (¬ (gI σ 5 1) ≤ (gI σ 5 2) → vp_in (gI σ 5 2) 160 ∧ (((gA σ 5 0 (gI σ 5 2).toNatClampNeg) = 32 → (wX0_advance_j39 σ ih Q)) ∧ (¬ (gA σ 5 0 (gI σ 5 2).toNatClampNeg) = 32 → vp_in (gI σ 5 2) 160 ∧ ((¬ (gA σ 5 0 (gI σ 5 2).toNatClampNeg) = 10 → (wX0_advance_j52 σ Q)) ∧ ((gA σ 5 0 (gI σ 5 2).toNatClampNeg) = 10 → (wX0_advance_j39 σ ih Q)))))))
def wX0_advance_l0 (n : Nat) : St → (St → Prop) → Prop := @Nat.rec (fun _ => St → (St → Prop) → Prop) (fun _ _ => False) (fun _ ih σ Q => wX0_advance_l0s (fun σ => ih σ Q) σ Q) n
set_option maxRecDepth 100000 in
set_option maxHeartbeats 4000000 in
theorem bX0_advance_0 {p : Program} {l : Launch} {e : Env} {s : State} {m : MethodId} {args : Array Value} {below : List Frame} {meth : Method} {c : Code} {D : va_G} {z : Nat → Nat} {A : Nat → Prop} {ad : Nat → Nat → Nat} {cy : Nat → ClassId} {Rr : va_W} {Q : St → Prop} (E : CallFix p m c cX0_advance 1 s args TB RX0) (hr : meth.sig.returnType = none) (hlk : meth.locks = false) : ∀ (n : Nat) {σ : St} {H : Heap} {locs : List Loc} {ls : Array Slot}, wX0_advance_l0 n σ Q → In (D, tysC cy, SF z) (LC ad cy Rr σ) A s H locs → lv_has ls 1 [(0, .ref (ad 5 99))] → W p l e (rmD 6) s m args below meth c H locs 0 0 (PV below args s (D, tysC cy, SF z) A (LC ad cy Rr) Q) (F0 m 0 ls []) := by
  have hx := E.1
  have hb := E.2.1
  intro n
  induction n with
  | zero => intro σ H locs ls hf hI hl; exact False.elim hf
  | succ n ih =>
    intro σ H locs ls hf hI hl
    have hf : wX0_advance_l0s (fun σ => wX0_advance_l0 n σ Q) σ Q := hf
    unfold wX0_advance_l0s at hf
    refine lv_aload_n (pc := 0) hx hb dX0_advance_0 rfl (lv_at hl 0 rfl) ?_
    refine g0_2 (pc := 1) E hI rfl lkX0_19 dX0_advance_1 ?_
    refine lv_aload_n (pc := 4) hx hb dX0_advance_4 rfl (lv_at hl 0 rfl) ?_
    refine g0_1 (pc := 5) E hI rfl lkX0_15 dX0_advance_5 ?_
    refine lv_icmp_ge (tgt := 52) (pc := 8) hx hb dX0_advance_8 (by decide) (fun c1 => ?_) (fun c1 => ?_)
    · have hf := hf.1 c1
      exact bX0_advance_52 E hr hlk hf hI (lv_sub hl [0] rfl)
    · have hf := hf.2 c1
      refine lv_aload_n (pc := 11) hx hb dX0_advance_11 rfl (lv_at hl 0 rfl) ?_
      refine g0_0 (pc := 12) E hI rfl lkX0_11 dX0_advance_12 ?_
      refine lv_aload_n (pc := 15) hx hb dX0_advance_15 rfl (lv_at hl 0 rfl) ?_
      refine g0_2 (pc := 16) E hI rfl lkX0_19 dX0_advance_16 ?_
      have g22 := hf.1
      have hf := hf.2
      refine a0_0 (pc := 19) E hI rfl g22 dX0_advance_19 ?_
      refine lv_bipush (v := 32) (pc := 20) hx hb dX0_advance_20 rfl ?_
      refine lv_icmp_eq (tgt := 39) (pc := 22) hx hb dX0_advance_22 (by decide) (fun c23 => ?_) (fun c23 => ?_)
      · have hf := hf.1 c23
        exact bX0_advance_39 E hr hlk (fun _ _ _ _ hf hI hl => ih hf hI hl) hf hI (lv_sub hl [0] rfl)
      · have hf := hf.2 c23
        refine lv_aload_n (pc := 25) hx hb dX0_advance_25 rfl (lv_at hl 0 rfl) ?_
        refine g0_0 (pc := 26) E hI rfl lkX0_11 dX0_advance_26 ?_
        refine lv_aload_n (pc := 29) hx hb dX0_advance_29 rfl (lv_at hl 0 rfl) ?_
        refine g0_2 (pc := 30) E hI rfl lkX0_19 dX0_advance_30 ?_
        have g25 := hf.1
        have hf := hf.2
        refine a0_0 (pc := 33) E hI rfl g25 dX0_advance_33 ?_
        refine lv_bipush (v := 10) (pc := 34) hx hb dX0_advance_34 rfl ?_
        refine lv_icmp_ne (tgt := 52) (pc := 36) hx hb dX0_advance_36 (by decide) (fun c26 => ?_) (fun c26 => ?_)
        · have hf := hf.1 c26
          exact bX0_advance_52 E hr hlk hf hI (lv_sub hl [0] rfl)
        · have hf := hf.2 c26
          exact bX0_advance_39 E hr hlk (fun _ _ _ _ hf hI hl => ih hf hI hl) hf hI (lv_sub hl [0] rfl)
def wX0_advance (σ : St) (Q : St → Prop) : Prop := ∃ n27 : Nat, wX0_advance_l0 n27 σ Q
set_option maxRecDepth 100000 in
set_option maxHeartbeats 4000000 in
theorem bX0_advance {p : Program} {l : Launch} {e : Env} {s : State} {m : MethodId} {args : Array Value} {below : List Frame} {meth : Method} {c : Code} {H : Heap} {locs : List Loc} {ls : Array Slot} {D : va_G} {z : Nat → Nat} {A : Nat → Prop} {σ : St} {ad : Nat → Nat → Nat} {cy : Nat → ClassId} {Rr : va_W} {Q : St → Prop} (E : CallFix p m c cX0_advance 1 s args TB RX0) (hr : meth.sig.returnType = none) (hlk : meth.locks = false) (hf : wX0_advance σ Q) (hI : In (D, tysC cy, SF z) (LC ad cy Rr σ) A s H locs) (hl : lv_has ls 1 [(0, .ref (ad 5 99))]) : W p l e (rmD 6) s m args below meth c H locs 0 0 (PV below args s (D, tysC cy, SF z) A (LC ad cy Rr) Q) (F0 m 0 ls []) := by
  have hx := E.1
  have hb := E.2.1
  unfold wX0_advance at hf
  obtain ⟨n27, hf⟩ := hf
  exact bX0_advance_0 E hr hlk n27 hf hI (lv_sub hl [0] rfl)
theorem tX0_advance {l : Launch} {D : va_G} {z : Nat → Nat} {σ : St} {ad : Nat → Nat → Nat} {cy : Nat → ClassId} {Rr : va_W} {Q : St → Prop} (hf : wX0_advance σ Q) : CtV l yX0_advance cX0_advance 1 6 (D, tysC cy, SF z) (LC ad cy Rr) [.ref (ad 5 99)] σ Q := mkV (by decide) (Nat.le_of_ble_eq_true rfl) (fun p e s m below meth c A E hr hlk hI ls hl => bX0_advance E hr hlk hf hI hl)

def wX0_skip (p1 : Int32) (σ : St) (Q : Int32 → St → Prop) : Prop := (((gI σ 5 3) = p1 → wX0_advance σ (fun σ2 => Q 1 σ2)) ∧ (¬ (gI σ 5 3) = p1 → Q 0 σ))
set_option maxRecDepth 100000 in
set_option maxHeartbeats 4000000 in
theorem bX0_skip {p : Program} {l : Launch} {e : Env} {s : State} {m : MethodId} {args : Array Value} {below : List Frame} {meth : Method} {c : Code} {H : Heap} {locs : List Loc} {ls : Array Slot} {D : va_G} {z : Nat → Nat} {A : Nat → Prop} {σ : St} {ad : Nat → Nat → Nat} {cy : Nat → ClassId} {Rr : va_W} {Q : Int32 → St → Prop} {p1 : Int32} (E : CallFix p m c cX0_skip 2 s args TB RX0) (hr : meth.sig.returnType = some .boolean) (hlk : meth.locks = false) (hf : wX0_skip p1 σ Q) (hI : In (D, tysC cy, SF z) (LC ad cy Rr σ) A s H locs) (hl : lv_has ls 2 [(0, .ref (ad 5 99)), (1, .int p1)]) : W p l e (rmD 7) s m args below meth c H locs 0 0 (PI below args s (D, tysC cy, SF z) A (LC ad cy Rr) Q) (F0 m 0 ls []) := by
  have hx := E.1
  have hb := E.2.1
  unfold wX0_skip at hf
  refine lv_aload_n (pc := 0) hx hb dX0_skip_0 rfl (lv_at hl 0 rfl) ?_
  refine g0_3 (pc := 1) E hI rfl lkX0_22 dX0_skip_1 ?_
  refine lv_iload_n (pc := 4) hx hb dX0_skip_4 rfl (lv_at hl 1 rfl) ?_
  refine lv_icmp_eq (tgt := 10) (pc := 5) hx hb dX0_skip_5 (by decide) (fun c1 => ?_) (fun c1 => ?_)
  · have hf := hf.1 c1
    refine lv_aload_n (pc := 10) hx hb dX0_skip_10 rfl (lv_at hl 0 rfl) ?_
    refine callVV (G := (D, tysC cy, SF z)) (L := LC ad cy Rr) (pc := 11) (As := []) (rest := []) stabSF E cs0 hl hI (tX0_advance hf) mwX0_36 (fitD (by decide)) (at0 rfl) rfl rfl rfl rfl (Nat.le_of_ble_eq_true rfl) dX0_skip_11 (fun σ2 H locs hf hI => ?_)
    refine lv_iconst (v := 1) (pc := 14) hx hb dX0_skip_14 rfl ?_
    exact rZ (pc := 15) E hr hlk hI (Or.inr rfl) hf dX0_skip_15
  · have hf := hf.2 c1
    refine lv_iconst (v := 0) (pc := 8) hx hb dX0_skip_8 rfl ?_
    exact rZ (pc := 9) E hr hlk hI (Or.inl rfl) hf dX0_skip_9
theorem tX0_skip {l : Launch} {D : va_G} {z : Nat → Nat} {σ : St} {ad : Nat → Nat → Nat} {cy : Nat → ClassId} {Rr : va_W} {Q : Int32 → St → Prop} {p1 : Int32} (hf : wX0_skip p1 σ Q) : CtI l yX0_skip cX0_skip 2 .boolean 7 (D, tysC cy, SF z) (LC ad cy Rr) [.ref (ad 5 99), .int p1] σ Q := mkI (by decide) (Nat.le_of_ble_eq_true rfl) (fun p e s m below meth c A E hr hlk hI ls hl => bX0_skip E hr hlk hf hI hl)

