def wX4_figure (o : Nat) (p1 : Int32) (p2 : Int32) (σ : St) (Q : Int32 → St → Prop) : Prop := ((p1 = 0 → Q (gI σ o 2) σ) ∧ (p1 = 1 → wX4_wantOf o p2 σ (fun r4 σ3 => Q r4 σ3)) ∧ (p1 = 2 → wX4_isFilled o p2 σ (fun r7 σ6 => ((r7 = 0 → Q 0 σ6) ∧ (¬ r7 = 0 → Q 1 σ6)))) ∧ (p1 = 3 → vp_in p2 4 ∧ Q (gA σ o 4 p2.toNatClampNeg) σ) ∧ (p1 = 4 → vp_in p2 5 ∧ Q (gA σ o 7 p2.toNatClampNeg) σ) ∧ (p1 = 5 → vp_in p2 5 ∧ Q (gA σ o 8 p2.toNatClampNeg) σ) ∧ (p1 = 6 → vp_in p2 5 ∧ Q (gA σ o 9 p2.toNatClampNeg) σ) ∧ (p1 = 7 → vp_in p2 5 ∧ Q (gA σ o 10 p2.toNatClampNeg) σ) ∧ (p1 = 8 → vp_in p2 5 ∧ Q (gA σ o 6 p2.toNatClampNeg) σ) ∧ (¬ p1 = 0 → ¬ p1 = 1 → ¬ p1 = 2 → ¬ p1 = 3 → ¬ p1 = 4 → ¬ p1 = 5 → ¬ p1 = 6 → ¬ p1 = 7 → ¬ p1 = 8 → Q (-1000) σ))
set_option maxRecDepth 100000 in
set_option maxHeartbeats 4000000 in
theorem bX4_figure {p : Program} {l : Launch} {e : Env} {s : State} {m : MethodId} {args : Array Value} {below : List Frame} {meth : Method} {c : Code} {H : Heap} {locs : List Loc} {ls : Array Slot} {D : va_G} {z : Nat → Nat} {A : Nat → Prop} {σ : St} {ad : Nat → Nat → Nat} {cy : Nat → ClassId} {Rr : va_W} {Q : Int32 → St → Prop} {o : Nat} {p1 : Int32} {p2 : Int32} (E : CallFix p m c cX4_figure 3 s args TB RX4) (hr : meth.sig.returnType = some .int) (hlk : meth.locks = false) (ho : kd o = 4) (hf : wX4_figure o p1 p2 σ Q) (hI : In (D, tysC cy, SF z) (LC ad cy Rr σ) A s H locs) (hl : lv_has ls 3 [(0, .ref (ad o 99)), (1, .int p1), (2, .int p2)]) : W p l e (rmD 2) s m args below meth c H locs 0 0 (PI below args s (D, tysC cy, SF z) A (LC ad cy Rr) Q) (F0 m 0 ls []) := by
  have hx := E.1
  have hb := E.2.1
  unfold wX4_figure at hf
  refine lv_iload_n (pc := 0) hx hb dX4_figure_0 rfl (lv_at hl 1 rfl) ?_
  by_cases c1 : p1 = 0
  · refine lv_tableIn (tgt := 52) (pc := 1) hx hb dX4_figure_1 (by rw [c1]; decide) (by rw [c1]; decide) (by rw [c1]; rfl) (by decide) ?_
    have hf := hf.1 c1
    refine lv_aload_n (pc := 52) hx hb dX4_figure_52 rfl (lv_at hl 0 rfl) ?_
    refine g4_2 (pc := 53) E hI ho lkX4_19 dX4_figure_53 ?_
    exact rI (pc := 56) E hr hlk hI hf dX4_figure_56
  have hf := hf.2
  by_cases c2 : p1 = 1
  · refine lv_tableIn (tgt := 57) (pc := 1) hx hb dX4_figure_1 (by rw [c2]; decide) (by rw [c2]; decide) (by rw [c2]; rfl) (by decide) ?_
    have hf := hf.1 c2
    refine lv_aload_n (pc := 57) hx hb dX4_figure_57 rfl (lv_at hl 0 rfl) ?_
    refine lv_iload_n (pc := 58) hx hb dX4_figure_58 rfl (lv_at hl 2 rfl) ?_
    refine callVI (G := (D, tysC cy, SF z)) (L := LC ad cy Rr) (pc := 59) (As := [.int p2]) (rest := []) stabSF E cs0 hl hI (tX4_wantOf ho hf) mwX4_48 (fitD (by decide)) (at4 ho) rfl rfl rfl rfl (Nat.le_of_ble_eq_true rfl) dX4_figure_59 (fun r4 σ3 H locs hf hI => ?_)
    exact rI (pc := 62) E hr hlk hI hf dX4_figure_62
  have hf := hf.2
  by_cases c5 : p1 = 2
  · refine lv_tableIn (tgt := 63) (pc := 1) hx hb dX4_figure_1 (by rw [c5]; decide) (by rw [c5]; decide) (by rw [c5]; rfl) (by decide) ?_
    have hf := hf.1 c5
    refine lv_aload_n (pc := 63) hx hb dX4_figure_63 rfl (lv_at hl 0 rfl) ?_
    refine lv_iload_n (pc := 64) hx hb dX4_figure_64 rfl (lv_at hl 2 rfl) ?_
    refine callVI (G := (D, tysC cy, SF z)) (L := LC ad cy Rr) (pc := 65) (As := [.int p2]) (rest := []) stabSF E cs0 hl hI (tX4_isFilled ho hf) mwX4_52 (fitD (by decide)) (at4 ho) rfl rfl rfl rfl (Nat.le_of_ble_eq_true rfl) dX4_figure_65 (fun r7 σ6 H locs hf hI => ?_)
    refine lv_if_eq (tgt := 75) (pc := 68) hx hb dX4_figure_68 (by decide) (fun c8 => ?_) (fun c8 => ?_)
    · have hf := hf.1 c8
      refine lv_iconst (v := 0) (pc := 75) hx hb dX4_figure_75 rfl ?_
      exact rI (pc := 76) E hr hlk hI hf dX4_figure_76
    · have hf := hf.2 c8
      refine lv_iconst (v := 1) (pc := 71) hx hb dX4_figure_71 rfl ?_
      refine lv_goto (tgt := 76) (pc := 72) hx hb dX4_figure_72 (by decide) ?_
      exact rI (pc := 76) E hr hlk hI hf dX4_figure_76
  have hf := hf.2
  by_cases c9 : p1 = 3
  · refine lv_tableIn (tgt := 77) (pc := 1) hx hb dX4_figure_1 (by rw [c9]; decide) (by rw [c9]; decide) (by rw [c9]; rfl) (by decide) ?_
    have hf := hf.1 c9
    refine lv_aload_n (pc := 77) hx hb dX4_figure_77 rfl (lv_at hl 0 rfl) ?_
    refine g4_4 (pc := 78) E hI ho lkX4_26 dX4_figure_78 ?_
    refine lv_iload_n (pc := 81) hx hb dX4_figure_81 rfl (lv_at hl 2 rfl) ?_
    have g10 := hf.1
    have hf := hf.2
    refine a4_4 (pc := 82) E hI ho g10 dX4_figure_82 ?_
    exact rI (pc := 83) E hr hlk hI hf dX4_figure_83
  have hf := hf.2
  by_cases c11 : p1 = 4
  · refine lv_tableIn (tgt := 84) (pc := 1) hx hb dX4_figure_1 (by rw [c11]; decide) (by rw [c11]; decide) (by rw [c11]; rfl) (by decide) ?_
    have hf := hf.1 c11
    refine lv_aload_n (pc := 84) hx hb dX4_figure_84 rfl (lv_at hl 0 rfl) ?_
    refine g4_7 (pc := 85) E hI ho lkX4_36 dX4_figure_85 ?_
    refine lv_iload_n (pc := 88) hx hb dX4_figure_88 rfl (lv_at hl 2 rfl) ?_
    have g12 := hf.1
    have hf := hf.2
    refine a4_7 (pc := 89) E hI ho g12 dX4_figure_89 ?_
    exact rI (pc := 90) E hr hlk hI hf dX4_figure_90
  have hf := hf.2
  by_cases c13 : p1 = 5
  · refine lv_tableIn (tgt := 91) (pc := 1) hx hb dX4_figure_1 (by rw [c13]; decide) (by rw [c13]; decide) (by rw [c13]; rfl) (by decide) ?_
    have hf := hf.1 c13
    refine lv_aload_n (pc := 91) hx hb dX4_figure_91 rfl (lv_at hl 0 rfl) ?_
    refine g4_8 (pc := 92) E hI ho lkX4_39 dX4_figure_92 ?_
    refine lv_iload_n (pc := 95) hx hb dX4_figure_95 rfl (lv_at hl 2 rfl) ?_
    have g14 := hf.1
    have hf := hf.2
    refine a4_8 (pc := 96) E hI ho g14 dX4_figure_96 ?_
    exact rI (pc := 97) E hr hlk hI hf dX4_figure_97
  have hf := hf.2
  by_cases c15 : p1 = 6
  · refine lv_tableIn (tgt := 98) (pc := 1) hx hb dX4_figure_1 (by rw [c15]; decide) (by rw [c15]; decide) (by rw [c15]; rfl) (by decide) ?_
    have hf := hf.1 c15
    refine lv_aload_n (pc := 98) hx hb dX4_figure_98 rfl (lv_at hl 0 rfl) ?_
    refine g4_9 (pc := 99) E hI ho lkX4_42 dX4_figure_99 ?_
    refine lv_iload_n (pc := 102) hx hb dX4_figure_102 rfl (lv_at hl 2 rfl) ?_
    have g16 := hf.1
    have hf := hf.2
    refine a4_9 (pc := 103) E hI ho g16 dX4_figure_103 ?_
    exact rI (pc := 104) E hr hlk hI hf dX4_figure_104
  have hf := hf.2
  by_cases c17 : p1 = 7
  · refine lv_tableIn (tgt := 105) (pc := 1) hx hb dX4_figure_1 (by rw [c17]; decide) (by rw [c17]; decide) (by rw [c17]; rfl) (by decide) ?_
    have hf := hf.1 c17
    refine lv_aload_n (pc := 105) hx hb dX4_figure_105 rfl (lv_at hl 0 rfl) ?_
    refine g4_10 (pc := 106) E hI ho lkX4_45 dX4_figure_106 ?_
    refine lv_iload_n (pc := 109) hx hb dX4_figure_109 rfl (lv_at hl 2 rfl) ?_
    have g18 := hf.1
    have hf := hf.2
    refine a4_10 (pc := 110) E hI ho g18 dX4_figure_110 ?_
    exact rI (pc := 111) E hr hlk hI hf dX4_figure_111
  have hf := hf.2
  by_cases c19 : p1 = 8
  · refine lv_tableIn (tgt := 112) (pc := 1) hx hb dX4_figure_1 (by rw [c19]; decide) (by rw [c19]; decide) (by rw [c19]; rfl) (by decide) ?_
    have hf := hf.1 c19
    refine lv_aload_n (pc := 112) hx hb dX4_figure_112 rfl (lv_at hl 0 rfl) ?_
    refine g4_6 (pc := 113) E hI ho lkX4_33 dX4_figure_113 ?_
    refine lv_iload_n (pc := 116) hx hb dX4_figure_116 rfl (lv_at hl 2 rfl) ?_
    have g20 := hf.1
    have hf := hf.2
    refine a4_6 (pc := 117) E hI ho g20 dX4_figure_117 ?_
    exact rI (pc := 118) E hr hlk hI hf dX4_figure_118
  have hf := hf.2
  have hf := hf c1 c2 c5 c9 c11 c13 c15 c17 c19
  refine lv_tableOut (tgt := 119) (pc := 1) hx hb dX4_figure_1 (by have := neI (k := 0) c1 rfl; have := neI (k := 1) c2 rfl; have := neI (k := 2) c5 rfl; have := neI (k := 3) c9 rfl; have := neI (k := 4) c11 rfl; have := neI (k := 5) c13 rfl; have := neI (k := 6) c15 rfl; have := neI (k := 7) c17 rfl; have := neI (k := 8) c19 rfl; omega) (by decide) ?_
  refine lv_sipush (v := (-1000)) (pc := 119) hx hb dX4_figure_119 rfl ?_
  exact rI (pc := 122) E hr hlk hI hf dX4_figure_122
theorem tX4_figure {l : Launch} {D : va_G} {z : Nat → Nat} {σ : St} {ad : Nat → Nat → Nat} {cy : Nat → ClassId} {Rr : va_W} {Q : Int32 → St → Prop} {o : Nat} {p1 : Int32} {p2 : Int32} (ho : kd o = 4) (hf : wX4_figure o p1 p2 σ Q) : CtI l yX4_figure cX4_figure 3 .int 2 (D, tysC cy, SF z) (LC ad cy Rr) [.ref (ad o 99), .int p1, .int p2] σ Q := mkI (by decide) (Nat.le_of_ble_eq_true rfl) (fun p e s m below meth c A E hr hlk hI ls hl => bX4_figure E hr hlk ho hf hI hl)

def wX5_gap (p1 : Int32) (σ : St) (Q : Int32 → St → Prop) : Prop := ((p1 = 0 → wX4_longestGap 1 1 σ (fun r3 σ2 => Q r3 σ2)) ∧ (p1 = 1 → wX4_longestGap 1 0 σ (fun r6 σ5 => Q r6 σ5)) ∧ (p1 = 2 → wX4_fillableFromBox 1 σ (fun r9 σ8 => Q r9 σ8)) ∧ (p1 = 3 → wX4_coloursUnwanted 1 σ (fun r12 σ11 => Q r12 σ11)) ∧ (¬ p1 = 0 → ¬ p1 = 1 → ¬ p1 = 2 → ¬ p1 = 3 → Q (-2) σ))
set_option maxRecDepth 100000 in
set_option maxHeartbeats 4000000 in
theorem bX5_gap {p : Program} {l : Launch} {e : Env} {s : State} {m : MethodId} {args : Array Value} {below : List Frame} {meth : Method} {c : Code} {H : Heap} {locs : List Loc} {ls : Array Slot} {D : va_G} {z : Nat → Nat} {A : Nat → Prop} {σ : St} {ad : Nat → Nat → Nat} {cy : Nat → ClassId} {Rr : va_W} {Q : Int32 → St → Prop} {p1 : Int32} (E : CallFix p m c cX5_gap 2 s args TB RX5) (hr : meth.sig.returnType = some .int) (hlk : meth.locks = false) (hf : wX5_gap p1 σ Q) (hI : In (D, tysC cy, SF z) (LC ad cy Rr σ) A s H locs) (hl : lv_has ls 2 [(0, .ref (ad 0 99)), (1, .int p1)]) : W p l e (rmD 2) s m args below meth c H locs 0 0 (PI below args s (D, tysC cy, SF z) A (LC ad cy Rr) Q) (F0 m 0 ls []) := by
  have hx := E.1
  have hb := E.2.1
  unfold wX5_gap at hf
  refine lv_iload_n (pc := 0) hx hb dX5_gap_0 rfl (lv_at hl 1 rfl) ?_
  by_cases c1 : p1 = 0
  · refine lv_tableIn (tgt := 32) (pc := 1) hx hb dX5_gap_1 (by rw [c1]; decide) (by rw [c1]; decide) (by rw [c1]; rfl) (by decide) ?_
    have hf := hf.1 c1
    refine lv_aload_n (pc := 32) hx hb dX5_gap_32 rfl (lv_at hl 0 rfl) ?_
    refine g5_0 (pc := 33) E hI rfl lkX5_10 dX5_gap_33 ?_
    refine lv_iconst (v := 1) (pc := 36) hx hb dX5_gap_36 rfl ?_
    refine callVI (G := (D, tysC cy, SF z)) (L := LC ad cy Rr) (pc := 37) (As := [.int 1]) (rest := []) stabSF E cs0 hl hI (tX4_longestGap rfl hf) mwX5_177 (fitD (by decide)) (at4 rfl) rfl rfl rfl rfl (Nat.le_of_ble_eq_true rfl) dX5_gap_37 (fun r3 σ2 H locs hf hI => ?_)
    exact rI (pc := 40) E hr hlk hI hf dX5_gap_40
  have hf := hf.2
  by_cases c4 : p1 = 1
  · refine lv_tableIn (tgt := 41) (pc := 1) hx hb dX5_gap_1 (by rw [c4]; decide) (by rw [c4]; decide) (by rw [c4]; rfl) (by decide) ?_
    have hf := hf.1 c4
    refine lv_aload_n (pc := 41) hx hb dX5_gap_41 rfl (lv_at hl 0 rfl) ?_
    refine g5_0 (pc := 42) E hI rfl lkX5_10 dX5_gap_42 ?_
    refine lv_iconst (v := 0) (pc := 45) hx hb dX5_gap_45 rfl ?_
    refine callVI (G := (D, tysC cy, SF z)) (L := LC ad cy Rr) (pc := 46) (As := [.int 0]) (rest := []) stabSF E cs0 hl hI (tX4_longestGap rfl hf) mwX5_177 (fitD (by decide)) (at4 rfl) rfl rfl rfl rfl (Nat.le_of_ble_eq_true rfl) dX5_gap_46 (fun r6 σ5 H locs hf hI => ?_)
    exact rI (pc := 49) E hr hlk hI hf dX5_gap_49
  have hf := hf.2
  by_cases c7 : p1 = 2
  · refine lv_tableIn (tgt := 50) (pc := 1) hx hb dX5_gap_1 (by rw [c7]; decide) (by rw [c7]; decide) (by rw [c7]; rfl) (by decide) ?_
    have hf := hf.1 c7
    refine lv_aload_n (pc := 50) hx hb dX5_gap_50 rfl (lv_at hl 0 rfl) ?_
    refine g5_0 (pc := 51) E hI rfl lkX5_10 dX5_gap_51 ?_
    refine callVI (G := (D, tysC cy, SF z)) (L := LC ad cy Rr) (pc := 54) (As := []) (rest := []) stabSF E cs0 hl hI (tX4_fillableFromBox rfl hf) mwX5_181 (fitD (by decide)) (at4 rfl) rfl rfl rfl rfl (Nat.le_of_ble_eq_true rfl) dX5_gap_54 (fun r9 σ8 H locs hf hI => ?_)
    exact rI (pc := 57) E hr hlk hI hf dX5_gap_57
  have hf := hf.2
  by_cases c10 : p1 = 3
  · refine lv_tableIn (tgt := 58) (pc := 1) hx hb dX5_gap_1 (by rw [c10]; decide) (by rw [c10]; decide) (by rw [c10]; rfl) (by decide) ?_
    have hf := hf.1 c10
    refine lv_aload_n (pc := 58) hx hb dX5_gap_58 rfl (lv_at hl 0 rfl) ?_
    refine g5_0 (pc := 59) E hI rfl lkX5_10 dX5_gap_59 ?_
    refine callVI (G := (D, tysC cy, SF z)) (L := LC ad cy Rr) (pc := 62) (As := []) (rest := []) stabSF E cs0 hl hI (tX4_coloursUnwanted rfl hf) mwX5_184 (fitD (by decide)) (at4 rfl) rfl rfl rfl rfl (Nat.le_of_ble_eq_true rfl) dX5_gap_62 (fun r12 σ11 H locs hf hI => ?_)
    exact rI (pc := 65) E hr hlk hI hf dX5_gap_65
  have hf := hf.2
  have hf := hf c1 c4 c7 c10
  refine lv_tableOut (tgt := 66) (pc := 1) hx hb dX5_gap_1 (by have := neI (k := 0) c1 rfl; have := neI (k := 1) c4 rfl; have := neI (k := 2) c7 rfl; have := neI (k := 3) c10 rfl; omega) (by decide) ?_
  refine lv_bipush (v := (-2)) (pc := 66) hx hb dX5_gap_66 rfl ?_
  exact rI (pc := 68) E hr hlk hI hf dX5_gap_68
theorem tX5_gap {l : Launch} {D : va_G} {z : Nat → Nat} {σ : St} {ad : Nat → Nat → Nat} {cy : Nat → ClassId} {Rr : va_W} {Q : Int32 → St → Prop} {p1 : Int32} (hf : wX5_gap p1 σ Q) : CtI l yX5_gap cX5_gap 2 .int 2 (D, tysC cy, SF z) (LC ad cy Rr) [.ref (ad 0 99), .int p1] σ Q := mkI (by decide) (Nat.le_of_ble_eq_true rfl) (fun p e s m below meth c A E hr hlk hI ls hl => bX5_gap E hr hlk hf hI hl)

def wX5_share (p1 : Int32) (σ : St) (Q : Int64 → St → Prop) : Prop := wX4_squaresGiven 1 σ (fun r2 σ1 => ((p1 < 0 → Q (-4611686018427387904) σ1) ∧ (¬ p1 < 0 → ((1 < p1 → Q (-4611686018427387904) σ1) ∧ (¬ 1 < p1 → ((¬ r2 = 0 → wX4_filledCells 1 σ1 (fun r7 σ6 => wX5_lowest r7 r2 p1 σ6 (fun r9 σ8 => Q r9 σ8))) ∧ (r2 = 0 → Q (-4611686018427387904) σ1)))))))
set_option maxRecDepth 100000 in
set_option maxHeartbeats 4000000 in
theorem bX5_share {p : Program} {l : Launch} {e : Env} {s : State} {m : MethodId} {args : Array Value} {below : List Frame} {meth : Method} {c : Code} {H : Heap} {locs : List Loc} {ls : Array Slot} {D : va_G} {z : Nat → Nat} {A : Nat → Prop} {σ : St} {ad : Nat → Nat → Nat} {cy : Nat → ClassId} {Rr : va_W} {Q : Int64 → St → Prop} {p1 : Int32} (E : CallFix p m c cX5_share 3 s args TB RX5) (hr : meth.sig.returnType = some .long) (hlk : meth.locks = false) (hf : wX5_share p1 σ Q) (hI : In (D, tysC cy, SF z) (LC ad cy Rr σ) A s H locs) (hl : lv_has ls 3 [(0, .ref (ad 0 99)), (1, .int p1)]) : W p l e (rmD 2) s m args below meth c H locs 0 0 (PJ below args s (D, tysC cy, SF z) A (LC ad cy Rr) Q) (F0 m 0 ls []) := by
  have hx := E.1
  have hb := E.2.1
  unfold wX5_share at hf
  refine lv_aload_n (pc := 0) hx hb dX5_share_0 rfl (lv_at hl 0 rfl) ?_
  refine g5_0 (pc := 1) E hI rfl lkX5_10 dX5_share_1 ?_
  refine callVI (G := (D, tysC cy, SF z)) (L := LC ad cy Rr) (pc := 4) (As := []) (rest := []) stabSF E cs0 hl hI (tX4_squaresGiven rfl hf) mwX5_187 (fitD (by decide)) (at4 rfl) rfl rfl rfl rfl (Nat.le_of_ble_eq_true rfl) dX5_share_4 (fun r2 σ1 H locs hf hI => ?_)
  refine lv_istore_n (lv' := [(2, .int r2), (0, .ref (ad 0 99)), (1, .int p1)]) (pc := 7) hx hb dX5_share_7 rfl hl (by decide) rfl (fun ls hl => ?_)
  refine lv_iload_n (pc := 8) hx hb dX5_share_8 rfl (lv_at hl 2 rfl) ?_
  refine lv_if_lt (tgt := 21) (pc := 9) hx hb dX5_share_9 (by decide) (fun c3 => ?_) (fun c3 => ?_)
  · have hf := hf.1 c3
    refine lv_ldc2 (pc := 21) E.1 E.2.1 E.2.2.2.1 (E.2.2.2.2 _ kcX5_119) dX5_share_21 ?_
    exact rJ (pc := 24) E hr hlk hI hf dX5_share_24
  · have hf := hf.2 c3
    refine lv_iload_n (pc := 12) hx hb dX5_share_12 rfl (lv_at hl 2 rfl) ?_
    refine lv_iconst (v := 1) (pc := 13) hx hb dX5_share_13 rfl ?_
    refine lv_icmp_gt (tgt := 21) (pc := 14) hx hb dX5_share_14 (by decide) (fun c4 => ?_) (fun c4 => ?_)
    · have hf := hf.1 c4
      refine lv_ldc2 (pc := 21) E.1 E.2.1 E.2.2.2.1 (E.2.2.2.2 _ kcX5_119) dX5_share_21 ?_
      exact rJ (pc := 24) E hr hlk hI hf dX5_share_24
    · have hf := hf.2 c4
      refine lv_iload_n (pc := 17) hx hb dX5_share_17 rfl (lv_at hl 0 rfl) ?_
      refine lv_if_ne (tgt := 25) (pc := 18) hx hb dX5_share_18 (by decide) (fun c5 => ?_) (fun c5 => ?_)
      · have hf := hf.1 c5
        refine lv_aload_n (pc := 25) hx hb dX5_share_25 rfl (lv_at hl 1 rfl) ?_
        refine g5_0 (pc := 26) E hI rfl lkX5_10 dX5_share_26 ?_
        refine callVI (G := (D, tysC cy, SF z)) (L := LC ad cy Rr) (pc := 29) (As := []) (rest := []) stabSF E cs0 hl hI (tX4_filledCells rfl hf) mwX5_131 (fitD (by decide)) (at4 rfl) rfl rfl rfl rfl (Nat.le_of_ble_eq_true rfl) dX5_share_29 (fun r7 σ6 H locs hf hI => ?_)
        refine lv_iload_n (pc := 32) hx hb dX5_share_32 rfl (lv_at hl 0 rfl) ?_
        refine lv_iload_n (pc := 33) hx hb dX5_share_33 rfl (lv_at hl 2 rfl) ?_
        refine callSJ (G := (D, tysC cy, SF z)) (L := LC ad cy Rr) (pc := 34) (As := [.int r7, .int r2, .int p1]) (rest := []) stabSF E cs0 hl hI (tX5_lowest hf) mwX5_190 (fitD (by decide)) rfl rfl (Nat.le_of_ble_eq_true rfl) dX5_share_34 (fun r9 σ8 H locs hf hI => ?_)
        exact rJ (pc := 37) E hr hlk hI hf dX5_share_37
      · have hf := hf.2 c5
        refine lv_ldc2 (pc := 21) E.1 E.2.1 E.2.2.2.1 (E.2.2.2.2 _ kcX5_119) dX5_share_21 ?_
        exact rJ (pc := 24) E hr hlk hI hf dX5_share_24
theorem tX5_share {l : Launch} {D : va_G} {z : Nat → Nat} {σ : St} {ad : Nat → Nat → Nat} {cy : Nat → ClassId} {Rr : va_W} {Q : Int64 → St → Prop} {p1 : Int32} (hf : wX5_share p1 σ Q) : CtJ l yX5_share cX5_share 3 2 (D, tysC cy, SF z) (LC ad cy Rr) [.ref (ad 0 99), .int p1] σ Q := mkJ (by decide) (Nat.le_of_ble_eq_true rfl) (fun p e s m below meth c A E hr hlk hI ls hl => bX5_share E hr hlk hf hI hl)

def wX5_count (p1 : Int32) (σ : St) (Q : Int32 → St → Prop) : Prop := ((p1 = 0 → Q (gI σ 1 5) σ) ∧ (p1 = 1 → wX4_filledCells 1 σ (fun r4 σ3 => Q r4 σ3)) ∧ (p1 = 2 → Q (gI σ 1 2) σ) ∧ (p1 = 3 → Q (gI σ 4 1) σ) ∧ (p1 = 4 → Q (gI σ 5 1) σ) ∧ (p1 = 5 → Q (gI σ 1 3) σ) ∧ (¬ p1 = 0 → ¬ p1 = 1 → ¬ p1 = 2 → ¬ p1 = 3 → ¬ p1 = 4 → ¬ p1 = 5 → Q (-2) σ))
set_option maxRecDepth 100000 in
set_option maxHeartbeats 4000000 in
theorem bX5_count {p : Program} {l : Launch} {e : Env} {s : State} {m : MethodId} {args : Array Value} {below : List Frame} {meth : Method} {c : Code} {H : Heap} {locs : List Loc} {ls : Array Slot} {D : va_G} {z : Nat → Nat} {A : Nat → Prop} {σ : St} {ad : Nat → Nat → Nat} {cy : Nat → ClassId} {Rr : va_W} {Q : Int32 → St → Prop} {p1 : Int32} (E : CallFix p m c cX5_count 2 s args TB RX5) (hr : meth.sig.returnType = some .int) (hlk : meth.locks = false) (hf : wX5_count p1 σ Q) (hI : In (D, tysC cy, SF z) (LC ad cy Rr σ) A s H locs) (hl : lv_has ls 2 [(0, .ref (ad 0 99)), (1, .int p1)]) : W p l e (rmD 2) s m args below meth c H locs 0 0 (PI below args s (D, tysC cy, SF z) A (LC ad cy Rr) Q) (F0 m 0 ls []) := by
  have hx := E.1
  have hb := E.2.1
  unfold wX5_count at hf
  refine lv_iload_n (pc := 0) hx hb dX5_count_0 rfl (lv_at hl 1 rfl) ?_
  by_cases c1 : p1 = 0
  · refine lv_tableIn (tgt := 40) (pc := 1) hx hb dX5_count_1 (by rw [c1]; decide) (by rw [c1]; decide) (by rw [c1]; rfl) (by decide) ?_
    have hf := hf.1 c1
    refine lv_aload_n (pc := 40) hx hb dX5_count_40 rfl (lv_at hl 0 rfl) ?_
    refine g5_0 (pc := 41) E hI rfl lkX5_10 dX5_count_41 ?_
    refine g4_5 (pc := 44) E hI rfl lkX5_134 dX5_count_44 ?_
    exact rI (pc := 47) E hr hlk hI hf dX5_count_47
  have hf := hf.2
  by_cases c2 : p1 = 1
  · refine lv_tableIn (tgt := 48) (pc := 1) hx hb dX5_count_1 (by rw [c2]; decide) (by rw [c2]; decide) (by rw [c2]; rfl) (by decide) ?_
    have hf := hf.1 c2
    refine lv_aload_n (pc := 48) hx hb dX5_count_48 rfl (lv_at hl 0 rfl) ?_
    refine g5_0 (pc := 49) E hI rfl lkX5_10 dX5_count_49 ?_
    refine callVI (G := (D, tysC cy, SF z)) (L := LC ad cy Rr) (pc := 52) (As := []) (rest := []) stabSF E cs0 hl hI (tX4_filledCells rfl hf) mwX5_131 (fitD (by decide)) (at4 rfl) rfl rfl rfl rfl (Nat.le_of_ble_eq_true rfl) dX5_count_52 (fun r4 σ3 H locs hf hI => ?_)
    exact rI (pc := 55) E hr hlk hI hf dX5_count_55
  have hf := hf.2
  by_cases c5 : p1 = 2
  · refine lv_tableIn (tgt := 56) (pc := 1) hx hb dX5_count_1 (by rw [c5]; decide) (by rw [c5]; decide) (by rw [c5]; rfl) (by decide) ?_
    have hf := hf.1 c5
    refine lv_aload_n (pc := 56) hx hb dX5_count_56 rfl (lv_at hl 0 rfl) ?_
    refine g5_0 (pc := 57) E hI rfl lkX5_10 dX5_count_57 ?_
    refine g4_2 (pc := 60) E hI rfl lkX5_124 dX5_count_60 ?_
    exact rI (pc := 63) E hr hlk hI hf dX5_count_63
  have hf := hf.2
  by_cases c6 : p1 = 3
  · refine lv_tableIn (tgt := 64) (pc := 1) hx hb dX5_count_1 (by rw [c6]; decide) (by rw [c6]; decide) (by rw [c6]; rfl) (by decide) ?_
    have hf := hf.1 c6
    refine lv_aload_n (pc := 64) hx hb dX5_count_64 rfl (lv_at hl 0 rfl) ?_
    refine g5_4 (pc := 65) E hI rfl lkX5_29 dX5_count_65 ?_
    refine g1_1 (pc := 68) E hI rfl lkX5_74 dX5_count_68 ?_
    exact rI (pc := 71) E hr hlk hI hf dX5_count_71
  have hf := hf.2
  by_cases c7 : p1 = 4
  · refine lv_tableIn (tgt := 72) (pc := 1) hx hb dX5_count_1 (by rw [c7]; decide) (by rw [c7]; decide) (by rw [c7]; rfl) (by decide) ?_
    have hf := hf.1 c7
    refine lv_aload_n (pc := 72) hx hb dX5_count_72 rfl (lv_at hl 0 rfl) ?_
    refine g5_5 (pc := 73) E hI rfl lkX5_36 dX5_count_73 ?_
    refine g0_1 (pc := 76) E hI rfl lkX5_223 dX5_count_76 ?_
    exact rI (pc := 79) E hr hlk hI hf dX5_count_79
  have hf := hf.2
  by_cases c8 : p1 = 5
  · refine lv_tableIn (tgt := 80) (pc := 1) hx hb dX5_count_1 (by rw [c8]; decide) (by rw [c8]; decide) (by rw [c8]; rfl) (by decide) ?_
    have hf := hf.1 c8
    refine lv_aload_n (pc := 80) hx hb dX5_count_80 rfl (lv_at hl 0 rfl) ?_
    refine g5_0 (pc := 81) E hI rfl lkX5_10 dX5_count_81 ?_
    refine g4_3 (pc := 84) E hI rfl lkX5_121 dX5_count_84 ?_
    exact rI (pc := 87) E hr hlk hI hf dX5_count_87
  have hf := hf.2
  have hf := hf c1 c2 c5 c6 c7 c8
  refine lv_tableOut (tgt := 88) (pc := 1) hx hb dX5_count_1 (by have := neI (k := 0) c1 rfl; have := neI (k := 1) c2 rfl; have := neI (k := 2) c5 rfl; have := neI (k := 3) c6 rfl; have := neI (k := 4) c7 rfl; have := neI (k := 5) c8 rfl; omega) (by decide) ?_
  refine lv_bipush (v := (-2)) (pc := 88) hx hb dX5_count_88 rfl ?_
  exact rI (pc := 90) E hr hlk hI hf dX5_count_90
theorem tX5_count {l : Launch} {D : va_G} {z : Nat → Nat} {σ : St} {ad : Nat → Nat → Nat} {cy : Nat → ClassId} {Rr : va_W} {Q : Int32 → St → Prop} {p1 : Int32} (hf : wX5_count p1 σ Q) : CtI l yX5_count cX5_count 2 .int 2 (D, tysC cy, SF z) (LC ad cy Rr) [.ref (ad 0 99), .int p1] σ Q := mkI (by decide) (Nat.le_of_ble_eq_true rfl) (fun p e s m below meth c A E hr hlk hI ls hl => bX5_count E hr hlk hf hI hl)

def wX5_exarchate_j134 (a3 : Int32) (a4 : Int32) (q5 : Nat) (a6 : Int32) (a7 : Int32) (σ : St) (K : Int32 → Int32 → Nat → Int32 → Int32 → St → Prop) (Q : Int32 → St → Prop) : Prop := ∀ x26 : Int32, x26 = a7 + 1 → (K a3 a4 q5 a6 x26 σ)
set_option maxRecDepth 100000 in
set_option maxHeartbeats 4000000 in
theorem bX5_exarchate_134 {p : Program} {l : Launch} {e : Env} {s : State} {m : MethodId} {args : Array Value} {below : List Frame} {meth : Method} {c : Code} {H : Heap} {locs : List Loc} {ls : Array Slot} {D : va_G} {z : Nat → Nat} {A : Nat → Prop} {σ : St} {ad : Nat → Nat → Nat} {cy : Nat → ClassId} {Rr : va_W} {Q : Int32 → St → Prop} {a3 : Int32} {a4 : Int32} {q5 : Nat} {a6 : Int32} {a7 : Int32} {K : Int32 → Int32 → Nat → Int32 → Int32 → St → Prop} (E : CallFix p m c cX5_exarchate 9 s args TB RX5) (hr : meth.sig.returnType = some .int) (hlk : meth.locks = false) (hq5 : kd q5 = 2) (hK : ∀ (a3 : Int32) (a4 : Int32) (q5 : Nat) (a6 : Int32) (a7 : Int32) (_ : kd q5 = 2) (σ : St) (H : Heap) (locs : List Loc) (ls : Array Slot), K a3 a4 q5 a6 a7 σ → In (D, tysC cy, SF z) (LC ad cy Rr σ) A s H locs → lv_has ls 9 [(0, .ref (ad 0 99)), (3, .int a3), (4, .int a4), (5, .ref (ad q5 99)), (6, .int a6), (7, .int a7)] → W p l e (rmD 2) s m args below meth c H locs 0 0 (PI below args s (D, tysC cy, SF z) A (LC ad cy Rr) Q) (F0 m 67 ls [])) (hf : wX5_exarchate_j134 a3 a4 q5 a6 a7 σ K Q) (hI : In (D, tysC cy, SF z) (LC ad cy Rr σ) A s H locs) (hl : lv_has ls 9 [(0, .ref (ad 0 99)), (3, .int a3), (4, .int a4), (5, .ref (ad q5 99)), (6, .int a6), (7, .int a7)]) : W p l e (rmD 2) s m args below meth c H locs 0 0 (PI below args s (D, tysC cy, SF z) A (LC ad cy Rr) Q) (F0 m 134 ls []) := by
  have hx := E.1
  have hb := E.2.1
  unfold wX5_exarchate_j134 at hf
  obtain ⟨x26, ex26⟩ : ∃ y : Int32, y = a7 + 1 := ⟨_, rfl⟩
  have hf := hf x26 ex26
  refine lv_iinc (v := x26) (lv' := [(7, .int x26), (0, .ref (ad 0 99)), (3, .int a3), (4, .int a4), (5, .ref (ad q5 99)), (6, .int a6)]) (pc := 134) hx hb dX5_exarchate_134 hl (k := 5) rfl (by rw [ex26]; rfl) (by decide) rfl (fun ls hl => ?_)
  refine lv_goto (tgt := 67) (pc := 137) hx hb dX5_exarchate_137 (by decide) ?_
  exact hK _ _ _ _ _ hq5 _ _ _ _ hf hI (lv_sub hl [1, 2, 3, 4, 5, 0] rfl)
def wX5_exarchate_l67s (ih : Int32 → Int32 → Nat → Int32 → Int32 → St → Prop) (a3 : Int32) (a4 : Int32) (q5 : Nat) (a6 : Int32) (a7 : Int32) (σ : St) (Q : Int32 → St → Prop) : Prop := ((a4 ≤ a7 → Q a6 σ) ∧ (¬ a4 ≤ a7 → ∀ x16 : Int32, x16 = (a3 + (3 * a7)) → wX2_hasRow q5 x16 3 σ (fun r18 σ17 => ((¬ r18 = 0 → vp_in x16 40 ∧ vp_in (x16 + 1) 40 ∧ vp_in (x16 + 2) 40 ∧ wX5_person (gA σ17 q5 0 x16.toNatClampNeg) (gA σ17 q5 0 (x16 + 1).toNatClampNeg) (gA σ17 q5 0 (x16 + 2).toNatClampNeg) σ17 (fun r24 σ23 => ((r24 < 0 → (wX5_exarchate_j134 a3 a4 q5 a6 a7 σ23 ih Q)) ∧ (¬ r24 < 0 → ∀ x27 : Int32, x27 = a6 + 1 → (wX5_exarchate_j134 a3 a4 q5 x27 a7 σ23 ih Q))))) ∧ (r18 = 0 → Q (-12) σ17)))))
def wX5_exarchate_l67 (n : Nat) : Int32 → Int32 → Nat → Int32 → Int32 → St → (Int32 → St → Prop) → Prop := @Nat.rec (fun _ => Int32 → Int32 → Nat → Int32 → Int32 → St → (Int32 → St → Prop) → Prop) (fun _ _ _ _ _ _ _ => False) (fun _ ih a3 a4 q5 a6 a7 σ Q => wX5_exarchate_l67s (fun a3 a4 q5 a6 a7 σ => ih a3 a4 q5 a6 a7 σ Q) a3 a4 q5 a6 a7 σ Q) n
set_option maxRecDepth 100000 in
set_option maxHeartbeats 4000000 in
theorem bX5_exarchate_67 {p : Program} {l : Launch} {e : Env} {s : State} {m : MethodId} {args : Array Value} {below : List Frame} {meth : Method} {c : Code} {D : va_G} {z : Nat → Nat} {A : Nat → Prop} {ad : Nat → Nat → Nat} {cy : Nat → ClassId} {Rr : va_W} {Q : Int32 → St → Prop} (E : CallFix p m c cX5_exarchate 9 s args TB RX5) (hr : meth.sig.returnType = some .int) (hlk : meth.locks = false) : ∀ (n : Nat) {a3 : Int32} {a4 : Int32} {q5 : Nat} {a6 : Int32} {a7 : Int32} (hq5 : kd q5 = 2) {σ : St} {H : Heap} {locs : List Loc} {ls : Array Slot}, wX5_exarchate_l67 n a3 a4 q5 a6 a7 σ Q → In (D, tysC cy, SF z) (LC ad cy Rr σ) A s H locs → lv_has ls 9 [(0, .ref (ad 0 99)), (3, .int a3), (4, .int a4), (5, .ref (ad q5 99)), (6, .int a6), (7, .int a7)] → W p l e (rmD 2) s m args below meth c H locs 0 0 (PI below args s (D, tysC cy, SF z) A (LC ad cy Rr) Q) (F0 m 67 ls []) := by
  have hx := E.1
  have hb := E.2.1
  intro n
  induction n with
  | zero => intro a3 a4 q5 a6 a7 hq5 σ H locs ls hf hI hl; exact False.elim hf
  | succ n ih =>
    intro a3 a4 q5 a6 a7 hq5 σ H locs ls hf hI hl
    have hf : wX5_exarchate_l67s (fun a3 a4 q5 a6 a7 σ => wX5_exarchate_l67 n a3 a4 q5 a6 a7 σ Q) a3 a4 q5 a6 a7 σ Q := hf
    unfold wX5_exarchate_l67s at hf
    refine lv_iload (pc := 67) hx hb dX5_exarchate_67 (lv_at hl 5 rfl) ?_
    refine lv_iload (pc := 69) hx hb dX5_exarchate_69 (lv_at hl 2 rfl) ?_
    refine lv_icmp_ge (tgt := 140) (pc := 71) hx hb dX5_exarchate_71 (by decide) (fun c15 => ?_) (fun c15 => ?_)
    · have hf := hf.1 c15
      refine lv_iload (pc := 140) hx hb dX5_exarchate_140 (lv_at hl 4 rfl) ?_
      exact rI (pc := 142) E hr hlk hI hf dX5_exarchate_142
    · have hf := hf.2 c15
      refine lv_iload_n (pc := 74) hx hb dX5_exarchate_74 rfl (lv_at hl 1 rfl) ?_
      refine lv_iconst (v := 3) (pc := 75) hx hb dX5_exarchate_75 rfl ?_
      refine lv_iload (pc := 76) hx hb dX5_exarchate_76 (lv_at hl 5 rfl) ?_
      refine lv_imul (pc := 78) hx hb dX5_exarchate_78 ?_
      refine lv_iadd (pc := 79) hx hb dX5_exarchate_79 ?_
      refine lv_topi (fun x16 ex16 => ?_)
      have hf := hf x16 ex16
      refine lv_istore (lv' := [(8, .int x16), (0, .ref (ad 0 99)), (3, .int a3), (4, .int a4), (5, .ref (ad q5 99)), (6, .int a6), (7, .int a7)]) (pc := 80) hx hb dX5_exarchate_80 hl (by decide) rfl (fun ls hl => ?_)
      refine lv_aload (pc := 82) hx hb dX5_exarchate_82 (lv_at hl 4 rfl) ?_
      refine lv_iload (pc := 84) hx hb dX5_exarchate_84 (lv_at hl 0 rfl) ?_
      refine lv_iconst (v := 3) (pc := 86) hx hb dX5_exarchate_86 rfl ?_
      refine callVI (G := (D, tysC cy, SF z)) (L := LC ad cy Rr) (pc := 87) (As := [.int x16, .int 3]) (rest := []) stabSF E cs0 hl hI (tX2_hasRow hq5 hf) mwX5_227 (fitD (by decide)) (at2 hq5) rfl rfl rfl rfl (Nat.le_of_ble_eq_true rfl) dX5_exarchate_87 (fun r18 σ17 H locs hf hI => ?_)
      refine lv_if_ne (tgt := 96) (pc := 90) hx hb dX5_exarchate_90 (by decide) (fun c19 => ?_) (fun c19 => ?_)
      · have hf := hf.1 c19
        refine lv_aload_n (pc := 96) hx hb dX5_exarchate_96 rfl (lv_at hl 1 rfl) ?_
        refine lv_aload (pc := 97) hx hb dX5_exarchate_97 (lv_at hl 4 rfl) ?_
        refine g2_0 (pc := 99) E hI hq5 lkX5_230 dX5_exarchate_99 ?_
        refine lv_iload (pc := 102) hx hb dX5_exarchate_102 (lv_at hl 0 rfl) ?_
        have g20 := hf.1
        have hf := hf.2
        refine a2_0 (pc := 104) E hI hq5 g20 dX5_exarchate_104 ?_
        refine lv_aload (pc := 105) hx hb dX5_exarchate_105 (lv_at hl 4 rfl) ?_
        refine g2_0 (pc := 107) E hI hq5 lkX5_230 dX5_exarchate_107 ?_
        refine lv_iload (pc := 110) hx hb dX5_exarchate_110 (lv_at hl 0 rfl) ?_
        refine lv_iconst (v := 1) (pc := 112) hx hb dX5_exarchate_112 rfl ?_
        refine lv_iadd (pc := 113) hx hb dX5_exarchate_113 ?_
        have g21 := hf.1
        have hf := hf.2
        refine a2_0 (pc := 114) E hI hq5 g21 dX5_exarchate_114 ?_
        refine lv_aload (pc := 115) hx hb dX5_exarchate_115 (lv_at hl 4 rfl) ?_
        refine g2_0 (pc := 117) E hI hq5 lkX5_230 dX5_exarchate_117 ?_
        refine lv_iload (pc := 120) hx hb dX5_exarchate_120 (lv_at hl 0 rfl) ?_
        refine lv_iconst (v := 2) (pc := 122) hx hb dX5_exarchate_122 rfl ?_
        refine lv_iadd (pc := 123) hx hb dX5_exarchate_123 ?_
        have g22 := hf.1
        have hf := hf.2
        refine a2_0 (pc := 124) E hI hq5 g22 dX5_exarchate_124 ?_
        refine callVI (G := (D, tysC cy, SF z)) (L := LC ad cy Rr) (pc := 125) (As := [.int (gA σ17 q5 0 x16.toNatClampNeg), .int (gA σ17 q5 0 (x16 + 1).toNatClampNeg), .int (gA σ17 q5 0 (x16 + 2).toNatClampNeg)]) (rest := []) stabSF E cs0 hl hI (tX5_person hf) mwX5_239 (fitD (by decide)) (at5 rfl) rfl rfl rfl rfl (Nat.le_of_ble_eq_true rfl) dX5_exarchate_125 (fun r24 σ23 H locs hf hI => ?_)
        refine lv_if_lt (tgt := 134) (pc := 128) hx hb dX5_exarchate_128 (by decide) (fun c25 => ?_) (fun c25 => ?_)
        · have hf := hf.1 c25
          exact bX5_exarchate_134 E hr hlk hq5 (fun _ _ _ _ _ hq5 _ _ _ _ hf hI hl => ih hq5 hf hI hl) hf hI (lv_sub hl [1, 2, 3, 4, 5, 6] rfl)
        · have hf := hf.2 c25
          obtain ⟨x27, ex27⟩ : ∃ y : Int32, y = a6 + 1 := ⟨_, rfl⟩
          have hf := hf x27 ex27
          refine lv_iinc (v := x27) (lv' := [(6, .int x27), (8, .int x16), (0, .ref (ad 0 99)), (3, .int a3), (4, .int a4), (5, .ref (ad q5 99)), (7, .int a7)]) (pc := 131) hx hb dX5_exarchate_131 hl (k := 5) rfl (by rw [ex27]; rfl) (by decide) rfl (fun ls hl => ?_)
          exact bX5_exarchate_134 E hr hlk hq5 (fun _ _ _ _ _ hq5 _ _ _ _ hf hI hl => ih hq5 hf hI hl) hf hI (lv_sub hl [2, 3, 4, 5, 0, 6] rfl)
      · have hf := hf.2 c19
        refine lv_bipush (v := (-12)) (pc := 93) hx hb dX5_exarchate_93 rfl ?_
        exact rI (pc := 95) E hr hlk hI hf dX5_exarchate_95
def wX5_exarchate (p1 : Int32) (p2 : Int32) (p3 : Int32) (p4 : Int32) (σ : St) (Q : Int32 → St → Prop) : Prop := wX5_isIn p1 4 σ (fun r2 σ1 => ((r2 = 0 → Q (-2) σ1) ∧ (¬ r2 = 0 → wX5_isIn p2 3 σ1 (fun r5 σ4 => ((r5 = 0 → Q (-2) σ4) ∧ (¬ r5 = 0 → ((p4 < 0 → Q (-2) σ4) ∧ (¬ p4 < 0 → ((p4 ≤ 5 → vp_in p1 4 ∧ ∀ o10 : Nat, o10 = 12 + p1.toNatClampNeg → wX2_isMissing o10 σ4 (fun r12 σ11 => ((r12 = 0 → (((gI σ11 o10 2) = p2 → ∃ n28 : Nat, wX5_exarchate_l67 n28 p3 p4 o10 0 0 σ11 Q) ∧ (¬ (gI σ11 o10 2) = p2 → Q (-13) σ11))) ∧ (¬ r12 = 0 → Q (-11) σ11)))) ∧ (¬ p4 ≤ 5 → Q (-2) σ4))))))))))
set_option maxRecDepth 100000 in
set_option maxHeartbeats 4000000 in
theorem bX5_exarchate {p : Program} {l : Launch} {e : Env} {s : State} {m : MethodId} {args : Array Value} {below : List Frame} {meth : Method} {c : Code} {H : Heap} {locs : List Loc} {ls : Array Slot} {D : va_G} {z : Nat → Nat} {A : Nat → Prop} {σ : St} {ad : Nat → Nat → Nat} {cy : Nat → ClassId} {Rr : va_W} {Q : Int32 → St → Prop} {p1 : Int32} {p2 : Int32} {p3 : Int32} {p4 : Int32} (E : CallFix p m c cX5_exarchate 9 s args TB RX5) (hr : meth.sig.returnType = some .int) (hlk : meth.locks = false) (hf : wX5_exarchate p1 p2 p3 p4 σ Q) (hI : In (D, tysC cy, SF z) (LC ad cy Rr σ) A s H locs) (hl : lv_has ls 9 [(0, .ref (ad 0 99)), (1, .int p1), (2, .int p2), (3, .int p3), (4, .int p4)]) : W p l e (rmD 2) s m args below meth c H locs 0 0 (PI below args s (D, tysC cy, SF z) A (LC ad cy Rr) Q) (F0 m 0 ls []) := by
  have hx := E.1
  have hb := E.2.1
  unfold wX5_exarchate at hf
  refine lv_iload_n (pc := 0) hx hb dX5_exarchate_0 rfl (lv_at hl 1 rfl) ?_
  refine lv_iconst (v := 4) (pc := 1) hx hb dX5_exarchate_1 rfl ?_
  refine callSI (G := (D, tysC cy, SF z)) (L := LC ad cy Rr) (pc := 2) (As := [.int p1, .int 4]) (rest := []) stabSF E cs0 hl hI (tX5_isIn hf) mwX5_94 (fitD (by decide)) rfl rfl (Nat.le_of_ble_eq_true rfl) dX5_exarchate_2 (fun r2 σ1 H locs hf hI => ?_)
  refine lv_if_eq (tgt := 27) (pc := 5) hx hb dX5_exarchate_5 (by decide) (fun c3 => ?_) (fun c3 => ?_)
  · have hf := hf.1 c3
    refine lv_bipush (v := (-2)) (pc := 27) hx hb dX5_exarchate_27 rfl ?_
    exact rI (pc := 29) E hr hlk hI hf dX5_exarchate_29
  · have hf := hf.2 c3
    refine lv_iload_n (pc := 8) hx hb dX5_exarchate_8 rfl (lv_at hl 2 rfl) ?_
    refine lv_iconst (v := 3) (pc := 9) hx hb dX5_exarchate_9 rfl ?_
    refine callSI (G := (D, tysC cy, SF z)) (L := LC ad cy Rr) (pc := 10) (As := [.int p2, .int 3]) (rest := []) stabSF E cs0 hl hI (tX5_isIn hf) mwX5_94 (fitD (by decide)) rfl rfl (Nat.le_of_ble_eq_true rfl) dX5_exarchate_10 (fun r5 σ4 H locs hf hI => ?_)
    refine lv_if_eq (tgt := 27) (pc := 13) hx hb dX5_exarchate_13 (by decide) (fun c6 => ?_) (fun c6 => ?_)
    · have hf := hf.1 c6
      refine lv_bipush (v := (-2)) (pc := 27) hx hb dX5_exarchate_27 rfl ?_
      exact rI (pc := 29) E hr hlk hI hf dX5_exarchate_29
    · have hf := hf.2 c6
      refine lv_iload (pc := 16) hx hb dX5_exarchate_16 (lv_at hl 4 rfl) ?_
      refine lv_if_lt (tgt := 27) (pc := 18) hx hb dX5_exarchate_18 (by decide) (fun c7 => ?_) (fun c7 => ?_)
      · have hf := hf.1 c7
        refine lv_bipush (v := (-2)) (pc := 27) hx hb dX5_exarchate_27 rfl ?_
        exact rI (pc := 29) E hr hlk hI hf dX5_exarchate_29
      · have hf := hf.2 c7
        refine lv_iload (pc := 21) hx hb dX5_exarchate_21 (lv_at hl 4 rfl) ?_
        refine lv_iconst (v := 5) (pc := 23) hx hb dX5_exarchate_23 rfl ?_
        refine lv_icmp_le (tgt := 30) (pc := 24) hx hb dX5_exarchate_24 (by decide) (fun c8 => ?_) (fun c8 => ?_)
        · have hf := hf.1 c8
          refine lv_aload_n (pc := 30) hx hb dX5_exarchate_30 rfl (lv_at hl 0 rfl) ?_
          refine g5_6 (pc := 31) E hI rfl lkX5_42 dX5_exarchate_31 ?_
          refine lv_iload_n (pc := 34) hx hb dX5_exarchate_34 rfl (lv_at hl 1 rfl) ?_
          have g9 := hf.1
          have hf := hf.2
          refine a5_6n (pc := 35) E hI rfl g9 dX5_exarchate_35 (fun o10 eo10 ho10 => ?_)
          have hf := hf o10 eo10
          refine lv_astore (lv' := [(5, .ref (ad o10 99)), (0, .ref (ad 0 99)), (1, .int p1), (2, .int p2), (3, .int p3), (4, .int p4)]) (pc := 36) hx hb dX5_exarchate_36 hl (by decide) rfl (fun ls hl => ?_)
          refine lv_aload (pc := 38) hx hb dX5_exarchate_38 (lv_at hl 0 rfl) ?_
          refine callVI (G := (D, tysC cy, SF z)) (L := LC ad cy Rr) (pc := 40) (As := []) (rest := []) stabSF E cs0 hl hI (tX2_isMissing ho10 hf) mwX5_194 (fitD (by decide)) (at2 ho10) rfl rfl rfl rfl (Nat.le_of_ble_eq_true rfl) dX5_exarchate_40 (fun r12 σ11 H locs hf hI => ?_)
          refine lv_if_eq (tgt := 49) (pc := 43) hx hb dX5_exarchate_43 (by decide) (fun c13 => ?_) (fun c13 => ?_)
          · have hf := hf.1 c13
            refine lv_aload (pc := 49) hx hb dX5_exarchate_49 (lv_at hl 0 rfl) ?_
            refine g2_2 (pc := 51) E hI ho10 lkX5_224 dX5_exarchate_51 ?_
            refine lv_iload_n (pc := 54) hx hb dX5_exarchate_54 rfl (lv_at hl 3 rfl) ?_
            refine lv_icmp_eq (tgt := 61) (pc := 55) hx hb dX5_exarchate_55 (by decide) (fun c14 => ?_) (fun c14 => ?_)
            · have hf := hf.1 c14
              refine lv_iconst (v := 0) (pc := 61) hx hb dX5_exarchate_61 rfl ?_
              refine lv_istore (lv' := [(6, .int 0), (5, .ref (ad o10 99)), (0, .ref (ad 0 99)), (1, .int p1), (2, .int p2), (3, .int p3), (4, .int p4)]) (pc := 62) hx hb dX5_exarchate_62 hl (by decide) rfl (fun ls hl => ?_)
              refine lv_iconst (v := 0) (pc := 64) hx hb dX5_exarchate_64 rfl ?_
              refine lv_istore (lv' := [(7, .int 0), (6, .int 0), (5, .ref (ad o10 99)), (0, .ref (ad 0 99)), (1, .int p1), (2, .int p2), (3, .int p3), (4, .int p4)]) (pc := 65) hx hb dX5_exarchate_65 hl (by decide) rfl (fun ls hl => ?_)
              obtain ⟨n28, hf⟩ := hf
              exact bX5_exarchate_67 E hr hlk n28 ho10 hf hI (lv_sub hl [3, 6, 7, 2, 1, 0] rfl)
            · have hf := hf.2 c14
              refine lv_bipush (v := (-13)) (pc := 58) hx hb dX5_exarchate_58 rfl ?_
              exact rI (pc := 60) E hr hlk hI hf dX5_exarchate_60
          · have hf := hf.2 c13
            refine lv_bipush (v := (-11)) (pc := 46) hx hb dX5_exarchate_46 rfl ?_
            exact rI (pc := 48) E hr hlk hI hf dX5_exarchate_48
        · have hf := hf.2 c8
          refine lv_bipush (v := (-2)) (pc := 27) hx hb dX5_exarchate_27 rfl ?_
          exact rI (pc := 29) E hr hlk hI hf dX5_exarchate_29
theorem tX5_exarchate {l : Launch} {D : va_G} {z : Nat → Nat} {σ : St} {ad : Nat → Nat → Nat} {cy : Nat → ClassId} {Rr : va_W} {Q : Int32 → St → Prop} {p1 : Int32} {p2 : Int32} {p3 : Int32} {p4 : Int32} (hf : wX5_exarchate p1 p2 p3 p4 σ Q) : CtI l yX5_exarchate cX5_exarchate 9 .int 2 (D, tysC cy, SF z) (LC ad cy Rr) [.ref (ad 0 99), .int p1, .int p2, .int p3, .int p4] σ Q := mkI (by decide) (Nat.le_of_ble_eq_true rfl) (fun p e s m below meth c A E hr hlk hI ls hl => bX5_exarchate E hr hlk hf hI hl)

def wX5_taken (p1 : Int32) (p2 : Int32) (σ : St) (Q : Int32 → St → Prop) : Prop := wX5_isIn p2 6 σ (fun r2 σ1 => ((¬ r2 = 0 → wX5_isIn p1 (gI σ1 1 5) σ1 (fun r5 σ4 => ((¬ r5 = 0 → vp_in p1 5 ∧ wX5_isUnder (gA σ4 1 6 p1.toNatClampNeg) p2 σ4 (fun r9 σ8 => ((r9 = 0 → Q (-13) σ8) ∧ (¬ r9 = 0 → vp_in p1 5 ∧ Q (gA σ8 1 7 p1.toNatClampNeg) σ8)))) ∧ (r5 = 0 → Q (-11) σ4)))) ∧ (r2 = 0 → Q (-2) σ1)))
set_option maxRecDepth 100000 in
set_option maxHeartbeats 4000000 in
theorem bX5_taken {p : Program} {l : Launch} {e : Env} {s : State} {m : MethodId} {args : Array Value} {below : List Frame} {meth : Method} {c : Code} {H : Heap} {locs : List Loc} {ls : Array Slot} {D : va_G} {z : Nat → Nat} {A : Nat → Prop} {σ : St} {ad : Nat → Nat → Nat} {cy : Nat → ClassId} {Rr : va_W} {Q : Int32 → St → Prop} {p1 : Int32} {p2 : Int32} (E : CallFix p m c cX5_taken 3 s args TB RX5) (hr : meth.sig.returnType = some .int) (hlk : meth.locks = false) (hf : wX5_taken p1 p2 σ Q) (hI : In (D, tysC cy, SF z) (LC ad cy Rr σ) A s H locs) (hl : lv_has ls 3 [(0, .ref (ad 0 99)), (1, .int p1), (2, .int p2)]) : W p l e (rmD 2) s m args below meth c H locs 0 0 (PI below args s (D, tysC cy, SF z) A (LC ad cy Rr) Q) (F0 m 0 ls []) := by
  have hx := E.1
  have hb := E.2.1
  unfold wX5_taken at hf
  refine lv_iload_n (pc := 0) hx hb dX5_taken_0 rfl (lv_at hl 2 rfl) ?_
  refine lv_bipush (v := 6) (pc := 1) hx hb dX5_taken_1 rfl ?_
  refine callSI (G := (D, tysC cy, SF z)) (L := LC ad cy Rr) (pc := 3) (As := [.int p2, .int 6]) (rest := []) stabSF E cs0 hl hI (tX5_isIn hf) mwX5_94 (fitD (by decide)) rfl rfl (Nat.le_of_ble_eq_true rfl) dX5_taken_3 (fun r2 σ1 H locs hf hI => ?_)
  refine lv_if_ne (tgt := 12) (pc := 6) hx hb dX5_taken_6 (by decide) (fun c3 => ?_) (fun c3 => ?_)
  · have hf := hf.1 c3
    refine lv_iload_n (pc := 12) hx hb dX5_taken_12 rfl (lv_at hl 1 rfl) ?_
    refine lv_aload_n (pc := 13) hx hb dX5_taken_13 rfl (lv_at hl 0 rfl) ?_
    refine g5_0 (pc := 14) E hI rfl lkX5_10 dX5_taken_14 ?_
    refine g4_5 (pc := 17) E hI rfl lkX5_134 dX5_taken_17 ?_
    refine callSI (G := (D, tysC cy, SF z)) (L := LC ad cy Rr) (pc := 20) (As := [.int p1, .int (gI σ1 1 5)]) (rest := []) stabSF E cs0 hl hI (tX5_isIn hf) mwX5_94 (fitD (by decide)) rfl rfl (Nat.le_of_ble_eq_true rfl) dX5_taken_20 (fun r5 σ4 H locs hf hI => ?_)
    refine lv_if_ne (tgt := 29) (pc := 23) hx hb dX5_taken_23 (by decide) (fun c6 => ?_) (fun c6 => ?_)
    · have hf := hf.1 c6
      refine lv_aload_n (pc := 29) hx hb dX5_taken_29 rfl (lv_at hl 0 rfl) ?_
      refine g5_0 (pc := 30) E hI rfl lkX5_10 dX5_taken_30 ?_
      refine g4_6 (pc := 33) E hI rfl lkX5_242 dX5_taken_33 ?_
      refine lv_iload_n (pc := 36) hx hb dX5_taken_36 rfl (lv_at hl 1 rfl) ?_
      have g7 := hf.1
      have hf := hf.2
      refine a4_6 (pc := 37) E hI rfl g7 dX5_taken_37 ?_
      refine lv_iload_n (pc := 38) hx hb dX5_taken_38 rfl (lv_at hl 2 rfl) ?_
      refine callSI (G := (D, tysC cy, SF z)) (L := LC ad cy Rr) (pc := 39) (As := [.int (gA σ4 1 6 p1.toNatClampNeg), .int p2]) (rest := []) stabSF E cs0 hl hI (tX5_isUnder hf) mwX5_245 (fitD (by decide)) rfl rfl (Nat.le_of_ble_eq_true rfl) dX5_taken_39 (fun r9 σ8 H locs hf hI => ?_)
      refine lv_if_eq (tgt := 57) (pc := 42) hx hb dX5_taken_42 (by decide) (fun c10 => ?_) (fun c10 => ?_)
      · have hf := hf.1 c10
        refine lv_bipush (v := (-13)) (pc := 57) hx hb dX5_taken_57 rfl ?_
        exact rI (pc := 59) E hr hlk hI hf dX5_taken_59
      · have hf := hf.2 c10
        refine lv_aload_n (pc := 45) hx hb dX5_taken_45 rfl (lv_at hl 0 rfl) ?_
        refine g5_0 (pc := 46) E hI rfl lkX5_10 dX5_taken_46 ?_
        refine g4_7 (pc := 49) E hI rfl lkX5_248 dX5_taken_49 ?_
        refine lv_iload_n (pc := 52) hx hb dX5_taken_52 rfl (lv_at hl 1 rfl) ?_
        have g11 := hf.1
        have hf := hf.2
        refine a4_7 (pc := 53) E hI rfl g11 dX5_taken_53 ?_
        refine lv_goto (tgt := 59) (pc := 54) hx hb dX5_taken_54 (by decide) ?_
        exact rI (pc := 59) E hr hlk hI hf dX5_taken_59
    · have hf := hf.2 c6
      refine lv_bipush (v := (-11)) (pc := 26) hx hb dX5_taken_26 rfl ?_
      exact rI (pc := 28) E hr hlk hI hf dX5_taken_28
  · have hf := hf.2 c3
    refine lv_bipush (v := (-2)) (pc := 9) hx hb dX5_taken_9 rfl ?_
    exact rI (pc := 11) E hr hlk hI hf dX5_taken_11
theorem tX5_taken {l : Launch} {D : va_G} {z : Nat → Nat} {σ : St} {ad : Nat → Nat → Nat} {cy : Nat → ClassId} {Rr : va_W} {Q : Int32 → St → Prop} {p1 : Int32} {p2 : Int32} (hf : wX5_taken p1 p2 σ Q) : CtI l yX5_taken cX5_taken 3 .int 2 (D, tysC cy, SF z) (LC ad cy Rr) [.ref (ad 0 99), .int p1, .int p2] σ Q := mkI (by decide) (Nat.le_of_ble_eq_true rfl) (fun p e s m below meth c A E hr hlk hI ls hl => bX5_taken E hr hlk hf hI hl)

def wX5_thinkDrawn_l8s (ih : Int32 → Int32 → St → Prop) (a2 : Int32) (a3 : Int32) (σ : St) (Q : St → Prop) : Prop := ((64 ≤ a3 → Q σ) ∧ (¬ 64 ≤ a3 → ∀ x3 : Int32, x3 = ((a2 * 1103515245) + 12345) → wX4_wish 2 a3 (irm (iusr x3 9) 4) σ (fun σ4 => ∀ x5 : Int32, x5 = a3 + 1 → (ih x3 x5 σ4))))
def wX5_thinkDrawn_l8 (n : Nat) : Int32 → Int32 → St → (St → Prop) → Prop := @Nat.rec (fun _ => Int32 → Int32 → St → (St → Prop) → Prop) (fun _ _ _ _ => False) (fun _ ih a2 a3 σ Q => wX5_thinkDrawn_l8s (fun a2 a3 σ => ih a2 a3 σ Q) a2 a3 σ Q) n
set_option maxRecDepth 100000 in
set_option maxHeartbeats 4000000 in
theorem bX5_thinkDrawn_8 {p : Program} {l : Launch} {e : Env} {s : State} {m : MethodId} {args : Array Value} {below : List Frame} {meth : Method} {c : Code} {D : va_G} {z : Nat → Nat} {A : Nat → Prop} {ad : Nat → Nat → Nat} {cy : Nat → ClassId} {Rr : va_W} {Q : St → Prop} (E : CallFix p m c cX5_thinkDrawn 4 s args TB RX5) (hr : meth.sig.returnType = none) (hlk : meth.locks = false) : ∀ (n : Nat) {a2 : Int32} {a3 : Int32} {σ : St} {H : Heap} {locs : List Loc} {ls : Array Slot}, wX5_thinkDrawn_l8 n a2 a3 σ Q → In (D, tysC cy, SF z) (LC ad cy Rr σ) A s H locs → lv_has ls 4 [(0, .ref (ad 0 99)), (2, .int a2), (3, .int a3)] → W p l e (rmD 2) s m args below meth c H locs 0 0 (PV below args s (D, tysC cy, SF z) A (LC ad cy Rr) Q) (F0 m 8 ls []) := by
  have hx := E.1
  have hb := E.2.1
  intro n
  induction n with
  | zero => intro a2 a3 σ H locs ls hf hI hl; exact False.elim hf
  | succ n ih =>
    intro a2 a3 σ H locs ls hf hI hl
    have hf : wX5_thinkDrawn_l8s (fun a2 a3 σ => wX5_thinkDrawn_l8 n a2 a3 σ Q) a2 a3 σ Q := hf
    unfold wX5_thinkDrawn_l8s at hf
    refine lv_iload_n (pc := 8) hx hb dX5_thinkDrawn_8 rfl (lv_at hl 2 rfl) ?_
    refine lv_bipush (v := 64) (pc := 9) hx hb dX5_thinkDrawn_9 rfl ?_
    refine lv_icmp_ge (tgt := 43) (pc := 11) hx hb dX5_thinkDrawn_11 (by decide) (fun c2 => ?_) (fun c2 => ?_)
    · have hf := hf.1 c2
      exact rV (pc := 43) E hr hlk hI hf dX5_thinkDrawn_43
    · have hf := hf.2 c2
      refine lv_iload_n (pc := 14) hx hb dX5_thinkDrawn_14 rfl (lv_at hl 1 rfl) ?_
      refine lv_ldc (pc := 15) E.1 E.2.1 E.2.2.2.1 (E.2.2.2.2 _ kcX5_254) dX5_thinkDrawn_15 ?_
      refine lv_imul (pc := 17) hx hb dX5_thinkDrawn_17 ?_
      refine lv_sipush (v := 12345) (pc := 18) hx hb dX5_thinkDrawn_18 rfl ?_
      refine lv_iadd (pc := 21) hx hb dX5_thinkDrawn_21 ?_
      refine lv_topi (fun x3 ex3 => ?_)
      have hf := hf x3 ex3
      refine lv_istore_n (lv' := [(2, .int x3), (0, .ref (ad 0 99)), (3, .int a3)]) (pc := 22) hx hb dX5_thinkDrawn_22 rfl hl (by decide) rfl (fun ls hl => ?_)
      refine lv_aload_n (pc := 23) hx hb dX5_thinkDrawn_23 rfl (lv_at hl 1 rfl) ?_
      refine g5_1 (pc := 24) E hI rfl lkX5_16 dX5_thinkDrawn_24 ?_
      refine lv_iload_n (pc := 27) hx hb dX5_thinkDrawn_27 rfl (lv_at hl 2 rfl) ?_
      refine lv_iload_n (pc := 28) hx hb dX5_thinkDrawn_28 rfl (lv_at hl 0 rfl) ?_
      refine lv_bipush (v := 9) (pc := 29) hx hb dX5_thinkDrawn_29 rfl ?_
      refine lv_iushr (v := (iusr x3 9)) (pc := 31) hx hb dX5_thinkDrawn_31 rfl ?_
      refine lv_iconst (v := 4) (pc := 32) hx hb dX5_thinkDrawn_32 rfl ?_
      refine lv_irem1 (pc := 33) hx hb dX5_thinkDrawn_33 (by decide) ?_
      refine callVV (G := (D, tysC cy, SF z)) (L := LC ad cy Rr) (pc := 34) (As := [.int a3, .int (irm (iusr x3 9) 4)]) (rest := []) stabSF E cs0 hl hI (tX4_wish rfl hf) mwX5_173 (fitD (by decide)) (at4 rfl) rfl rfl rfl rfl (Nat.le_of_ble_eq_true rfl) dX5_thinkDrawn_34 (fun σ4 H locs hf hI => ?_)
      obtain ⟨x5, ex5⟩ : ∃ y : Int32, y = a3 + 1 := ⟨_, rfl⟩
      have hf := hf x5 ex5
      refine lv_iinc (v := x5) (lv' := [(3, .int x5), (2, .int x3), (0, .ref (ad 0 99))]) (pc := 37) hx hb dX5_thinkDrawn_37 hl (k := 2) rfl (by rw [ex5]; rfl) (by decide) rfl (fun ls hl => ?_)
      refine lv_goto (tgt := 8) (pc := 40) hx hb dX5_thinkDrawn_40 (by decide) ?_
      exact ih hf hI (lv_sub hl [2, 1, 0] rfl)
def wX5_thinkDrawn (p1 : Int32) (σ : St) (Q : St → Prop) : Prop := wX5_think σ (fun σ1 => ∃ n6 : Nat, wX5_thinkDrawn_l8 n6 p1 0 σ1 Q)
set_option maxRecDepth 100000 in
set_option maxHeartbeats 4000000 in
theorem bX5_thinkDrawn {p : Program} {l : Launch} {e : Env} {s : State} {m : MethodId} {args : Array Value} {below : List Frame} {meth : Method} {c : Code} {H : Heap} {locs : List Loc} {ls : Array Slot} {D : va_G} {z : Nat → Nat} {A : Nat → Prop} {σ : St} {ad : Nat → Nat → Nat} {cy : Nat → ClassId} {Rr : va_W} {Q : St → Prop} {p1 : Int32} (E : CallFix p m c cX5_thinkDrawn 4 s args TB RX5) (hr : meth.sig.returnType = none) (hlk : meth.locks = false) (hf : wX5_thinkDrawn p1 σ Q) (hI : In (D, tysC cy, SF z) (LC ad cy Rr σ) A s H locs) (hl : lv_has ls 4 [(0, .ref (ad 0 99)), (1, .int p1)]) : W p l e (rmD 2) s m args below meth c H locs 0 0 (PV below args s (D, tysC cy, SF z) A (LC ad cy Rr) Q) (F0 m 0 ls []) := by
  have hx := E.1
  have hb := E.2.1
  unfold wX5_thinkDrawn at hf
  refine lv_aload_n (pc := 0) hx hb dX5_thinkDrawn_0 rfl (lv_at hl 0 rfl) ?_
  refine callVV (G := (D, tysC cy, SF z)) (L := LC ad cy Rr) (pc := 1) (As := []) (rest := []) stabSF E cs0 hl hI (tX5_think hf) mwX5_137 (fitD (by decide)) (at5 rfl) rfl rfl rfl rfl (Nat.le_of_ble_eq_true rfl) dX5_thinkDrawn_1 (fun σ1 H locs hf hI => ?_)
  refine lv_iload_n (pc := 4) hx hb dX5_thinkDrawn_4 rfl (lv_at hl 1 rfl) ?_
  refine lv_istore_n (lv' := [(2, .int p1), (0, .ref (ad 0 99)), (1, .int p1)]) (pc := 5) hx hb dX5_thinkDrawn_5 rfl hl (by decide) rfl (fun ls hl => ?_)
  refine lv_iconst (v := 0) (pc := 6) hx hb dX5_thinkDrawn_6 rfl ?_
  refine lv_istore_n (lv' := [(3, .int 0), (2, .int p1), (0, .ref (ad 0 99)), (1, .int p1)]) (pc := 7) hx hb dX5_thinkDrawn_7 rfl hl (by decide) rfl (fun ls hl => ?_)
  obtain ⟨n6, hf⟩ := hf
  exact bX5_thinkDrawn_8 E hr hlk n6 hf hI (lv_sub hl [2, 1, 0] rfl)
theorem tX5_thinkDrawn {l : Launch} {D : va_G} {z : Nat → Nat} {σ : St} {ad : Nat → Nat → Nat} {cy : Nat → ClassId} {Rr : va_W} {Q : St → Prop} {p1 : Int32} (hf : wX5_thinkDrawn p1 σ Q) : CtV l yX5_thinkDrawn cX5_thinkDrawn 4 2 (D, tysC cy, SF z) (LC ad cy Rr) [.ref (ad 0 99), .int p1] σ Q := mkV (by decide) (Nat.le_of_ble_eq_true rfl) (fun p e s m below meth c A E hr hlk hI ls hl => bX5_thinkDrawn E hr hlk hf hI hl)

def wX1_daysNeeded (oa : Nat) (p2 : Int32) (σ : St) (Q : Int32 → St → Prop) : Prop := vp_in p2 5 ∧ ∀ x2 : Int32, x2 = (gA σ oa 6 p2.toNatClampNeg) → ((x2 = 1 → wX1_reckon 0 oa p2 σ (fun r5 σ4 => wX1_daysBounded (r5 / 2) σ4 (fun r7 σ6 => Q r7 σ6))) ∧ (x2 = 2 → wX1_reckon 0 oa p2 σ (fun r10 σ9 => vp_in p2 5 ∧ wX1_daysBounded (r10 + (gA σ9 oa 7 p2.toNatClampNeg)) σ9 (fun r13 σ12 => Q r13 σ12))) ∧ (x2 = 3 → wX1_reckon 0 oa p2 σ (fun r16 σ15 => wX1_daysBounded ((r16 / 2) + 3) σ15 (fun r18 σ17 => Q r18 σ17))) ∧ (x2 = 4 → wX4_squaresInBox oa σ (fun r21 σ20 => ((¬ r21 = 0 → wX1_reckon 0 oa p2 σ20 (fun r24 σ23 => vp_in p2 5 ∧ wX1_daysBounded (r24 + (gA σ23 oa 7 p2.toNatClampNeg)) σ23 (fun r27 σ26 => Q r27 σ26))) ∧ (r21 = 0 → Q 2 σ20)))) ∧ (x2 = 5 → Q 1 σ) ∧ (¬ x2 = 1 → ¬ x2 = 2 → ¬ x2 = 3 → ¬ x2 = 4 → ¬ x2 = 5 → wX1_reckon 0 oa p2 σ (fun r30 σ29 => wX1_daysBounded r30 σ29 (fun r32 σ31 => Q r32 σ31))))
set_option maxRecDepth 100000 in
set_option maxHeartbeats 4000000 in
theorem bX1_daysNeeded {p : Program} {l : Launch} {e : Env} {s : State} {m : MethodId} {args : Array Value} {below : List Frame} {meth : Method} {c : Code} {H : Heap} {locs : List Loc} {ls : Array Slot} {D : va_G} {z : Nat → Nat} {A : Nat → Prop} {σ : St} {ad : Nat → Nat → Nat} {cy : Nat → ClassId} {Rr : va_W} {Q : Int32 → St → Prop} {oa : Nat} {p2 : Int32} (E : CallFix p m c cX1_daysNeeded 3 s args TB RX1) (hr : meth.sig.returnType = some .int) (hlk : meth.locks = false) (hoa : kd oa = 4) (hf : wX1_daysNeeded oa p2 σ Q) (hI : In (D, tysC cy, SF z) (LC ad cy Rr σ) A s H locs) (hl : lv_has ls 3 [(0, .ref (ad 4 99)), (1, .ref (ad oa 99)), (2, .int p2)]) : W p l e (rmD 3) s m args below meth c H locs 0 0 (PI below args s (D, tysC cy, SF z) A (LC ad cy Rr) Q) (F0 m 0 ls []) := by
  have hx := E.1
  have hb := E.2.1
  unfold wX1_daysNeeded at hf
  refine lv_aload_n (pc := 0) hx hb dX1_daysNeeded_0 rfl (lv_at hl 1 rfl) ?_
  refine g4_6 (pc := 1) E hI hoa lkX1_63 dX1_daysNeeded_1 ?_
  refine lv_iload_n (pc := 4) hx hb dX1_daysNeeded_4 rfl (lv_at hl 2 rfl) ?_
  have g1 := hf.1
  have hf := hf.2
  refine a4_6 (pc := 5) E hI hoa g1 dX1_daysNeeded_5 ?_
  refine lv_topi (fun x2 ex2 => ?_)
  have hf := hf x2 ex2
  by_cases c3 : x2 = 1
  · refine lv_tableIn (tgt := 40) (pc := 6) hx hb dX1_daysNeeded_6 (by rw [c3]; decide) (by rw [c3]; decide) (by rw [c3]; rfl) (by decide) ?_
    have hf := hf.1 c3
    refine lv_aload_n (pc := 40) hx hb dX1_daysNeeded_40 rfl (lv_at hl 0 rfl) ?_
    refine lv_iconst (v := 0) (pc := 41) hx hb dX1_daysNeeded_41 rfl ?_
    refine lv_aload_n (pc := 42) hx hb dX1_daysNeeded_42 rfl (lv_at hl 1 rfl) ?_
    refine lv_iload_n (pc := 43) hx hb dX1_daysNeeded_43 rfl (lv_at hl 2 rfl) ?_
    refine callVI (G := (D, tysC cy, SF z)) (L := LC ad cy Rr) (pc := 44) (As := [.int 0, .ref (ad oa 99), .int p2]) (rest := []) stabSF E cs0 hl hI (tX1_reckon hoa hf) mwX1_66 (fitD (by decide)) (at1 rfl) rfl rfl rfl rfl (Nat.le_of_ble_eq_true rfl) dX1_daysNeeded_44 (fun r5 σ4 H locs hf hI => ?_)
    refine lv_iconst (v := 2) (pc := 47) hx hb dX1_daysNeeded_47 rfl ?_
    refine lv_idiv (pc := 48) hx hb dX1_daysNeeded_48 (by decide) ?_
    refine callSI (G := (D, tysC cy, SF z)) (L := LC ad cy Rr) (pc := 49) (As := [.int (r5 / 2)]) (rest := []) stabSF E cs0 hl hI (tX1_daysBounded hf) mwX1_70 (fitD (by decide)) rfl rfl (Nat.le_of_ble_eq_true rfl) dX1_daysNeeded_49 (fun r7 σ6 H locs hf hI => ?_)
    exact rI (pc := 52) E hr hlk hI hf dX1_daysNeeded_52
  have hf := hf.2
  by_cases c8 : x2 = 2
  · refine lv_tableIn (tgt := 53) (pc := 6) hx hb dX1_daysNeeded_6 (by rw [c8]; decide) (by rw [c8]; decide) (by rw [c8]; rfl) (by decide) ?_
    have hf := hf.1 c8
    refine lv_aload_n (pc := 53) hx hb dX1_daysNeeded_53 rfl (lv_at hl 0 rfl) ?_
    refine lv_iconst (v := 0) (pc := 54) hx hb dX1_daysNeeded_54 rfl ?_
    refine lv_aload_n (pc := 55) hx hb dX1_daysNeeded_55 rfl (lv_at hl 1 rfl) ?_
    refine lv_iload_n (pc := 56) hx hb dX1_daysNeeded_56 rfl (lv_at hl 2 rfl) ?_
    refine callVI (G := (D, tysC cy, SF z)) (L := LC ad cy Rr) (pc := 57) (As := [.int 0, .ref (ad oa 99), .int p2]) (rest := []) stabSF E cs0 hl hI (tX1_reckon hoa hf) mwX1_66 (fitD (by decide)) (at1 rfl) rfl rfl rfl rfl (Nat.le_of_ble_eq_true rfl) dX1_daysNeeded_57 (fun r10 σ9 H locs hf hI => ?_)
    refine lv_aload_n (pc := 60) hx hb dX1_daysNeeded_60 rfl (lv_at hl 1 rfl) ?_
    refine g4_7 (pc := 61) E hI hoa lkX1_74 dX1_daysNeeded_61 ?_
    refine lv_iload_n (pc := 64) hx hb dX1_daysNeeded_64 rfl (lv_at hl 2 rfl) ?_
    have g11 := hf.1
    have hf := hf.2
    refine a4_7 (pc := 65) E hI hoa g11 dX1_daysNeeded_65 ?_
    refine lv_iadd (pc := 66) hx hb dX1_daysNeeded_66 ?_
    refine callSI (G := (D, tysC cy, SF z)) (L := LC ad cy Rr) (pc := 67) (As := [.int (r10 + (gA σ9 oa 7 p2.toNatClampNeg))]) (rest := []) stabSF E cs0 hl hI (tX1_daysBounded hf) mwX1_70 (fitD (by decide)) rfl rfl (Nat.le_of_ble_eq_true rfl) dX1_daysNeeded_67 (fun r13 σ12 H locs hf hI => ?_)
    exact rI (pc := 70) E hr hlk hI hf dX1_daysNeeded_70
  have hf := hf.2
  by_cases c14 : x2 = 3
  · refine lv_tableIn (tgt := 71) (pc := 6) hx hb dX1_daysNeeded_6 (by rw [c14]; decide) (by rw [c14]; decide) (by rw [c14]; rfl) (by decide) ?_
    have hf := hf.1 c14
    refine lv_aload_n (pc := 71) hx hb dX1_daysNeeded_71 rfl (lv_at hl 0 rfl) ?_
    refine lv_iconst (v := 0) (pc := 72) hx hb dX1_daysNeeded_72 rfl ?_
    refine lv_aload_n (pc := 73) hx hb dX1_daysNeeded_73 rfl (lv_at hl 1 rfl) ?_
    refine lv_iload_n (pc := 74) hx hb dX1_daysNeeded_74 rfl (lv_at hl 2 rfl) ?_
    refine callVI (G := (D, tysC cy, SF z)) (L := LC ad cy Rr) (pc := 75) (As := [.int 0, .ref (ad oa 99), .int p2]) (rest := []) stabSF E cs0 hl hI (tX1_reckon hoa hf) mwX1_66 (fitD (by decide)) (at1 rfl) rfl rfl rfl rfl (Nat.le_of_ble_eq_true rfl) dX1_daysNeeded_75 (fun r16 σ15 H locs hf hI => ?_)
    refine lv_iconst (v := 2) (pc := 78) hx hb dX1_daysNeeded_78 rfl ?_
    refine lv_idiv (pc := 79) hx hb dX1_daysNeeded_79 (by decide) ?_
    refine lv_iconst (v := 3) (pc := 80) hx hb dX1_daysNeeded_80 rfl ?_
    refine lv_iadd (pc := 81) hx hb dX1_daysNeeded_81 ?_
    refine callSI (G := (D, tysC cy, SF z)) (L := LC ad cy Rr) (pc := 82) (As := [.int ((r16 / 2) + 3)]) (rest := []) stabSF E cs0 hl hI (tX1_daysBounded hf) mwX1_70 (fitD (by decide)) rfl rfl (Nat.le_of_ble_eq_true rfl) dX1_daysNeeded_82 (fun r18 σ17 H locs hf hI => ?_)
    exact rI (pc := 85) E hr hlk hI hf dX1_daysNeeded_85
  have hf := hf.2
  by_cases c19 : x2 = 4
  · refine lv_tableIn (tgt := 86) (pc := 6) hx hb dX1_daysNeeded_6 (by rw [c19]; decide) (by rw [c19]; decide) (by rw [c19]; rfl) (by decide) ?_
    have hf := hf.1 c19
    refine lv_aload_n (pc := 86) hx hb dX1_daysNeeded_86 rfl (lv_at hl 1 rfl) ?_
    refine callVI (G := (D, tysC cy, SF z)) (L := LC ad cy Rr) (pc := 87) (As := []) (rest := []) stabSF E cs0 hl hI (tX4_squaresInBox hoa hf) mwX1_77 (fitD (by decide)) (at4 hoa) rfl rfl rfl rfl (Nat.le_of_ble_eq_true rfl) dX1_daysNeeded_87 (fun r21 σ20 H locs hf hI => ?_)
    refine lv_if_ne (tgt := 95) (pc := 90) hx hb dX1_daysNeeded_90 (by decide) (fun c22 => ?_) (fun c22 => ?_)
    · have hf := hf.1 c22
      refine lv_aload_n (pc := 95) hx hb dX1_daysNeeded_95 rfl (lv_at hl 0 rfl) ?_
      refine lv_iconst (v := 0) (pc := 96) hx hb dX1_daysNeeded_96 rfl ?_
      refine lv_aload_n (pc := 97) hx hb dX1_daysNeeded_97 rfl (lv_at hl 1 rfl) ?_
      refine lv_iload_n (pc := 98) hx hb dX1_daysNeeded_98 rfl (lv_at hl 2 rfl) ?_
      refine callVI (G := (D, tysC cy, SF z)) (L := LC ad cy Rr) (pc := 99) (As := [.int 0, .ref (ad oa 99), .int p2]) (rest := []) stabSF E cs0 hl hI (tX1_reckon hoa hf) mwX1_66 (fitD (by decide)) (at1 rfl) rfl rfl rfl rfl (Nat.le_of_ble_eq_true rfl) dX1_daysNeeded_99 (fun r24 σ23 H locs hf hI => ?_)
      refine lv_aload_n (pc := 102) hx hb dX1_daysNeeded_102 rfl (lv_at hl 1 rfl) ?_
      refine g4_7 (pc := 103) E hI hoa lkX1_74 dX1_daysNeeded_103 ?_
      refine lv_iload_n (pc := 106) hx hb dX1_daysNeeded_106 rfl (lv_at hl 2 rfl) ?_
      have g25 := hf.1
      have hf := hf.2
      refine a4_7 (pc := 107) E hI hoa g25 dX1_daysNeeded_107 ?_
      refine lv_iadd (pc := 108) hx hb dX1_daysNeeded_108 ?_
      refine callSI (G := (D, tysC cy, SF z)) (L := LC ad cy Rr) (pc := 109) (As := [.int (r24 + (gA σ23 oa 7 p2.toNatClampNeg))]) (rest := []) stabSF E cs0 hl hI (tX1_daysBounded hf) mwX1_70 (fitD (by decide)) rfl rfl (Nat.le_of_ble_eq_true rfl) dX1_daysNeeded_109 (fun r27 σ26 H locs hf hI => ?_)
      exact rI (pc := 112) E hr hlk hI hf dX1_daysNeeded_112
    · have hf := hf.2 c22
      refine lv_iconst (v := 2) (pc := 93) hx hb dX1_daysNeeded_93 rfl ?_
      exact rI (pc := 94) E hr hlk hI hf dX1_daysNeeded_94
  have hf := hf.2
  by_cases c28 : x2 = 5
  · refine lv_tableIn (tgt := 113) (pc := 6) hx hb dX1_daysNeeded_6 (by rw [c28]; decide) (by rw [c28]; decide) (by rw [c28]; rfl) (by decide) ?_
    have hf := hf.1 c28
    refine lv_iconst (v := 1) (pc := 113) hx hb dX1_daysNeeded_113 rfl ?_
    exact rI (pc := 114) E hr hlk hI hf dX1_daysNeeded_114
  have hf := hf.2
  have hf := hf c3 c8 c14 c19 c28
  refine lv_tableOut (tgt := 115) (pc := 6) hx hb dX1_daysNeeded_6 (by have := neI (k := 1) c3 rfl; have := neI (k := 2) c8 rfl; have := neI (k := 3) c14 rfl; have := neI (k := 4) c19 rfl; have := neI (k := 5) c28 rfl; omega) (by decide) ?_
  refine lv_aload_n (pc := 115) hx hb dX1_daysNeeded_115 rfl (lv_at hl 0 rfl) ?_
  refine lv_iconst (v := 0) (pc := 116) hx hb dX1_daysNeeded_116 rfl ?_
  refine lv_aload_n (pc := 117) hx hb dX1_daysNeeded_117 rfl (lv_at hl 1 rfl) ?_
  refine lv_iload_n (pc := 118) hx hb dX1_daysNeeded_118 rfl (lv_at hl 2 rfl) ?_
  refine callVI (G := (D, tysC cy, SF z)) (L := LC ad cy Rr) (pc := 119) (As := [.int 0, .ref (ad oa 99), .int p2]) (rest := []) stabSF E cs0 hl hI (tX1_reckon hoa hf) mwX1_66 (fitD (by decide)) (at1 rfl) rfl rfl rfl rfl (Nat.le_of_ble_eq_true rfl) dX1_daysNeeded_119 (fun r30 σ29 H locs hf hI => ?_)
  refine callSI (G := (D, tysC cy, SF z)) (L := LC ad cy Rr) (pc := 122) (As := [.int r30]) (rest := []) stabSF E cs0 hl hI (tX1_daysBounded hf) mwX1_70 (fitD (by decide)) rfl rfl (Nat.le_of_ble_eq_true rfl) dX1_daysNeeded_122 (fun r32 σ31 H locs hf hI => ?_)
  exact rI (pc := 125) E hr hlk hI hf dX1_daysNeeded_125
theorem tX1_daysNeeded {l : Launch} {D : va_G} {z : Nat → Nat} {σ : St} {ad : Nat → Nat → Nat} {cy : Nat → ClassId} {Rr : va_W} {Q : Int32 → St → Prop} {oa : Nat} {p2 : Int32} (hoa : kd oa = 4) (hf : wX1_daysNeeded oa p2 σ Q) : CtI l yX1_daysNeeded cX1_daysNeeded 3 .int 3 (D, tysC cy, SF z) (LC ad cy Rr) [.ref (ad 4 99), .ref (ad oa 99), .int p2] σ Q := mkI (by decide) (Nat.le_of_ble_eq_true rfl) (fun p e s m below meth c A E hr hlk hI ls hl => bX1_daysNeeded E hr hlk hoa hf hI hl)

def wX1_colourGiven (oa : Nat) (p2 : Int32) (σ : St) (Q : Int32 → St → Prop) : Prop := vp_in p2 5 ∧ ∀ x2 : Int32, x2 = (gA σ oa 8 p2.toNatClampNeg) → vp_in p2 5 ∧ ∀ x4 : Int32, x4 = (gA σ oa 6 p2.toNatClampNeg) → ((x4 = 1 → wX1_reckon 1 oa p2 σ (fun r7 σ6 => wJ9_floorMod_7cf53 r7 4 σ6 (fun r9 σ8 => Q r9 σ8))) ∧ (x4 = 2 → wJ9_floorMod_7cf53 (x2 + 1) 4 σ (fun r12 σ11 => Q r12 σ11)) ∧ (x4 = 3 → ((¬ (irm (gI σ oa 2) 2) = 0 → wX1_reckon 1 oa p2 σ (fun r16 σ15 => wJ9_floorMod_7cf53 r16 4 σ15 (fun r18 σ17 => Q r18 σ17))) ∧ ((irm (gI σ oa 2) 2) = 0 → Q x2 σ))) ∧ (x4 = 4 → ((¬ (lg_cmp (gJ σ oa 1) (-1)) = 0 → wX4_colourOfFirstEmpty oa σ (fun r22 σ21 => Q r22 σ21)) ∧ ((lg_cmp (gJ σ oa 1) (-1)) = 0 → wJ9_floorMod_7cf53 (x2 + 1) 4 σ (fun r24 σ23 => Q r24 σ23)))) ∧ (x4 = 5 → vp_in p2 5 ∧ wJ9_floorMod_7cf53 (gA σ oa 7 p2.toNatClampNeg) 4 σ (fun r28 σ27 => Q r28 σ27)) ∧ (¬ x4 = 1 → ¬ x4 = 2 → ¬ x4 = 3 → ¬ x4 = 4 → ¬ x4 = 5 → Q x2 σ))
set_option maxRecDepth 100000 in
set_option maxHeartbeats 4000000 in
theorem bX1_colourGiven {p : Program} {l : Launch} {e : Env} {s : State} {m : MethodId} {args : Array Value} {below : List Frame} {meth : Method} {c : Code} {H : Heap} {locs : List Loc} {ls : Array Slot} {D : va_G} {z : Nat → Nat} {A : Nat → Prop} {σ : St} {ad : Nat → Nat → Nat} {cy : Nat → ClassId} {Rr : va_W} {Q : Int32 → St → Prop} {oa : Nat} {p2 : Int32} (E : CallFix p m c cX1_colourGiven 4 s args TB RX1) (hr : meth.sig.returnType = some .int) (hlk : meth.locks = false) (hoa : kd oa = 4) (hf : wX1_colourGiven oa p2 σ Q) (hI : In (D, tysC cy, SF z) (LC ad cy Rr σ) A s H locs) (hl : lv_has ls 4 [(0, .ref (ad 4 99)), (1, .ref (ad oa 99)), (2, .int p2)]) : W p l e (rmD 3) s m args below meth c H locs 0 0 (PI below args s (D, tysC cy, SF z) A (LC ad cy Rr) Q) (F0 m 0 ls []) := by
  have hx := E.1
  have hb := E.2.1
  unfold wX1_colourGiven at hf
  refine lv_aload_n (pc := 0) hx hb dX1_colourGiven_0 rfl (lv_at hl 1 rfl) ?_
  refine g4_8 (pc := 1) E hI hoa lkX1_57 dX1_colourGiven_1 ?_
  refine lv_iload_n (pc := 4) hx hb dX1_colourGiven_4 rfl (lv_at hl 2 rfl) ?_
  have g1 := hf.1
  have hf := hf.2
  refine a4_8 (pc := 5) E hI hoa g1 dX1_colourGiven_5 ?_
  refine lv_topi (fun x2 ex2 => ?_)
  have hf := hf x2 ex2
  refine lv_istore_n (lv' := [(3, .int x2), (0, .ref (ad 4 99)), (1, .ref (ad oa 99)), (2, .int p2)]) (pc := 6) hx hb dX1_colourGiven_6 rfl hl (by decide) rfl (fun ls hl => ?_)
  refine lv_aload_n (pc := 7) hx hb dX1_colourGiven_7 rfl (lv_at hl 2 rfl) ?_
  refine g4_6 (pc := 8) E hI hoa lkX1_63 dX1_colourGiven_8 ?_
  refine lv_iload_n (pc := 11) hx hb dX1_colourGiven_11 rfl (lv_at hl 3 rfl) ?_
  have g3 := hf.1
  have hf := hf.2
  refine a4_6 (pc := 12) E hI hoa g3 dX1_colourGiven_12 ?_
  refine lv_topi (fun x4 ex4 => ?_)
  have hf := hf x4 ex4
  by_cases c5 : x4 = 1
  · refine lv_tableIn (tgt := 48) (pc := 13) hx hb dX1_colourGiven_13 (by rw [c5]; decide) (by rw [c5]; decide) (by rw [c5]; rfl) (by decide) ?_
    have hf := hf.1 c5
    refine lv_aload_n (pc := 48) hx hb dX1_colourGiven_48 rfl (lv_at hl 1 rfl) ?_
    refine lv_iconst (v := 1) (pc := 49) hx hb dX1_colourGiven_49 rfl ?_
    refine lv_aload_n (pc := 50) hx hb dX1_colourGiven_50 rfl (lv_at hl 2 rfl) ?_
    refine lv_iload_n (pc := 51) hx hb dX1_colourGiven_51 rfl (lv_at hl 3 rfl) ?_
    refine callVI (G := (D, tysC cy, SF z)) (L := LC ad cy Rr) (pc := 52) (As := [.int 1, .ref (ad oa 99), .int p2]) (rest := []) stabSF E cs0 hl hI (tX1_reckon hoa hf) mwX1_66 (fitD (by decide)) (at1 rfl) rfl rfl rfl rfl (Nat.le_of_ble_eq_true rfl) dX1_colourGiven_52 (fun r7 σ6 H locs hf hI => ?_)
    refine lv_iconst (v := 4) (pc := 55) hx hb dX1_colourGiven_55 rfl ?_
    refine callSI (G := (D, tysC cy, SF z)) (L := LC ad cy Rr) (pc := 56) (As := [.int r7, .int 4]) (rest := []) stabSF E cs0 hl hI (tJ9_floorMod_7cf53 hf) mwX1_81 (fitD (by decide)) rfl rfl (Nat.le_of_ble_eq_true rfl) dX1_colourGiven_56 (fun r9 σ8 H locs hf hI => ?_)
    exact rI (pc := 59) E hr hlk hI hf dX1_colourGiven_59
  have hf := hf.2
  by_cases c10 : x4 = 2
  · refine lv_tableIn (tgt := 60) (pc := 13) hx hb dX1_colourGiven_13 (by rw [c10]; decide) (by rw [c10]; decide) (by rw [c10]; rfl) (by decide) ?_
    have hf := hf.1 c10
    refine lv_iload_n (pc := 60) hx hb dX1_colourGiven_60 rfl (lv_at hl 0 rfl) ?_
    refine lv_iconst (v := 1) (pc := 61) hx hb dX1_colourGiven_61 rfl ?_
    refine lv_iadd (pc := 62) hx hb dX1_colourGiven_62 ?_
    refine lv_iconst (v := 4) (pc := 63) hx hb dX1_colourGiven_63 rfl ?_
    refine callSI (G := (D, tysC cy, SF z)) (L := LC ad cy Rr) (pc := 64) (As := [.int (x2 + 1), .int 4]) (rest := []) stabSF E cs0 hl hI (tJ9_floorMod_7cf53 hf) mwX1_81 (fitD (by decide)) rfl rfl (Nat.le_of_ble_eq_true rfl) dX1_colourGiven_64 (fun r12 σ11 H locs hf hI => ?_)
    exact rI (pc := 67) E hr hlk hI hf dX1_colourGiven_67
  have hf := hf.2
  by_cases c13 : x4 = 3
  · refine lv_tableIn (tgt := 68) (pc := 13) hx hb dX1_colourGiven_13 (by rw [c13]; decide) (by rw [c13]; decide) (by rw [c13]; rfl) (by decide) ?_
    have hf := hf.1 c13
    refine lv_aload_n (pc := 68) hx hb dX1_colourGiven_68 rfl (lv_at hl 2 rfl) ?_
    refine g4_2 (pc := 69) E hI hoa lkX1_60 dX1_colourGiven_69 ?_
    refine lv_iconst (v := 2) (pc := 72) hx hb dX1_colourGiven_72 rfl ?_
    refine lv_irem1 (pc := 73) hx hb dX1_colourGiven_73 (by decide) ?_
    refine lv_if_ne (tgt := 81) (pc := 74) hx hb dX1_colourGiven_74 (by decide) (fun c14 => ?_) (fun c14 => ?_)
    · have hf := hf.1 c14
      refine lv_aload_n (pc := 81) hx hb dX1_colourGiven_81 rfl (lv_at hl 1 rfl) ?_
      refine lv_iconst (v := 1) (pc := 82) hx hb dX1_colourGiven_82 rfl ?_
      refine lv_aload_n (pc := 83) hx hb dX1_colourGiven_83 rfl (lv_at hl 2 rfl) ?_
      refine lv_iload_n (pc := 84) hx hb dX1_colourGiven_84 rfl (lv_at hl 3 rfl) ?_
      refine callVI (G := (D, tysC cy, SF z)) (L := LC ad cy Rr) (pc := 85) (As := [.int 1, .ref (ad oa 99), .int p2]) (rest := []) stabSF E cs0 hl hI (tX1_reckon hoa hf) mwX1_66 (fitD (by decide)) (at1 rfl) rfl rfl rfl rfl (Nat.le_of_ble_eq_true rfl) dX1_colourGiven_85 (fun r16 σ15 H locs hf hI => ?_)
      refine lv_iconst (v := 4) (pc := 88) hx hb dX1_colourGiven_88 rfl ?_
      refine callSI (G := (D, tysC cy, SF z)) (L := LC ad cy Rr) (pc := 89) (As := [.int r16, .int 4]) (rest := []) stabSF E cs0 hl hI (tJ9_floorMod_7cf53 hf) mwX1_81 (fitD (by decide)) rfl rfl (Nat.le_of_ble_eq_true rfl) dX1_colourGiven_89 (fun r18 σ17 H locs hf hI => ?_)
      exact rI (pc := 92) E hr hlk hI hf dX1_colourGiven_92
    · have hf := hf.2 c14
      refine lv_iload_n (pc := 77) hx hb dX1_colourGiven_77 rfl (lv_at hl 0 rfl) ?_
      refine lv_goto (tgt := 92) (pc := 78) hx hb dX1_colourGiven_78 (by decide) ?_
      exact rI (pc := 92) E hr hlk hI hf dX1_colourGiven_92
  have hf := hf.2
  by_cases c19 : x4 = 4
  · refine lv_tableIn (tgt := 93) (pc := 13) hx hb dX1_colourGiven_13 (by rw [c19]; decide) (by rw [c19]; decide) (by rw [c19]; rfl) (by decide) ?_
    have hf := hf.1 c19
    refine lv_aload_n (pc := 93) hx hb dX1_colourGiven_93 rfl (lv_at hl 2 rfl) ?_
    refine g4_1 (pc := 94) E hI hoa lkX1_84 dX1_colourGiven_94 ?_
    refine lv_ldc2 (pc := 97) E.1 E.2.1 E.2.2.2.1 (E.2.2.2.2 _ kcX1_88) dX1_colourGiven_97 ?_
    refine W.lcmp (pc := 100) hx hb dX1_colourGiven_100 ?_
    refine lv_if_ne (tgt := 114) (pc := 101) hx hb dX1_colourGiven_101 (by decide) (fun c20 => ?_) (fun c20 => ?_)
    · have hf := hf.1 c20
      refine lv_aload_n (pc := 114) hx hb dX1_colourGiven_114 rfl (lv_at hl 2 rfl) ?_
      refine callVI (G := (D, tysC cy, SF z)) (L := LC ad cy Rr) (pc := 115) (As := []) (rest := []) stabSF E cs0 hl hI (tX4_colourOfFirstEmpty hoa hf) mwX1_90 (fitD (by decide)) (at4 hoa) rfl rfl rfl rfl (Nat.le_of_ble_eq_true rfl) dX1_colourGiven_115 (fun r22 σ21 H locs hf hI => ?_)
      exact rI (pc := 118) E hr hlk hI hf dX1_colourGiven_118
    · have hf := hf.2 c20
      refine lv_iload_n (pc := 104) hx hb dX1_colourGiven_104 rfl (lv_at hl 0 rfl) ?_
      refine lv_iconst (v := 1) (pc := 105) hx hb dX1_colourGiven_105 rfl ?_
      refine lv_iadd (pc := 106) hx hb dX1_colourGiven_106 ?_
      refine lv_iconst (v := 4) (pc := 107) hx hb dX1_colourGiven_107 rfl ?_
      refine callSI (G := (D, tysC cy, SF z)) (L := LC ad cy Rr) (pc := 108) (As := [.int (x2 + 1), .int 4]) (rest := []) stabSF E cs0 hl hI (tJ9_floorMod_7cf53 hf) mwX1_81 (fitD (by decide)) rfl rfl (Nat.le_of_ble_eq_true rfl) dX1_colourGiven_108 (fun r24 σ23 H locs hf hI => ?_)
      refine lv_goto (tgt := 118) (pc := 111) hx hb dX1_colourGiven_111 (by decide) ?_
      exact rI (pc := 118) E hr hlk hI hf dX1_colourGiven_118
  have hf := hf.2
  by_cases c25 : x4 = 5
  · refine lv_tableIn (tgt := 119) (pc := 13) hx hb dX1_colourGiven_13 (by rw [c25]; decide) (by rw [c25]; decide) (by rw [c25]; rfl) (by decide) ?_
    have hf := hf.1 c25
    refine lv_aload_n (pc := 119) hx hb dX1_colourGiven_119 rfl (lv_at hl 2 rfl) ?_
    refine g4_7 (pc := 120) E hI hoa lkX1_74 dX1_colourGiven_120 ?_
    refine lv_iload_n (pc := 123) hx hb dX1_colourGiven_123 rfl (lv_at hl 3 rfl) ?_
    have g26 := hf.1
    have hf := hf.2
    refine a4_7 (pc := 124) E hI hoa g26 dX1_colourGiven_124 ?_
    refine lv_iconst (v := 4) (pc := 125) hx hb dX1_colourGiven_125 rfl ?_
    refine callSI (G := (D, tysC cy, SF z)) (L := LC ad cy Rr) (pc := 126) (As := [.int (gA σ oa 7 p2.toNatClampNeg), .int 4]) (rest := []) stabSF E cs0 hl hI (tJ9_floorMod_7cf53 hf) mwX1_81 (fitD (by decide)) rfl rfl (Nat.le_of_ble_eq_true rfl) dX1_colourGiven_126 (fun r28 σ27 H locs hf hI => ?_)
    exact rI (pc := 129) E hr hlk hI hf dX1_colourGiven_129
  have hf := hf.2
  have hf := hf c5 c10 c13 c19 c25
  refine lv_tableOut (tgt := 130) (pc := 13) hx hb dX1_colourGiven_13 (by have := neI (k := 1) c5 rfl; have := neI (k := 2) c10 rfl; have := neI (k := 3) c13 rfl; have := neI (k := 4) c19 rfl; have := neI (k := 5) c25 rfl; omega) (by decide) ?_
  refine lv_iload_n (pc := 130) hx hb dX1_colourGiven_130 rfl (lv_at hl 0 rfl) ?_
  exact rI (pc := 131) E hr hlk hI hf dX1_colourGiven_131
theorem tX1_colourGiven {l : Launch} {D : va_G} {z : Nat → Nat} {σ : St} {ad : Nat → Nat → Nat} {cy : Nat → ClassId} {Rr : va_W} {Q : Int32 → St → Prop} {oa : Nat} {p2 : Int32} (hoa : kd oa = 4) (hf : wX1_colourGiven oa p2 σ Q) : CtI l yX1_colourGiven cX1_colourGiven 4 .int 3 (D, tysC cy, SF z) (LC ad cy Rr) [.ref (ad 4 99), .ref (ad oa 99), .int p2] σ Q := mkI (by decide) (Nat.le_of_ble_eq_true rfl) (fun p e s m below meth c A E hr hlk hI ls hl => bX1_colourGiven E hr hlk hoa hf hI hl)

def wX1_colourNext (oa : Nat) (p2 : Int32) (σ : St) (Q : Int32 → St → Prop) : Prop := vp_in p2 5 ∧ ∀ x2 : Int32, x2 = (gA σ oa 8 p2.toNatClampNeg) → vp_in p2 5 ∧ ∀ x4 : Int32, x4 = (gA σ oa 6 p2.toNatClampNeg) → ((x4 = 1 → Q x2 σ) ∧ (x4 = 2 → wX1_reckon 2 oa p2 σ (fun r8 σ7 => wJ9_floorMod_7cf53 (r8 + x2) 4 σ7 (fun r10 σ9 => Q r10 σ9))) ∧ (x4 = 3 → vp_in p2 5 ∧ wJ9_floorMod_7cf53 (x2 + (gA σ oa 7 p2.toNatClampNeg)) 4 σ (fun r14 σ13 => Q r14 σ13)) ∧ (x4 = 4 → wX1_reckon 2 oa p2 σ (fun r17 σ16 => wJ9_floorMod_7cf53 (r17 + x2) 4 σ16 (fun r19 σ18 => Q r19 σ18))) ∧ (x4 = 5 → wX1_reckon 2 oa p2 σ (fun r22 σ21 => vp_in p2 5 ∧ wJ9_floorMod_7cf53 (r22 - (gA σ21 oa 7 p2.toNatClampNeg)) 4 σ21 (fun r25 σ24 => Q r25 σ24))) ∧ (¬ x4 = 1 → ¬ x4 = 2 → ¬ x4 = 3 → ¬ x4 = 4 → ¬ x4 = 5 → wX1_reckon 2 oa p2 σ (fun r27 σ26 => wJ9_floorMod_7cf53 r27 4 σ26 (fun r29 σ28 => Q r29 σ28))))
set_option maxRecDepth 100000 in
set_option maxHeartbeats 4000000 in
theorem bX1_colourNext {p : Program} {l : Launch} {e : Env} {s : State} {m : MethodId} {args : Array Value} {below : List Frame} {meth : Method} {c : Code} {H : Heap} {locs : List Loc} {ls : Array Slot} {D : va_G} {z : Nat → Nat} {A : Nat → Prop} {σ : St} {ad : Nat → Nat → Nat} {cy : Nat → ClassId} {Rr : va_W} {Q : Int32 → St → Prop} {oa : Nat} {p2 : Int32} (E : CallFix p m c cX1_colourNext 4 s args TB RX1) (hr : meth.sig.returnType = some .int) (hlk : meth.locks = false) (hoa : kd oa = 4) (hf : wX1_colourNext oa p2 σ Q) (hI : In (D, tysC cy, SF z) (LC ad cy Rr σ) A s H locs) (hl : lv_has ls 4 [(0, .ref (ad 4 99)), (1, .ref (ad oa 99)), (2, .int p2)]) : W p l e (rmD 3) s m args below meth c H locs 0 0 (PI below args s (D, tysC cy, SF z) A (LC ad cy Rr) Q) (F0 m 0 ls []) := by
  have hx := E.1
  have hb := E.2.1
  unfold wX1_colourNext at hf
  refine lv_aload_n (pc := 0) hx hb dX1_colourNext_0 rfl (lv_at hl 1 rfl) ?_
  refine g4_8 (pc := 1) E hI hoa lkX1_57 dX1_colourNext_1 ?_
  refine lv_iload_n (pc := 4) hx hb dX1_colourNext_4 rfl (lv_at hl 2 rfl) ?_
  have g1 := hf.1
  have hf := hf.2
  refine a4_8 (pc := 5) E hI hoa g1 dX1_colourNext_5 ?_
  refine lv_topi (fun x2 ex2 => ?_)
  have hf := hf x2 ex2
  refine lv_istore_n (lv' := [(3, .int x2), (0, .ref (ad 4 99)), (1, .ref (ad oa 99)), (2, .int p2)]) (pc := 6) hx hb dX1_colourNext_6 rfl hl (by decide) rfl (fun ls hl => ?_)
  refine lv_aload_n (pc := 7) hx hb dX1_colourNext_7 rfl (lv_at hl 2 rfl) ?_
  refine g4_6 (pc := 8) E hI hoa lkX1_63 dX1_colourNext_8 ?_
  refine lv_iload_n (pc := 11) hx hb dX1_colourNext_11 rfl (lv_at hl 3 rfl) ?_
  have g3 := hf.1
  have hf := hf.2
  refine a4_6 (pc := 12) E hI hoa g3 dX1_colourNext_12 ?_
  refine lv_topi (fun x4 ex4 => ?_)
  have hf := hf x4 ex4
  by_cases c5 : x4 = 1
  · refine lv_tableIn (tgt := 48) (pc := 13) hx hb dX1_colourNext_13 (by rw [c5]; decide) (by rw [c5]; decide) (by rw [c5]; rfl) (by decide) ?_
    have hf := hf.1 c5
    refine lv_iload_n (pc := 48) hx hb dX1_colourNext_48 rfl (lv_at hl 0 rfl) ?_
    exact rI (pc := 49) E hr hlk hI hf dX1_colourNext_49
  have hf := hf.2
  by_cases c6 : x4 = 2
  · refine lv_tableIn (tgt := 50) (pc := 13) hx hb dX1_colourNext_13 (by rw [c6]; decide) (by rw [c6]; decide) (by rw [c6]; rfl) (by decide) ?_
    have hf := hf.1 c6
    refine lv_aload_n (pc := 50) hx hb dX1_colourNext_50 rfl (lv_at hl 1 rfl) ?_
    refine lv_iconst (v := 2) (pc := 51) hx hb dX1_colourNext_51 rfl ?_
    refine lv_aload_n (pc := 52) hx hb dX1_colourNext_52 rfl (lv_at hl 2 rfl) ?_
    refine lv_iload_n (pc := 53) hx hb dX1_colourNext_53 rfl (lv_at hl 3 rfl) ?_
    refine callVI (G := (D, tysC cy, SF z)) (L := LC ad cy Rr) (pc := 54) (As := [.int 2, .ref (ad oa 99), .int p2]) (rest := []) stabSF E cs0 hl hI (tX1_reckon hoa hf) mwX1_66 (fitD (by decide)) (at1 rfl) rfl rfl rfl rfl (Nat.le_of_ble_eq_true rfl) dX1_colourNext_54 (fun r8 σ7 H locs hf hI => ?_)
    refine lv_iload_n (pc := 57) hx hb dX1_colourNext_57 rfl (lv_at hl 0 rfl) ?_
    refine lv_iadd (pc := 58) hx hb dX1_colourNext_58 ?_
    refine lv_iconst (v := 4) (pc := 59) hx hb dX1_colourNext_59 rfl ?_
    refine callSI (G := (D, tysC cy, SF z)) (L := LC ad cy Rr) (pc := 60) (As := [.int (r8 + x2), .int 4]) (rest := []) stabSF E cs0 hl hI (tJ9_floorMod_7cf53 hf) mwX1_81 (fitD (by decide)) rfl rfl (Nat.le_of_ble_eq_true rfl) dX1_colourNext_60 (fun r10 σ9 H locs hf hI => ?_)
    exact rI (pc := 63) E hr hlk hI hf dX1_colourNext_63
  have hf := hf.2
  by_cases c11 : x4 = 3
  · refine lv_tableIn (tgt := 64) (pc := 13) hx hb dX1_colourNext_13 (by rw [c11]; decide) (by rw [c11]; decide) (by rw [c11]; rfl) (by decide) ?_
    have hf := hf.1 c11
    refine lv_iload_n (pc := 64) hx hb dX1_colourNext_64 rfl (lv_at hl 0 rfl) ?_
    refine lv_aload_n (pc := 65) hx hb dX1_colourNext_65 rfl (lv_at hl 2 rfl) ?_
    refine g4_7 (pc := 66) E hI hoa lkX1_74 dX1_colourNext_66 ?_
    refine lv_iload_n (pc := 69) hx hb dX1_colourNext_69 rfl (lv_at hl 3 rfl) ?_
    have g12 := hf.1
    have hf := hf.2
    refine a4_7 (pc := 70) E hI hoa g12 dX1_colourNext_70 ?_
    refine lv_iadd (pc := 71) hx hb dX1_colourNext_71 ?_
    refine lv_iconst (v := 4) (pc := 72) hx hb dX1_colourNext_72 rfl ?_
    refine callSI (G := (D, tysC cy, SF z)) (L := LC ad cy Rr) (pc := 73) (As := [.int (x2 + (gA σ oa 7 p2.toNatClampNeg)), .int 4]) (rest := []) stabSF E cs0 hl hI (tJ9_floorMod_7cf53 hf) mwX1_81 (fitD (by decide)) rfl rfl (Nat.le_of_ble_eq_true rfl) dX1_colourNext_73 (fun r14 σ13 H locs hf hI => ?_)
    exact rI (pc := 76) E hr hlk hI hf dX1_colourNext_76
  have hf := hf.2
  by_cases c15 : x4 = 4
  · refine lv_tableIn (tgt := 50) (pc := 13) hx hb dX1_colourNext_13 (by rw [c15]; decide) (by rw [c15]; decide) (by rw [c15]; rfl) (by decide) ?_
    have hf := hf.1 c15
    refine lv_aload_n (pc := 50) hx hb dX1_colourNext_50 rfl (lv_at hl 1 rfl) ?_
    refine lv_iconst (v := 2) (pc := 51) hx hb dX1_colourNext_51 rfl ?_
    refine lv_aload_n (pc := 52) hx hb dX1_colourNext_52 rfl (lv_at hl 2 rfl) ?_
    refine lv_iload_n (pc := 53) hx hb dX1_colourNext_53 rfl (lv_at hl 3 rfl) ?_
    refine callVI (G := (D, tysC cy, SF z)) (L := LC ad cy Rr) (pc := 54) (As := [.int 2, .ref (ad oa 99), .int p2]) (rest := []) stabSF E cs0 hl hI (tX1_reckon hoa hf) mwX1_66 (fitD (by decide)) (at1 rfl) rfl rfl rfl rfl (Nat.le_of_ble_eq_true rfl) dX1_colourNext_54 (fun r17 σ16 H locs hf hI => ?_)
    refine lv_iload_n (pc := 57) hx hb dX1_colourNext_57 rfl (lv_at hl 0 rfl) ?_
    refine lv_iadd (pc := 58) hx hb dX1_colourNext_58 ?_
    refine lv_iconst (v := 4) (pc := 59) hx hb dX1_colourNext_59 rfl ?_
    refine callSI (G := (D, tysC cy, SF z)) (L := LC ad cy Rr) (pc := 60) (As := [.int (r17 + x2), .int 4]) (rest := []) stabSF E cs0 hl hI (tJ9_floorMod_7cf53 hf) mwX1_81 (fitD (by decide)) rfl rfl (Nat.le_of_ble_eq_true rfl) dX1_colourNext_60 (fun r19 σ18 H locs hf hI => ?_)
    exact rI (pc := 63) E hr hlk hI hf dX1_colourNext_63
  have hf := hf.2
  by_cases c20 : x4 = 5
  · refine lv_tableIn (tgt := 77) (pc := 13) hx hb dX1_colourNext_13 (by rw [c20]; decide) (by rw [c20]; decide) (by rw [c20]; rfl) (by decide) ?_
    have hf := hf.1 c20
    refine lv_aload_n (pc := 77) hx hb dX1_colourNext_77 rfl (lv_at hl 1 rfl) ?_
    refine lv_iconst (v := 2) (pc := 78) hx hb dX1_colourNext_78 rfl ?_
    refine lv_aload_n (pc := 79) hx hb dX1_colourNext_79 rfl (lv_at hl 2 rfl) ?_
    refine lv_iload_n (pc := 80) hx hb dX1_colourNext_80 rfl (lv_at hl 3 rfl) ?_
    refine callVI (G := (D, tysC cy, SF z)) (L := LC ad cy Rr) (pc := 81) (As := [.int 2, .ref (ad oa 99), .int p2]) (rest := []) stabSF E cs0 hl hI (tX1_reckon hoa hf) mwX1_66 (fitD (by decide)) (at1 rfl) rfl rfl rfl rfl (Nat.le_of_ble_eq_true rfl) dX1_colourNext_81 (fun r22 σ21 H locs hf hI => ?_)
    refine lv_aload_n (pc := 84) hx hb dX1_colourNext_84 rfl (lv_at hl 2 rfl) ?_
    refine g4_7 (pc := 85) E hI hoa lkX1_74 dX1_colourNext_85 ?_
    refine lv_iload_n (pc := 88) hx hb dX1_colourNext_88 rfl (lv_at hl 3 rfl) ?_
    have g23 := hf.1
    have hf := hf.2
    refine a4_7 (pc := 89) E hI hoa g23 dX1_colourNext_89 ?_
    refine lv_isub (pc := 90) hx hb dX1_colourNext_90 ?_
    refine lv_iconst (v := 4) (pc := 91) hx hb dX1_colourNext_91 rfl ?_
    refine callSI (G := (D, tysC cy, SF z)) (L := LC ad cy Rr) (pc := 92) (As := [.int (r22 - (gA σ21 oa 7 p2.toNatClampNeg)), .int 4]) (rest := []) stabSF E cs0 hl hI (tJ9_floorMod_7cf53 hf) mwX1_81 (fitD (by decide)) rfl rfl (Nat.le_of_ble_eq_true rfl) dX1_colourNext_92 (fun r25 σ24 H locs hf hI => ?_)
    exact rI (pc := 95) E hr hlk hI hf dX1_colourNext_95
  have hf := hf.2
  have hf := hf c5 c6 c11 c15 c20
  refine lv_tableOut (tgt := 96) (pc := 13) hx hb dX1_colourNext_13 (by have := neI (k := 1) c5 rfl; have := neI (k := 2) c6 rfl; have := neI (k := 3) c11 rfl; have := neI (k := 4) c15 rfl; have := neI (k := 5) c20 rfl; omega) (by decide) ?_
  refine lv_aload_n (pc := 96) hx hb dX1_colourNext_96 rfl (lv_at hl 1 rfl) ?_
  refine lv_iconst (v := 2) (pc := 97) hx hb dX1_colourNext_97 rfl ?_
  refine lv_aload_n (pc := 98) hx hb dX1_colourNext_98 rfl (lv_at hl 2 rfl) ?_
  refine lv_iload_n (pc := 99) hx hb dX1_colourNext_99 rfl (lv_at hl 3 rfl) ?_
  refine callVI (G := (D, tysC cy, SF z)) (L := LC ad cy Rr) (pc := 100) (As := [.int 2, .ref (ad oa 99), .int p2]) (rest := []) stabSF E cs0 hl hI (tX1_reckon hoa hf) mwX1_66 (fitD (by decide)) (at1 rfl) rfl rfl rfl rfl (Nat.le_of_ble_eq_true rfl) dX1_colourNext_100 (fun r27 σ26 H locs hf hI => ?_)
  refine lv_iconst (v := 4) (pc := 103) hx hb dX1_colourNext_103 rfl ?_
  refine callSI (G := (D, tysC cy, SF z)) (L := LC ad cy Rr) (pc := 104) (As := [.int r27, .int 4]) (rest := []) stabSF E cs0 hl hI (tJ9_floorMod_7cf53 hf) mwX1_81 (fitD (by decide)) rfl rfl (Nat.le_of_ble_eq_true rfl) dX1_colourNext_104 (fun r29 σ28 H locs hf hI => ?_)
  exact rI (pc := 107) E hr hlk hI hf dX1_colourNext_107
theorem tX1_colourNext {l : Launch} {D : va_G} {z : Nat → Nat} {σ : St} {ad : Nat → Nat → Nat} {cy : Nat → ClassId} {Rr : va_W} {Q : Int32 → St → Prop} {oa : Nat} {p2 : Int32} (hoa : kd oa = 4) (hf : wX1_colourNext oa p2 σ Q) : CtI l yX1_colourNext cX1_colourNext 4 .int 3 (D, tysC cy, SF z) (LC ad cy Rr) [.ref (ad 4 99), .ref (ad oa 99), .int p2] σ Q := mkI (by decide) (Nat.le_of_ble_eq_true rfl) (fun p e s m below meth c A E hr hlk hI ls hl => bX1_colourNext E hr hlk hoa hf hI hl)

def wX5_set (p1 : Int32) (p2 : Int32) (p3 : Int32) (σ : St) (Q : Int32 → St → Prop) : Prop := ((p1 < 0 → Q (-2) σ) ∧ (¬ p1 < 0 → ((7 < p1 → Q (-2) σ) ∧ (¬ 7 < p1 → wX5_isThere p1 p2 σ (fun r4 σ3 => ((r4 = 0 → Q (-2) σ3) ∧ (¬ r4 = 0 → ((p3 < 0 → Q (-2) σ3) ∧ (¬ p3 < 0 → vp_in p1 8 ∧ ((p3 ≤ (grt p1.toNatClampNeg) → wX4_figure 1 p1 p2 σ3 (fun r10 σ9 => wX4_change 1 p1 p2 p3 σ9 (fun σ11 => Q r10 σ11))) ∧ (¬ p3 ≤ (grt p1.toNatClampNeg) → Q (-2) σ3)))))))))))
set_option maxRecDepth 100000 in
set_option maxHeartbeats 4000000 in
theorem bX5_set {p : Program} {l : Launch} {e : Env} {s : State} {m : MethodId} {args : Array Value} {below : List Frame} {meth : Method} {c : Code} {H : Heap} {locs : List Loc} {ls : Array Slot} {D : va_G} {z : Nat → Nat} {A : Nat → Prop} {σ : St} {ad : Nat → Nat → Nat} {cy : Nat → ClassId} {Rr : va_W} {Q : Int32 → St → Prop} {p1 : Int32} {p2 : Int32} {p3 : Int32} (E : CallFix p m c cX5_set 5 s args TB RX5) (hr : meth.sig.returnType = some .int) (hlk : meth.locks = false) (hf : wX5_set p1 p2 p3 σ Q) (hI : In (D, tysC cy, SF z) (LC ad cy Rr σ) A s H locs) (hl : lv_has ls 5 [(0, .ref (ad 0 99)), (1, .int p1), (2, .int p2), (3, .int p3)]) : W p l e (rmD 3) s m args below meth c H locs 0 0 (PI below args s (D, tysC cy, SF z) A (LC ad cy Rr) Q) (F0 m 0 ls []) := by
  have hx := E.1
  have hb := E.2.1
  unfold wX5_set at hf
  refine lv_iload_n (pc := 0) hx hb dX5_set_0 rfl (lv_at hl 1 rfl) ?_
  refine lv_if_lt (tgt := 32) (pc := 1) hx hb dX5_set_1 (by decide) (fun c1 => ?_) (fun c1 => ?_)
  · have hf := hf.1 c1
    refine lv_bipush (v := (-2)) (pc := 32) hx hb dX5_set_32 rfl ?_
    exact rI (pc := 34) E hr hlk hI hf dX5_set_34
  · have hf := hf.2 c1
    refine lv_iload_n (pc := 4) hx hb dX5_set_4 rfl (lv_at hl 1 rfl) ?_
    refine lv_bipush (v := 7) (pc := 5) hx hb dX5_set_5 rfl ?_
    refine lv_icmp_gt (tgt := 32) (pc := 7) hx hb dX5_set_7 (by decide) (fun c2 => ?_) (fun c2 => ?_)
    · have hf := hf.1 c2
      refine lv_bipush (v := (-2)) (pc := 32) hx hb dX5_set_32 rfl ?_
      exact rI (pc := 34) E hr hlk hI hf dX5_set_34
    · have hf := hf.2 c2
      refine lv_aload_n (pc := 10) hx hb dX5_set_10 rfl (lv_at hl 0 rfl) ?_
      refine lv_iload_n (pc := 11) hx hb dX5_set_11 rfl (lv_at hl 1 rfl) ?_
      refine lv_iload_n (pc := 12) hx hb dX5_set_12 rfl (lv_at hl 2 rfl) ?_
      refine callVI (G := (D, tysC cy, SF z)) (L := LC ad cy Rr) (pc := 13) (As := [.int p1, .int p2]) (rest := []) stabSF E cs0 hl hI (tX5_isThere hf) mwX5_78 (fitD (by decide)) (at5 rfl) rfl rfl rfl rfl (Nat.le_of_ble_eq_true rfl) dX5_set_13 (fun r4 σ3 H locs hf hI => ?_)
      refine lv_if_eq (tgt := 32) (pc := 16) hx hb dX5_set_16 (by decide) (fun c5 => ?_) (fun c5 => ?_)
      · have hf := hf.1 c5
        refine lv_bipush (v := (-2)) (pc := 32) hx hb dX5_set_32 rfl ?_
        exact rI (pc := 34) E hr hlk hI hf dX5_set_34
      · have hf := hf.2 c5
        refine lv_iload_n (pc := 19) hx hb dX5_set_19 rfl (lv_at hl 3 rfl) ?_
        refine lv_if_lt (tgt := 32) (pc := 20) hx hb dX5_set_20 (by decide) (fun c6 => ?_) (fun c6 => ?_)
        · have hf := hf.1 c6
          refine lv_bipush (v := (-2)) (pc := 32) hx hb dX5_set_32 rfl ?_
          exact rI (pc := 34) E hr hlk hI hf dX5_set_34
        · have hf := hf.2 c6
          refine lv_iload_n (pc := 23) hx hb dX5_set_23 rfl (lv_at hl 3 rfl) ?_
          refine rGrt (pc := 24) E hI dX5_set_24 ?_
          refine lv_iload_n (pc := 27) hx hb dX5_set_27 rfl (lv_at hl 1 rfl) ?_
          have g7 := hf.1
          have hf := hf.2
          refine rGrtA (pc := 28) E hI g7 dX5_set_28 ?_
          refine lv_icmp_le (tgt := 35) (pc := 29) hx hb dX5_set_29 (by decide) (fun c8 => ?_) (fun c8 => ?_)
          · have hf := hf.1 c8
            refine lv_aload_n (pc := 35) hx hb dX5_set_35 rfl (lv_at hl 0 rfl) ?_
            refine g5_0 (pc := 36) E hI rfl lkX5_10 dX5_set_36 ?_
            refine lv_iload_n (pc := 39) hx hb dX5_set_39 rfl (lv_at hl 1 rfl) ?_
            refine lv_iload_n (pc := 40) hx hb dX5_set_40 rfl (lv_at hl 2 rfl) ?_
            refine callVI (G := (D, tysC cy, SF z)) (L := LC ad cy Rr) (pc := 41) (As := [.int p1, .int p2]) (rest := []) stabSF E cs0 hl hI (tX4_figure rfl hf) mwX5_86 (fitD (by decide)) (at4 rfl) rfl rfl rfl rfl (Nat.le_of_ble_eq_true rfl) dX5_set_41 (fun r10 σ9 H locs hf hI => ?_)
            refine lv_istore (lv' := [(4, .int r10), (0, .ref (ad 0 99)), (1, .int p1), (2, .int p2), (3, .int p3)]) (pc := 44) hx hb dX5_set_44 hl (by decide) rfl (fun ls hl => ?_)
            refine lv_aload_n (pc := 46) hx hb dX5_set_46 rfl (lv_at hl 1 rfl) ?_
            refine g5_0 (pc := 47) E hI rfl lkX5_10 dX5_set_47 ?_
            refine lv_iload_n (pc := 50) hx hb dX5_set_50 rfl (lv_at hl 2 rfl) ?_
            refine lv_iload_n (pc := 51) hx hb dX5_set_51 rfl (lv_at hl 3 rfl) ?_
            refine lv_iload_n (pc := 52) hx hb dX5_set_52 rfl (lv_at hl 4 rfl) ?_
            refine callVV (G := (D, tysC cy, SF z)) (L := LC ad cy Rr) (pc := 53) (As := [.int p1, .int p2, .int p3]) (rest := []) stabSF E cs0 hl hI (tX4_change rfl hf) mwX5_90 (fitD (by decide)) (at4 rfl) rfl rfl rfl rfl (Nat.le_of_ble_eq_true rfl) dX5_set_53 (fun σ11 H locs hf hI => ?_)
            refine lv_iload (pc := 56) hx hb dX5_set_56 (lv_at hl 0 rfl) ?_
            exact rI (pc := 58) E hr hlk hI hf dX5_set_58
          · have hf := hf.2 c8
            refine lv_bipush (v := (-2)) (pc := 32) hx hb dX5_set_32 rfl ?_
            exact rI (pc := 34) E hr hlk hI hf dX5_set_34
theorem tX5_set {l : Launch} {D : va_G} {z : Nat → Nat} {σ : St} {ad : Nat → Nat → Nat} {cy : Nat → ClassId} {Rr : va_W} {Q : Int32 → St → Prop} {p1 : Int32} {p2 : Int32} {p3 : Int32} (hf : wX5_set p1 p2 p3 σ Q) : CtI l yX5_set cX5_set 5 .int 3 (D, tysC cy, SF z) (LC ad cy Rr) [.ref (ad 0 99), .int p1, .int p2, .int p3] σ Q := mkI (by decide) (Nat.le_of_ble_eq_true rfl) (fun p e s m below meth c A E hr hlk hI ls hl => bX5_set E hr hlk hf hI hl)

def wX1_passDay_j108 (q1 : Nat) (a2 : Int32) (a3 : Int32) (σ : St) (K : Nat → Int32 → Int32 → St → Prop) (Q : St → Prop) : Prop := ∀ x19 : Int32, x19 = a3 + 1 → (K q1 a2 x19 σ)
set_option maxRecDepth 100000 in
set_option maxHeartbeats 4000000 in
theorem bX1_passDay_108 {p : Program} {l : Launch} {e : Env} {s : State} {m : MethodId} {args : Array Value} {below : List Frame} {meth : Method} {c : Code} {H : Heap} {locs : List Loc} {ls : Array Slot} {D : va_G} {z : Nat → Nat} {A : Nat → Prop} {σ : St} {ad : Nat → Nat → Nat} {cy : Nat → ClassId} {Rr : va_W} {Q : St → Prop} {q1 : Nat} {a2 : Int32} {a3 : Int32} {K : Nat → Int32 → Int32 → St → Prop} (E : CallFix p m c cX1_passDay 6 s args TB RX1) (hr : meth.sig.returnType = none) (hlk : meth.locks = false) (hq1 : kd q1 = 4) (hK : ∀ (q1 : Nat) (a2 : Int32) (a3 : Int32) (_ : kd q1 = 4) (σ : St) (H : Heap) (locs : List Loc) (ls : Array Slot), K q1 a2 a3 σ → In (D, tysC cy, SF z) (LC ad cy Rr σ) A s H locs → lv_has ls 6 [(0, .ref (ad 4 99)), (1, .ref (ad q1 99)), (2, .int a2), (3, .int a3)] → W p l e (rmD 4) s m args below meth c H locs 0 0 (PV below args s (D, tysC cy, SF z) A (LC ad cy Rr) Q) (F0 m 2 ls [])) (hf : wX1_passDay_j108 q1 a2 a3 σ K Q) (hI : In (D, tysC cy, SF z) (LC ad cy Rr σ) A s H locs) (hl : lv_has ls 6 [(0, .ref (ad 4 99)), (1, .ref (ad q1 99)), (2, .int a2), (3, .int a3)]) : W p l e (rmD 4) s m args below meth c H locs 0 0 (PV below args s (D, tysC cy, SF z) A (LC ad cy Rr) Q) (F0 m 108 ls []) := by
  have hx := E.1
  have hb := E.2.1
  unfold wX1_passDay_j108 at hf
  obtain ⟨x19, ex19⟩ : ∃ y : Int32, y = a3 + 1 := ⟨_, rfl⟩
  have hf := hf x19 ex19
  refine lv_iinc (v := x19) (lv' := [(3, .int x19), (0, .ref (ad 4 99)), (1, .ref (ad q1 99)), (2, .int a2)]) (pc := 108) hx hb dX1_passDay_108 hl (k := 3) rfl (by rw [ex19]; rfl) (by decide) rfl (fun ls hl => ?_)
  refine lv_goto (tgt := 2) (pc := 111) hx hb dX1_passDay_111 (by decide) ?_
  exact hK _ _ _ hq1 _ _ _ _ hf hI (lv_sub hl [1, 2, 3, 0] rfl)
def wX1_passDay_j93 (q1 : Nat) (a2 : Int32) (a3 : Int32) (a5 : Int32) (σ : St) (K : Nat → Int32 → Int32 → St → Prop) (Q : St → Prop) : Prop := vp_in a3 5 ∧ ∀ σ16 : St, σ16 = sA σ q1 8 a3.toNatClampNeg a5 → vp_in a3 5 ∧ ∀ σ18 : St, σ18 = sA σ16 q1 9 a3.toNatClampNeg 0 → (wX1_passDay_j108 q1 a2 a3 σ18 K Q)
set_option maxRecDepth 100000 in
set_option maxHeartbeats 4000000 in
theorem bX1_passDay_93 {p : Program} {l : Launch} {e : Env} {s : State} {m : MethodId} {args : Array Value} {below : List Frame} {meth : Method} {c : Code} {H : Heap} {locs : List Loc} {ls : Array Slot} {D : va_G} {z : Nat → Nat} {A : Nat → Prop} {σ : St} {ad : Nat → Nat → Nat} {cy : Nat → ClassId} {Rr : va_W} {Q : St → Prop} {q1 : Nat} {a2 : Int32} {a3 : Int32} {a5 : Int32} {K : Nat → Int32 → Int32 → St → Prop} (E : CallFix p m c cX1_passDay 6 s args TB RX1) (hr : meth.sig.returnType = none) (hlk : meth.locks = false) (hq1 : kd q1 = 4) (hK : ∀ (q1 : Nat) (a2 : Int32) (a3 : Int32) (_ : kd q1 = 4) (σ : St) (H : Heap) (locs : List Loc) (ls : Array Slot), K q1 a2 a3 σ → In (D, tysC cy, SF z) (LC ad cy Rr σ) A s H locs → lv_has ls 6 [(0, .ref (ad 4 99)), (1, .ref (ad q1 99)), (2, .int a2), (3, .int a3)] → W p l e (rmD 4) s m args below meth c H locs 0 0 (PV below args s (D, tysC cy, SF z) A (LC ad cy Rr) Q) (F0 m 2 ls [])) (hf : wX1_passDay_j93 q1 a2 a3 a5 σ K Q) (hI : In (D, tysC cy, SF z) (LC ad cy Rr σ) A s H locs) (hl : lv_has ls 6 [(0, .ref (ad 4 99)), (1, .ref (ad q1 99)), (2, .int a2), (3, .int a3), (5, .int a5)]) : W p l e (rmD 4) s m args below meth c H locs 0 0 (PV below args s (D, tysC cy, SF z) A (LC ad cy Rr) Q) (F0 m 93 ls []) := by
  have hx := E.1
  have hb := E.2.1
  unfold wX1_passDay_j93 at hf
  refine lv_aload_n (pc := 93) hx hb dX1_passDay_93 rfl (lv_at hl 1 rfl) ?_
  refine g4_8 (pc := 94) E hI hq1 lkX1_57 dX1_passDay_94 ?_
  refine lv_iload_n (pc := 97) hx hb dX1_passDay_97 rfl (lv_at hl 3 rfl) ?_
  refine lv_iload (pc := 98) hx hb dX1_passDay_98 (lv_at hl 4 rfl) ?_
  have g15 := hf.1
  have hf := hf.2
  refine s4_8 (pc := 100) E hI hq1 g15 dX1_passDay_100 (fun H locs σ16 eσ16 hI => ?_)
  have hf := hf σ16 eσ16
  refine lv_aload_n (pc := 101) hx hb dX1_passDay_101 rfl (lv_at hl 1 rfl) ?_
  refine g4_9 (pc := 102) E hI hq1 lkX1_31 dX1_passDay_102 ?_
  refine lv_iload_n (pc := 105) hx hb dX1_passDay_105 rfl (lv_at hl 3 rfl) ?_
  refine lv_iconst (v := 0) (pc := 106) hx hb dX1_passDay_106 rfl ?_
  have g17 := hf.1
  have hf := hf.2
  refine s4_9 (pc := 107) E hI hq1 g17 dX1_passDay_107 (fun H locs σ18 eσ18 hI => ?_)
  have hf := hf σ18 eσ18
  exact bX1_passDay_108 E hr hlk hq1 hK hf hI (lv_sub hl [0, 1, 2, 3] rfl)
def wX1_passDay_l2s (ih : Nat → Int32 → Int32 → St → Prop) (q1 : Nat) (a2 : Int32) (a3 : Int32) (σ : St) (Q : St → Prop) : Prop := (((gI σ q1 5) ≤ a3 → ∀ σ2 : St, σ2 = sI σ q1 2 ((gI σ q1 2) + 1) → Q σ2) ∧ (¬ (gI σ q1 5) ≤ a3 → vp_in a3 5 ∧ vp_in a3 5 ∧ ∀ σ5 : St, σ5 = sA σ q1 9 a3.toNatClampNeg (if ((gA σ q1 9 a3.toNatClampNeg) + 1) < 99 then ((gA σ q1 9 a3.toNatClampNeg) + 1) else 99) → vp_in a3 5 ∧ wX1_daysNeeded q1 a3 σ5 (fun r8 σ7 => ((r8 ≤ (gA σ5 q1 9 a3.toNatClampNeg) → wX1_colourGiven q1 a3 σ7 (fun r11 σ10 => wX1_colourNext q1 a3 σ10 (fun r13 σ12 => ((a3 = a2 → (wX1_passDay_j93 q1 a2 a3 r13 σ12 ih Q)) ∧ (¬ a3 = a2 → vp_in a3 5 ∧ vp_in a3 5 ∧ ∀ σ22 : St, σ22 = sA σ12 q1 10 a3.toNatClampNeg (if ((gA σ12 q1 10 a3.toNatClampNeg) + 1) < 99 then ((gA σ12 q1 10 a3.toNatClampNeg) + 1) else 99) → wX4_lay q1 r11 σ22 (fun σ23 => (wX1_passDay_j93 q1 a2 a3 r13 σ23 ih Q))))))) ∧ (¬ r8 ≤ (gA σ5 q1 9 a3.toNatClampNeg) → (wX1_passDay_j108 q1 a2 a3 σ7 ih Q))))))
def wX1_passDay_l2 (n : Nat) : Nat → Int32 → Int32 → St → (St → Prop) → Prop := @Nat.rec (fun _ => Nat → Int32 → Int32 → St → (St → Prop) → Prop) (fun _ _ _ _ _ => False) (fun _ ih q1 a2 a3 σ Q => wX1_passDay_l2s (fun q1 a2 a3 σ => ih q1 a2 a3 σ Q) q1 a2 a3 σ Q) n
set_option maxRecDepth 100000 in
set_option maxHeartbeats 4000000 in
theorem bX1_passDay_2 {p : Program} {l : Launch} {e : Env} {s : State} {m : MethodId} {args : Array Value} {below : List Frame} {meth : Method} {c : Code} {D : va_G} {z : Nat → Nat} {A : Nat → Prop} {ad : Nat → Nat → Nat} {cy : Nat → ClassId} {Rr : va_W} {Q : St → Prop} (E : CallFix p m c cX1_passDay 6 s args TB RX1) (hr : meth.sig.returnType = none) (hlk : meth.locks = false) : ∀ (n : Nat) {q1 : Nat} {a2 : Int32} {a3 : Int32} (hq1 : kd q1 = 4) {σ : St} {H : Heap} {locs : List Loc} {ls : Array Slot}, wX1_passDay_l2 n q1 a2 a3 σ Q → In (D, tysC cy, SF z) (LC ad cy Rr σ) A s H locs → lv_has ls 6 [(0, .ref (ad 4 99)), (1, .ref (ad q1 99)), (2, .int a2), (3, .int a3)] → W p l e (rmD 4) s m args below meth c H locs 0 0 (PV below args s (D, tysC cy, SF z) A (LC ad cy Rr) Q) (F0 m 2 ls []) := by
  have hx := E.1
  have hb := E.2.1
  intro n
  induction n with
  | zero => intro q1 a2 a3 hq1 σ H locs ls hf hI hl; exact False.elim hf
  | succ n ih =>
    intro q1 a2 a3 hq1 σ H locs ls hf hI hl
    have hf : wX1_passDay_l2s (fun q1 a2 a3 σ => wX1_passDay_l2 n q1 a2 a3 σ Q) q1 a2 a3 σ Q := hf
    unfold wX1_passDay_l2s at hf
    refine lv_iload_n (pc := 2) hx hb dX1_passDay_2 rfl (lv_at hl 3 rfl) ?_
    refine lv_aload_n (pc := 3) hx hb dX1_passDay_3 rfl (lv_at hl 1 rfl) ?_
    refine g4_5 (pc := 4) E hI hq1 lkX1_26 dX1_passDay_4 ?_
    refine lv_icmp_ge (tgt := 114) (pc := 7) hx hb dX1_passDay_7 (by decide) (fun c1 => ?_) (fun c1 => ?_)
    · have hf := hf.1 c1
      refine lv_aload_n (pc := 114) hx hb dX1_passDay_114 rfl (lv_at hl 1 rfl) ?_
      refine lv_dup (pc := 115) hx hb dX1_passDay_115 rfl ?_
      refine g4_2 (pc := 116) E hI hq1 lkX1_60 dX1_passDay_116 ?_
      refine lv_iconst (v := 1) (pc := 119) hx hb dX1_passDay_119 rfl ?_
      refine lv_iadd (pc := 120) hx hb dX1_passDay_120 ?_
      refine p4_2 (pc := 121) E hI hq1 lkX1_60 dX1_passDay_121 (fun H locs σ2 eσ2 hI => ?_)
      have hf := hf σ2 eσ2
      exact rV (pc := 124) E hr hlk hI hf dX1_passDay_124
    · have hf := hf.2 c1
      refine lv_aload_n (pc := 10) hx hb dX1_passDay_10 rfl (lv_at hl 1 rfl) ?_
      refine g4_9 (pc := 11) E hI hq1 lkX1_31 dX1_passDay_11 ?_
      refine lv_iload_n (pc := 14) hx hb dX1_passDay_14 rfl (lv_at hl 3 rfl) ?_
      refine lv_bipush (v := 99) (pc := 15) hx hb dX1_passDay_15 rfl ?_
      refine lv_aload_n (pc := 17) hx hb dX1_passDay_17 rfl (lv_at hl 1 rfl) ?_
      refine g4_9 (pc := 18) E hI hq1 lkX1_31 dX1_passDay_18 ?_
      refine lv_iload_n (pc := 21) hx hb dX1_passDay_21 rfl (lv_at hl 3 rfl) ?_
      have g3 := hf.1
      have hf := hf.2
      refine a4_9 (pc := 22) E hI hq1 g3 dX1_passDay_22 ?_
      refine lv_iconst (v := 1) (pc := 23) hx hb dX1_passDay_23 rfl ?_
      refine lv_iadd (pc := 24) hx hb dX1_passDay_24 ?_
      refine rMin (pc := 25) E cs0 hl mwX1_34 (fitD (by decide)) (Nat.le_of_ble_eq_true rfl) dX1_passDay_25 ?_
      have g4 := hf.1
      have hf := hf.2
      refine s4_9 (pc := 28) E hI hq1 g4 dX1_passDay_28 (fun H locs σ5 eσ5 hI => ?_)
      have hf := hf σ5 eσ5
      refine lv_aload_n (pc := 29) hx hb dX1_passDay_29 rfl (lv_at hl 1 rfl) ?_
      refine g4_9 (pc := 30) E hI hq1 lkX1_31 dX1_passDay_30 ?_
      refine lv_iload_n (pc := 33) hx hb dX1_passDay_33 rfl (lv_at hl 3 rfl) ?_
      have g6 := hf.1
      have hf := hf.2
      refine a4_9 (pc := 34) E hI hq1 g6 dX1_passDay_34 ?_
      refine lv_aload_n (pc := 35) hx hb dX1_passDay_35 rfl (lv_at hl 0 rfl) ?_
      refine lv_aload_n (pc := 36) hx hb dX1_passDay_36 rfl (lv_at hl 1 rfl) ?_
      refine lv_iload_n (pc := 37) hx hb dX1_passDay_37 rfl (lv_at hl 3 rfl) ?_
      refine callVI (G := (D, tysC cy, SF z)) (L := LC ad cy Rr) (pc := 38) (As := [.ref (ad q1 99), .int a3]) (rest := [.int (gA σ5 q1 9 a3.toNatClampNeg)]) stabSF E cs0 hl hI (tX1_daysNeeded hq1 hf) mwX1_40 (fitD (by decide)) (at1 rfl) rfl rfl rfl rfl (Nat.le_of_ble_eq_true rfl) dX1_passDay_38 (fun r8 σ7 H locs hf hI => ?_)
      refine lv_icmp_ge (tgt := 47) (pc := 41) hx hb dX1_passDay_41 (by decide) (fun c9 => ?_) (fun c9 => ?_)
      · have hf := hf.1 c9
        refine lv_aload_n (pc := 47) hx hb dX1_passDay_47 rfl (lv_at hl 0 rfl) ?_
        refine lv_aload_n (pc := 48) hx hb dX1_passDay_48 rfl (lv_at hl 1 rfl) ?_
        refine lv_iload_n (pc := 49) hx hb dX1_passDay_49 rfl (lv_at hl 3 rfl) ?_
        refine callVI (G := (D, tysC cy, SF z)) (L := LC ad cy Rr) (pc := 50) (As := [.ref (ad q1 99), .int a3]) (rest := []) stabSF E cs0 hl hI (tX1_colourGiven hq1 hf) mwX1_44 (fitD (by decide)) (at1 rfl) rfl rfl rfl rfl (Nat.le_of_ble_eq_true rfl) dX1_passDay_50 (fun r11 σ10 H locs hf hI => ?_)
        refine lv_istore (lv' := [(4, .int r11), (0, .ref (ad 4 99)), (1, .ref (ad q1 99)), (2, .int a2), (3, .int a3)]) (pc := 53) hx hb dX1_passDay_53 hl (by decide) rfl (fun ls hl => ?_)
        refine lv_aload_n (pc := 55) hx hb dX1_passDay_55 rfl (lv_at hl 1 rfl) ?_
        refine lv_aload_n (pc := 56) hx hb dX1_passDay_56 rfl (lv_at hl 2 rfl) ?_
        refine lv_iload_n (pc := 57) hx hb dX1_passDay_57 rfl (lv_at hl 4 rfl) ?_
        refine callVI (G := (D, tysC cy, SF z)) (L := LC ad cy Rr) (pc := 58) (As := [.ref (ad q1 99), .int a3]) (rest := []) stabSF E cs0 hl hI (tX1_colourNext hq1 hf) mwX1_47 (fitD (by decide)) (at1 rfl) rfl rfl rfl rfl (Nat.le_of_ble_eq_true rfl) dX1_passDay_58 (fun r13 σ12 H locs hf hI => ?_)
        refine lv_istore (lv' := [(5, .int r13), (4, .int r11), (0, .ref (ad 4 99)), (1, .ref (ad q1 99)), (2, .int a2), (3, .int a3)]) (pc := 61) hx hb dX1_passDay_61 hl (by decide) rfl (fun ls hl => ?_)
        refine lv_iload_n (pc := 63) hx hb dX1_passDay_63 rfl (lv_at hl 5 rfl) ?_
        refine lv_iload_n (pc := 64) hx hb dX1_passDay_64 rfl (lv_at hl 4 rfl) ?_
        refine lv_icmp_eq (tgt := 93) (pc := 65) hx hb dX1_passDay_65 (by decide) (fun c14 => ?_) (fun c14 => ?_)
        · have hf := hf.1 c14
          exact bX1_passDay_93 E hr hlk hq1 (fun _ _ _ hq1 _ _ _ _ hf hI hl => ih hq1 hf hI hl) hf hI (lv_sub hl [2, 3, 4, 5, 0] rfl)
        · have hf := hf.2 c14
          refine lv_aload_n (pc := 68) hx hb dX1_passDay_68 rfl (lv_at hl 3 rfl) ?_
          refine g4_10 (pc := 69) E hI hq1 lkX1_50 dX1_passDay_69 ?_
          refine lv_iload_n (pc := 72) hx hb dX1_passDay_72 rfl (lv_at hl 5 rfl) ?_
          refine lv_bipush (v := 99) (pc := 73) hx hb dX1_passDay_73 rfl ?_
          refine lv_aload_n (pc := 75) hx hb dX1_passDay_75 rfl (lv_at hl 3 rfl) ?_
          refine g4_10 (pc := 76) E hI hq1 lkX1_50 dX1_passDay_76 ?_
          refine lv_iload_n (pc := 79) hx hb dX1_passDay_79 rfl (lv_at hl 5 rfl) ?_
          have g20 := hf.1
          have hf := hf.2
          refine a4_10 (pc := 80) E hI hq1 g20 dX1_passDay_80 ?_
          refine lv_iconst (v := 1) (pc := 81) hx hb dX1_passDay_81 rfl ?_
          refine lv_iadd (pc := 82) hx hb dX1_passDay_82 ?_
          refine rMin (pc := 83) E cs0 hl mwX1_34 (fitD (by decide)) (Nat.le_of_ble_eq_true rfl) dX1_passDay_83 ?_
          have g21 := hf.1
          have hf := hf.2
          refine s4_10 (pc := 86) E hI hq1 g21 dX1_passDay_86 (fun H locs σ22 eσ22 hI => ?_)
          have hf := hf σ22 eσ22
          refine lv_aload_n (pc := 87) hx hb dX1_passDay_87 rfl (lv_at hl 3 rfl) ?_
          refine lv_iload (pc := 88) hx hb dX1_passDay_88 (lv_at hl 1 rfl) ?_
          refine callVV (G := (D, tysC cy, SF z)) (L := LC ad cy Rr) (pc := 90) (As := [.int r11]) (rest := []) stabSF E cs0 hl hI (tX4_lay hq1 hf) mwX1_53 (fitD (by decide)) (at4 hq1) rfl rfl rfl rfl (Nat.le_of_ble_eq_true rfl) dX1_passDay_90 (fun σ23 H locs hf hI => ?_)
          exact bX1_passDay_93 E hr hlk hq1 (fun _ _ _ hq1 _ _ _ _ hf hI hl => ih hq1 hf hI hl) hf hI (lv_sub hl [2, 3, 4, 5, 0] rfl)
      · have hf := hf.2 c9
        refine lv_goto (tgt := 108) (pc := 44) hx hb dX1_passDay_44 (by decide) ?_
        exact bX1_passDay_108 E hr hlk hq1 (fun _ _ _ hq1 _ _ _ _ hf hI hl => ih hq1 hf hI hl) hf hI (lv_sub hl [0, 1, 2, 3] rfl)
def wX1_passDay (oa : Nat) (p2 : Int32) (σ : St) (Q : St → Prop) : Prop := ∃ n24 : Nat, wX1_passDay_l2 n24 oa p2 0 σ Q
set_option maxRecDepth 100000 in
set_option maxHeartbeats 4000000 in
theorem bX1_passDay {p : Program} {l : Launch} {e : Env} {s : State} {m : MethodId} {args : Array Value} {below : List Frame} {meth : Method} {c : Code} {H : Heap} {locs : List Loc} {ls : Array Slot} {D : va_G} {z : Nat → Nat} {A : Nat → Prop} {σ : St} {ad : Nat → Nat → Nat} {cy : Nat → ClassId} {Rr : va_W} {Q : St → Prop} {oa : Nat} {p2 : Int32} (E : CallFix p m c cX1_passDay 6 s args TB RX1) (hr : meth.sig.returnType = none) (hlk : meth.locks = false) (hoa : kd oa = 4) (hf : wX1_passDay oa p2 σ Q) (hI : In (D, tysC cy, SF z) (LC ad cy Rr σ) A s H locs) (hl : lv_has ls 6 [(0, .ref (ad 4 99)), (1, .ref (ad oa 99)), (2, .int p2)]) : W p l e (rmD 4) s m args below meth c H locs 0 0 (PV below args s (D, tysC cy, SF z) A (LC ad cy Rr) Q) (F0 m 0 ls []) := by
  have hx := E.1
  have hb := E.2.1
  unfold wX1_passDay at hf
  refine lv_iconst (v := 0) (pc := 0) hx hb dX1_passDay_0 rfl ?_
  refine lv_istore_n (lv' := [(3, .int 0), (0, .ref (ad 4 99)), (1, .ref (ad oa 99)), (2, .int p2)]) (pc := 1) hx hb dX1_passDay_1 rfl hl (by decide) rfl (fun ls hl => ?_)
  obtain ⟨n24, hf⟩ := hf
  exact bX1_passDay_2 E hr hlk n24 hoa hf hI (lv_sub hl [1, 2, 3, 0] rfl)
theorem tX1_passDay {l : Launch} {D : va_G} {z : Nat → Nat} {σ : St} {ad : Nat → Nat → Nat} {cy : Nat → ClassId} {Rr : va_W} {Q : St → Prop} {oa : Nat} {p2 : Int32} (hoa : kd oa = 4) (hf : wX1_passDay oa p2 σ Q) : CtV l yX1_passDay cX1_passDay 6 4 (D, tysC cy, SF z) (LC ad cy Rr) [.ref (ad 4 99), .ref (ad oa 99), .int p2] σ Q := mkV (by decide) (Nat.le_of_ble_eq_true rfl) (fun p e s m below meth c A E hr hlk hI ls hl => bX1_passDay E hr hlk hoa hf hI hl)

def wX5_told (p1 : Int32) (p2 : Int32) (σ : St) (Q : Int32 → St → Prop) : Prop := ((p2 < 0 → Q (-1000) σ) ∧ (¬ p2 < 0 → ((11 < p2 → Q (-1000) σ) ∧ (¬ 11 < p2 → wX5_isThere p2 p1 σ (fun r4 σ3 => ((¬ r4 = 0 → ((p2 = 9 → wX1_daysNeeded 1 p1 σ3 (fun r8 σ7 => Q r8 σ7)) ∧ (p2 = 10 → wX1_colourGiven 1 p1 σ3 (fun r11 σ10 => Q r11 σ10)) ∧ (p2 = 11 → wX1_colourNext 1 p1 σ3 (fun r14 σ13 => Q r14 σ13)) ∧ (¬ p2 = 9 → ¬ p2 = 10 → ¬ p2 = 11 → wX4_figure 1 p2 p1 σ3 (fun r16 σ15 => Q r16 σ15)))) ∧ (r4 = 0 → Q (-1000) σ3)))))))
set_option maxRecDepth 100000 in
set_option maxHeartbeats 4000000 in
theorem bX5_told {p : Program} {l : Launch} {e : Env} {s : State} {m : MethodId} {args : Array Value} {below : List Frame} {meth : Method} {c : Code} {H : Heap} {locs : List Loc} {ls : Array Slot} {D : va_G} {z : Nat → Nat} {A : Nat → Prop} {σ : St} {ad : Nat → Nat → Nat} {cy : Nat → ClassId} {Rr : va_W} {Q : Int32 → St → Prop} {p1 : Int32} {p2 : Int32} (E : CallFix p m c cX5_told 3 s args TB RX5) (hr : meth.sig.returnType = some .int) (hlk : meth.locks = false) (hf : wX5_told p1 p2 σ Q) (hI : In (D, tysC cy, SF z) (LC ad cy Rr σ) A s H locs) (hl : lv_has ls 3 [(0, .ref (ad 0 99)), (1, .int p1), (2, .int p2)]) : W p l e (rmD 4) s m args below meth c H locs 0 0 (PI below args s (D, tysC cy, SF z) A (LC ad cy Rr) Q) (F0 m 0 ls []) := by
  have hx := E.1
  have hb := E.2.1
  unfold wX5_told at hf
  refine lv_iload_n (pc := 0) hx hb dX5_told_0 rfl (lv_at hl 2 rfl) ?_
  refine lv_if_lt (tgt := 19) (pc := 1) hx hb dX5_told_1 (by decide) (fun c1 => ?_) (fun c1 => ?_)
  · have hf := hf.1 c1
    refine lv_sipush (v := (-1000)) (pc := 19) hx hb dX5_told_19 rfl ?_
    exact rI (pc := 22) E hr hlk hI hf dX5_told_22
  · have hf := hf.2 c1
    refine lv_iload_n (pc := 4) hx hb dX5_told_4 rfl (lv_at hl 2 rfl) ?_
    refine lv_bipush (v := 11) (pc := 5) hx hb dX5_told_5 rfl ?_
    refine lv_icmp_gt (tgt := 19) (pc := 7) hx hb dX5_told_7 (by decide) (fun c2 => ?_) (fun c2 => ?_)
    · have hf := hf.1 c2
      refine lv_sipush (v := (-1000)) (pc := 19) hx hb dX5_told_19 rfl ?_
      exact rI (pc := 22) E hr hlk hI hf dX5_told_22
    · have hf := hf.2 c2
      refine lv_aload_n (pc := 10) hx hb dX5_told_10 rfl (lv_at hl 0 rfl) ?_
      refine lv_iload_n (pc := 11) hx hb dX5_told_11 rfl (lv_at hl 2 rfl) ?_
      refine lv_iload_n (pc := 12) hx hb dX5_told_12 rfl (lv_at hl 1 rfl) ?_
      refine callVI (G := (D, tysC cy, SF z)) (L := LC ad cy Rr) (pc := 13) (As := [.int p2, .int p1]) (rest := []) stabSF E cs0 hl hI (tX5_isThere hf) mwX5_78 (fitD (by decide)) (at5 rfl) rfl rfl rfl rfl (Nat.le_of_ble_eq_true rfl) dX5_told_13 (fun r4 σ3 H locs hf hI => ?_)
      refine lv_if_ne (tgt := 23) (pc := 16) hx hb dX5_told_16 (by decide) (fun c5 => ?_) (fun c5 => ?_)
      · have hf := hf.1 c5
        refine lv_iload_n (pc := 23) hx hb dX5_told_23 rfl (lv_at hl 2 rfl) ?_
        by_cases c6 : p2 = 9
        · refine lv_tableIn (tgt := 52) (pc := 24) hx hb dX5_told_24 (by rw [c6]; decide) (by rw [c6]; decide) (by rw [c6]; rfl) (by decide) ?_
          have hf := hf.1 c6
          refine lv_aload_n (pc := 52) hx hb dX5_told_52 rfl (lv_at hl 0 rfl) ?_
          refine g5_4 (pc := 53) E hI rfl lkX5_29 dX5_told_53 ?_
          refine lv_aload_n (pc := 56) hx hb dX5_told_56 rfl (lv_at hl 0 rfl) ?_
          refine g5_0 (pc := 57) E hI rfl lkX5_10 dX5_told_57 ?_
          refine lv_iload_n (pc := 60) hx hb dX5_told_60 rfl (lv_at hl 1 rfl) ?_
          refine callVI (G := (D, tysC cy, SF z)) (L := LC ad cy Rr) (pc := 61) (As := [.ref (ad 1 99), .int p1]) (rest := []) stabSF E cs0 hl hI (tX1_daysNeeded rfl hf) mwX5_101 (fitD (by decide)) (at1 rfl) rfl rfl rfl rfl (Nat.le_of_ble_eq_true rfl) dX5_told_61 (fun r8 σ7 H locs hf hI => ?_)
          exact rI (pc := 64) E hr hlk hI hf dX5_told_64
        have hf := hf.2
        by_cases c9 : p2 = 10
        · refine lv_tableIn (tgt := 65) (pc := 24) hx hb dX5_told_24 (by rw [c9]; decide) (by rw [c9]; decide) (by rw [c9]; rfl) (by decide) ?_
          have hf := hf.1 c9
          refine lv_aload_n (pc := 65) hx hb dX5_told_65 rfl (lv_at hl 0 rfl) ?_
          refine g5_4 (pc := 66) E hI rfl lkX5_29 dX5_told_66 ?_
          refine lv_aload_n (pc := 69) hx hb dX5_told_69 rfl (lv_at hl 0 rfl) ?_
          refine g5_0 (pc := 70) E hI rfl lkX5_10 dX5_told_70 ?_
          refine lv_iload_n (pc := 73) hx hb dX5_told_73 rfl (lv_at hl 1 rfl) ?_
          refine callVI (G := (D, tysC cy, SF z)) (L := LC ad cy Rr) (pc := 74) (As := [.ref (ad 1 99), .int p1]) (rest := []) stabSF E cs0 hl hI (tX1_colourGiven rfl hf) mwX5_105 (fitD (by decide)) (at1 rfl) rfl rfl rfl rfl (Nat.le_of_ble_eq_true rfl) dX5_told_74 (fun r11 σ10 H locs hf hI => ?_)
          exact rI (pc := 77) E hr hlk hI hf dX5_told_77
        have hf := hf.2
        by_cases c12 : p2 = 11
        · refine lv_tableIn (tgt := 78) (pc := 24) hx hb dX5_told_24 (by rw [c12]; decide) (by rw [c12]; decide) (by rw [c12]; rfl) (by decide) ?_
          have hf := hf.1 c12
          refine lv_aload_n (pc := 78) hx hb dX5_told_78 rfl (lv_at hl 0 rfl) ?_
          refine g5_4 (pc := 79) E hI rfl lkX5_29 dX5_told_79 ?_
          refine lv_aload_n (pc := 82) hx hb dX5_told_82 rfl (lv_at hl 0 rfl) ?_
          refine g5_0 (pc := 83) E hI rfl lkX5_10 dX5_told_83 ?_
          refine lv_iload_n (pc := 86) hx hb dX5_told_86 rfl (lv_at hl 1 rfl) ?_
          refine callVI (G := (D, tysC cy, SF z)) (L := LC ad cy Rr) (pc := 87) (As := [.ref (ad 1 99), .int p1]) (rest := []) stabSF E cs0 hl hI (tX1_colourNext rfl hf) mwX5_108 (fitD (by decide)) (at1 rfl) rfl rfl rfl rfl (Nat.le_of_ble_eq_true rfl) dX5_told_87 (fun r14 σ13 H locs hf hI => ?_)
          exact rI (pc := 90) E hr hlk hI hf dX5_told_90
        have hf := hf.2
        have hf := hf c6 c9 c12
        refine lv_tableOut (tgt := 91) (pc := 24) hx hb dX5_told_24 (by have := neI (k := 9) c6 rfl; have := neI (k := 10) c9 rfl; have := neI (k := 11) c12 rfl; omega) (by decide) ?_
        refine lv_aload_n (pc := 91) hx hb dX5_told_91 rfl (lv_at hl 0 rfl) ?_
        refine g5_0 (pc := 92) E hI rfl lkX5_10 dX5_told_92 ?_
        refine lv_iload_n (pc := 95) hx hb dX5_told_95 rfl (lv_at hl 2 rfl) ?_
        refine lv_iload_n (pc := 96) hx hb dX5_told_96 rfl (lv_at hl 1 rfl) ?_
        refine callVI (G := (D, tysC cy, SF z)) (L := LC ad cy Rr) (pc := 97) (As := [.int p2, .int p1]) (rest := []) stabSF E cs0 hl hI (tX4_figure rfl hf) mwX5_86 (fitD (by decide)) (at4 rfl) rfl rfl rfl rfl (Nat.le_of_ble_eq_true rfl) dX5_told_97 (fun r16 σ15 H locs hf hI => ?_)
        exact rI (pc := 100) E hr hlk hI hf dX5_told_100
      · have hf := hf.2 c5
        refine lv_sipush (v := (-1000)) (pc := 19) hx hb dX5_told_19 rfl ?_
        exact rI (pc := 22) E hr hlk hI hf dX5_told_22
theorem tX5_told {l : Launch} {D : va_G} {z : Nat → Nat} {σ : St} {ad : Nat → Nat → Nat} {cy : Nat → ClassId} {Rr : va_W} {Q : Int32 → St → Prop} {p1 : Int32} {p2 : Int32} (hf : wX5_told p1 p2 σ Q) : CtI l yX5_told cX5_told 3 .int 4 (D, tysC cy, SF z) (LC ad cy Rr) [.ref (ad 0 99), .int p1, .int p2] σ Q := mkI (by decide) (Nat.le_of_ble_eq_true rfl) (fun p e s m below meth c A E hr hlk hI ls hl => bX5_told E hr hlk hf hI hl)

def wX5_day (σ : St) (Q : Int32 → St → Prop) : Prop := (((gI σ 1 2) < 999 → wX1_passDay 1 (-1) σ (fun σ2 => wX4_filledCells 1 σ2 (fun r4 σ3 => Q r4 σ3))) ∧ (¬ (gI σ 1 2) < 999 → Q (-3) σ))
set_option maxRecDepth 100000 in
set_option maxHeartbeats 4000000 in
theorem bX5_day {p : Program} {l : Launch} {e : Env} {s : State} {m : MethodId} {args : Array Value} {below : List Frame} {meth : Method} {c : Code} {H : Heap} {locs : List Loc} {ls : Array Slot} {D : va_G} {z : Nat → Nat} {A : Nat → Prop} {σ : St} {ad : Nat → Nat → Nat} {cy : Nat → ClassId} {Rr : va_W} {Q : Int32 → St → Prop} (E : CallFix p m c cX5_day 1 s args TB RX5) (hr : meth.sig.returnType = some .int) (hlk : meth.locks = false) (hf : wX5_day σ Q) (hI : In (D, tysC cy, SF z) (LC ad cy Rr σ) A s H locs) (hl : lv_has ls 1 [(0, .ref (ad 0 99))]) : W p l e (rmD 5) s m args below meth c H locs 0 0 (PI below args s (D, tysC cy, SF z) A (LC ad cy Rr) Q) (F0 m 0 ls []) := by
  have hx := E.1
  have hb := E.2.1
  unfold wX5_day at hf
  refine lv_aload_n (pc := 0) hx hb dX5_day_0 rfl (lv_at hl 0 rfl) ?_
  refine g5_0 (pc := 1) E hI rfl lkX5_10 dX5_day_1 ?_
  refine g4_2 (pc := 4) E hI rfl lkX5_124 dX5_day_4 ?_
  refine lv_sipush (v := 999) (pc := 7) hx hb dX5_day_7 rfl ?_
  refine lv_icmp_lt (tgt := 16) (pc := 10) hx hb dX5_day_10 (by decide) (fun c1 => ?_) (fun c1 => ?_)
  · have hf := hf.1 c1
    refine lv_aload_n (pc := 16) hx hb dX5_day_16 rfl (lv_at hl 0 rfl) ?_
    refine g5_4 (pc := 17) E hI rfl lkX5_29 dX5_day_17 ?_
    refine lv_aload_n (pc := 20) hx hb dX5_day_20 rfl (lv_at hl 0 rfl) ?_
    refine g5_0 (pc := 21) E hI rfl lkX5_10 dX5_day_21 ?_
    refine lv_iconst (v := (-1)) (pc := 24) hx hb dX5_day_24 rfl ?_
    refine callVV (G := (D, tysC cy, SF z)) (L := LC ad cy Rr) (pc := 25) (As := [.ref (ad 1 99), .int (-1)]) (rest := []) stabSF E cs0 hl hI (tX1_passDay rfl hf) mwX5_127 (fitD (by decide)) (at1 rfl) rfl rfl rfl rfl (Nat.le_of_ble_eq_true rfl) dX5_day_25 (fun σ2 H locs hf hI => ?_)
    refine lv_aload_n (pc := 28) hx hb dX5_day_28 rfl (lv_at hl 0 rfl) ?_
    refine g5_0 (pc := 29) E hI rfl lkX5_10 dX5_day_29 ?_
    refine callVI (G := (D, tysC cy, SF z)) (L := LC ad cy Rr) (pc := 32) (As := []) (rest := []) stabSF E cs0 hl hI (tX4_filledCells rfl hf) mwX5_131 (fitD (by decide)) (at4 rfl) rfl rfl rfl rfl (Nat.le_of_ble_eq_true rfl) dX5_day_32 (fun r4 σ3 H locs hf hI => ?_)
    exact rI (pc := 35) E hr hlk hI hf dX5_day_35
  · have hf := hf.2 c1
    refine lv_bipush (v := (-3)) (pc := 13) hx hb dX5_day_13 rfl ?_
    exact rI (pc := 15) E hr hlk hI hf dX5_day_15
theorem tX5_day {l : Launch} {D : va_G} {z : Nat → Nat} {σ : St} {ad : Nat → Nat → Nat} {cy : Nat → ClassId} {Rr : va_W} {Q : Int32 → St → Prop} (hf : wX5_day σ Q) : CtI l yX5_day cX5_day 1 .int 5 (D, tysC cy, SF z) (LC ad cy Rr) [.ref (ad 0 99)] σ Q := mkI (by decide) (Nat.le_of_ble_eq_true rfl) (fun p e s m below meth c A E hr hlk hI ls hl => bX5_day E hr hlk hf hI hl)

def wX5_ends_l6s (ih : Int32 → St → Prop) (a1 : Int32) (σ : St) (Q : Int32 → St → Prop) : Prop := ((60 < a1 → Q (-1) σ) ∧ (¬ 60 < a1 → ((¬ (lg_cmp (gJ σ 2 1) (-1)) = 0 → wX1_passDay 2 (-1) σ (fun σ4 => ∀ x5 : Int32, x5 = a1 + 1 → (ih x5 σ4))) ∧ ((lg_cmp (gJ σ 2 1) (-1)) = 0 → Q a1 σ))))
def wX5_ends_l6 (n : Nat) : Int32 → St → (Int32 → St → Prop) → Prop := @Nat.rec (fun _ => Int32 → St → (Int32 → St → Prop) → Prop) (fun _ _ _ => False) (fun _ ih a1 σ Q => wX5_ends_l6s (fun a1 σ => ih a1 σ Q) a1 σ Q) n
set_option maxRecDepth 100000 in
set_option maxHeartbeats 4000000 in
theorem bX5_ends_6 {p : Program} {l : Launch} {e : Env} {s : State} {m : MethodId} {args : Array Value} {below : List Frame} {meth : Method} {c : Code} {D : va_G} {z : Nat → Nat} {A : Nat → Prop} {ad : Nat → Nat → Nat} {cy : Nat → ClassId} {Rr : va_W} {Q : Int32 → St → Prop} (E : CallFix p m c cX5_ends 2 s args TB RX5) (hr : meth.sig.returnType = some .int) (hlk : meth.locks = false) : ∀ (n : Nat) {a1 : Int32} {σ : St} {H : Heap} {locs : List Loc} {ls : Array Slot}, wX5_ends_l6 n a1 σ Q → In (D, tysC cy, SF z) (LC ad cy Rr σ) A s H locs → lv_has ls 2 [(0, .ref (ad 0 99)), (1, .int a1)] → W p l e (rmD 5) s m args below meth c H locs 0 0 (PI below args s (D, tysC cy, SF z) A (LC ad cy Rr) Q) (F0 m 6 ls []) := by
  have hx := E.1
  have hb := E.2.1
  intro n
  induction n with
  | zero => intro a1 σ H locs ls hf hI hl; exact False.elim hf
  | succ n ih =>
    intro a1 σ H locs ls hf hI hl
    have hf : wX5_ends_l6s (fun a1 σ => wX5_ends_l6 n a1 σ Q) a1 σ Q := hf
    unfold wX5_ends_l6s at hf
    refine lv_iload_n (pc := 6) hx hb dX5_ends_6 rfl (lv_at hl 1 rfl) ?_
    refine lv_bipush (v := 60) (pc := 7) hx hb dX5_ends_7 rfl ?_
    refine lv_icmp_gt (tgt := 46) (pc := 9) hx hb dX5_ends_9 (by decide) (fun c2 => ?_) (fun c2 => ?_)
    · have hf := hf.1 c2
      refine lv_iconst (v := (-1)) (pc := 46) hx hb dX5_ends_46 rfl ?_
      exact rI (pc := 47) E hr hlk hI hf dX5_ends_47
    · have hf := hf.2 c2
      refine lv_aload_n (pc := 12) hx hb dX5_ends_12 rfl (lv_at hl 0 rfl) ?_
      refine g5_1 (pc := 13) E hI rfl lkX5_16 dX5_ends_13 ?_
      refine g4_1 (pc := 16) E hI rfl lkX5_115 dX5_ends_16 ?_
      refine lv_ldc2 (pc := 19) E.1 E.2.1 E.2.2.2.1 (E.2.2.2.2 _ kcX5_156) dX5_ends_19 ?_
      refine W.lcmp (pc := 22) hx hb dX5_ends_22 ?_
      refine lv_if_ne (tgt := 28) (pc := 23) hx hb dX5_ends_23 (by decide) (fun c3 => ?_) (fun c3 => ?_)
      · have hf := hf.1 c3
        refine lv_aload_n (pc := 28) hx hb dX5_ends_28 rfl (lv_at hl 0 rfl) ?_
        refine g5_4 (pc := 29) E hI rfl lkX5_29 dX5_ends_29 ?_
        refine lv_aload_n (pc := 32) hx hb dX5_ends_32 rfl (lv_at hl 0 rfl) ?_
        refine g5_1 (pc := 33) E hI rfl lkX5_16 dX5_ends_33 ?_
        refine lv_iconst (v := (-1)) (pc := 36) hx hb dX5_ends_36 rfl ?_
        refine callVV (G := (D, tysC cy, SF z)) (L := LC ad cy Rr) (pc := 37) (As := [.ref (ad 2 99), .int (-1)]) (rest := []) stabSF E cs0 hl hI (tX1_passDay rfl hf) mwX5_127 (fitD (by decide)) (at1 rfl) rfl rfl rfl rfl (Nat.le_of_ble_eq_true rfl) dX5_ends_37 (fun σ4 H locs hf hI => ?_)
        obtain ⟨x5, ex5⟩ : ∃ y : Int32, y = a1 + 1 := ⟨_, rfl⟩
        have hf := hf x5 ex5
        refine lv_iinc (v := x5) (lv' := [(1, .int x5), (0, .ref (ad 0 99))]) (pc := 40) hx hb dX5_ends_40 hl (k := 1) rfl (by rw [ex5]; rfl) (by decide) rfl (fun ls hl => ?_)
        refine lv_goto (tgt := 6) (pc := 43) hx hb dX5_ends_43 (by decide) ?_
        exact ih hf hI (lv_sub hl [1, 0] rfl)
      · have hf := hf.2 c3
        refine lv_iload_n (pc := 26) hx hb dX5_ends_26 rfl (lv_at hl 1 rfl) ?_
        exact rI (pc := 27) E hr hlk hI hf dX5_ends_27
def wX5_ends (σ : St) (Q : Int32 → St → Prop) : Prop := wX5_think σ (fun σ1 => ∃ n6 : Nat, wX5_ends_l6 n6 0 σ1 Q)
set_option maxRecDepth 100000 in
set_option maxHeartbeats 4000000 in
theorem bX5_ends {p : Program} {l : Launch} {e : Env} {s : State} {m : MethodId} {args : Array Value} {below : List Frame} {meth : Method} {c : Code} {H : Heap} {locs : List Loc} {ls : Array Slot} {D : va_G} {z : Nat → Nat} {A : Nat → Prop} {σ : St} {ad : Nat → Nat → Nat} {cy : Nat → ClassId} {Rr : va_W} {Q : Int32 → St → Prop} (E : CallFix p m c cX5_ends 2 s args TB RX5) (hr : meth.sig.returnType = some .int) (hlk : meth.locks = false) (hf : wX5_ends σ Q) (hI : In (D, tysC cy, SF z) (LC ad cy Rr σ) A s H locs) (hl : lv_has ls 2 [(0, .ref (ad 0 99))]) : W p l e (rmD 5) s m args below meth c H locs 0 0 (PI below args s (D, tysC cy, SF z) A (LC ad cy Rr) Q) (F0 m 0 ls []) := by
  have hx := E.1
  have hb := E.2.1
  unfold wX5_ends at hf
  refine lv_aload_n (pc := 0) hx hb dX5_ends_0 rfl (lv_at hl 0 rfl) ?_
  refine callVV (G := (D, tysC cy, SF z)) (L := LC ad cy Rr) (pc := 1) (As := []) (rest := []) stabSF E cs0 hl hI (tX5_think hf) mwX5_137 (fitD (by decide)) (at5 rfl) rfl rfl rfl rfl (Nat.le_of_ble_eq_true rfl) dX5_ends_1 (fun σ1 H locs hf hI => ?_)
  refine lv_iconst (v := 0) (pc := 4) hx hb dX5_ends_4 rfl ?_
  refine lv_istore_n (lv' := [(1, .int 0), (0, .ref (ad 0 99))]) (pc := 5) hx hb dX5_ends_5 rfl hl (by decide) rfl (fun ls hl => ?_)
  obtain ⟨n6, hf⟩ := hf
  exact bX5_ends_6 E hr hlk n6 hf hI (lv_sub hl [1, 0] rfl)
theorem tX5_ends {l : Launch} {D : va_G} {z : Nat → Nat} {σ : St} {ad : Nat → Nat → Nat} {cy : Nat → ClassId} {Rr : va_W} {Q : Int32 → St → Prop} (hf : wX5_ends σ Q) : CtI l yX5_ends cX5_ends 2 .int 5 (D, tysC cy, SF z) (LC ad cy Rr) [.ref (ad 0 99)] σ Q := mkI (by decide) (Nat.le_of_ble_eq_true rfl) (fun p e s m below meth c A E hr hlk hI ls hl => bX5_ends E hr hlk hf hI hl)

def wX5_film_l41s (ih : Int32 → Nat → Int32 → St → Prop) (a2 : Int32) (q3 : Nat) (a4 : Int32) (σ : St) (Q : Int32 → St → Prop) : Prop := ((a2 ≤ a4 → Q a2 σ) ∧ (¬ a2 ≤ a4 → wX1_passDay 2 (-1) σ (fun σ11 => wX4_filledCells 2 σ11 (fun r13 σ12 => wX2_put q3 a4 r13 σ12 (fun σ14 => ∀ x15 : Int32, x15 = a4 + 1 → (ih a2 q3 x15 σ14))))))
def wX5_film_l41 (n : Nat) : Int32 → Nat → Int32 → St → (Int32 → St → Prop) → Prop := @Nat.rec (fun _ => Int32 → Nat → Int32 → St → (Int32 → St → Prop) → Prop) (fun _ _ _ _ _ => False) (fun _ ih a2 q3 a4 σ Q => wX5_film_l41s (fun a2 q3 a4 σ => ih a2 q3 a4 σ Q) a2 q3 a4 σ Q) n
set_option maxRecDepth 100000 in
set_option maxHeartbeats 4000000 in
theorem bX5_film_41 {p : Program} {l : Launch} {e : Env} {s : State} {m : MethodId} {args : Array Value} {below : List Frame} {meth : Method} {c : Code} {D : va_G} {z : Nat → Nat} {A : Nat → Prop} {ad : Nat → Nat → Nat} {cy : Nat → ClassId} {Rr : va_W} {Q : Int32 → St → Prop} (E : CallFix p m c cX5_film 5 s args TB RX5) (hr : meth.sig.returnType = some .int) (hlk : meth.locks = false) : ∀ (n : Nat) {a2 : Int32} {q3 : Nat} {a4 : Int32} (hq3 : kd q3 = 2) {σ : St} {H : Heap} {locs : List Loc} {ls : Array Slot}, wX5_film_l41 n a2 q3 a4 σ Q → In (D, tysC cy, SF z) (LC ad cy Rr σ) A s H locs → lv_has ls 5 [(0, .ref (ad 0 99)), (2, .int a2), (3, .ref (ad q3 99)), (4, .int a4)] → W p l e (rmD 5) s m args below meth c H locs 0 0 (PI below args s (D, tysC cy, SF z) A (LC ad cy Rr) Q) (F0 m 41 ls []) := by
  have hx := E.1
  have hb := E.2.1
  intro n
  induction n with
  | zero => intro a2 q3 a4 hq3 σ H locs ls hf hI hl; exact False.elim hf
  | succ n ih =>
    intro a2 q3 a4 hq3 σ H locs ls hf hI hl
    have hf : wX5_film_l41s (fun a2 q3 a4 σ => wX5_film_l41 n a2 q3 a4 σ Q) a2 q3 a4 σ Q := hf
    unfold wX5_film_l41s at hf
    refine lv_iload (pc := 41) hx hb dX5_film_41 (lv_at hl 3 rfl) ?_
    refine lv_iload_n (pc := 43) hx hb dX5_film_43 rfl (lv_at hl 1 rfl) ?_
    refine lv_icmp_ge (tgt := 78) (pc := 44) hx hb dX5_film_44 (by decide) (fun c10 => ?_) (fun c10 => ?_)
    · have hf := hf.1 c10
      refine lv_iload_n (pc := 78) hx hb dX5_film_78 rfl (lv_at hl 1 rfl) ?_
      exact rI (pc := 79) E hr hlk hI hf dX5_film_79
    · have hf := hf.2 c10
      refine lv_aload_n (pc := 47) hx hb dX5_film_47 rfl (lv_at hl 0 rfl) ?_
      refine g5_4 (pc := 48) E hI rfl lkX5_29 dX5_film_48 ?_
      refine lv_aload_n (pc := 51) hx hb dX5_film_51 rfl (lv_at hl 0 rfl) ?_
      refine g5_1 (pc := 52) E hI rfl lkX5_16 dX5_film_52 ?_
      refine lv_iconst (v := (-1)) (pc := 55) hx hb dX5_film_55 rfl ?_
      refine callVV (G := (D, tysC cy, SF z)) (L := LC ad cy Rr) (pc := 56) (As := [.ref (ad 2 99), .int (-1)]) (rest := []) stabSF E cs0 hl hI (tX1_passDay rfl hf) mwX5_127 (fitD (by decide)) (at1 rfl) rfl rfl rfl rfl (Nat.le_of_ble_eq_true rfl) dX5_film_56 (fun σ11 H locs hf hI => ?_)
      refine lv_aload_n (pc := 59) hx hb dX5_film_59 rfl (lv_at hl 2 rfl) ?_
      refine lv_iload (pc := 60) hx hb dX5_film_60 (lv_at hl 3 rfl) ?_
      refine lv_aload_n (pc := 62) hx hb dX5_film_62 rfl (lv_at hl 0 rfl) ?_
      refine g5_1 (pc := 63) E hI rfl lkX5_16 dX5_film_63 ?_
      refine callVI (G := (D, tysC cy, SF z)) (L := LC ad cy Rr) (pc := 66) (As := []) (rest := [.int a4, .ref (ad q3 99)]) stabSF E cs0 hl hI (tX4_filledCells rfl hf) mwX5_131 (fitD (by decide)) (at4 rfl) rfl rfl rfl rfl (Nat.le_of_ble_eq_true rfl) dX5_film_66 (fun r13 σ12 H locs hf hI => ?_)
      refine callVV (G := (D, tysC cy, SF z)) (L := LC ad cy Rr) (pc := 69) (As := [.int a4, .int r13]) (rest := []) stabSF E cs0 hl hI (tX2_put hq3 hf) mwX5_214 (fitD (by decide)) (at2 hq3) rfl rfl rfl rfl (Nat.le_of_ble_eq_true rfl) dX5_film_69 (fun σ14 H locs hf hI => ?_)
      obtain ⟨x15, ex15⟩ : ∃ y : Int32, y = a4 + 1 := ⟨_, rfl⟩
      have hf := hf x15 ex15
      refine lv_iinc (v := x15) (lv' := [(4, .int x15), (0, .ref (ad 0 99)), (2, .int a2), (3, .ref (ad q3 99))]) (pc := 72) hx hb dX5_film_72 hl (k := 3) rfl (by rw [ex15]; rfl) (by decide) rfl (fun ls hl => ?_)
      refine lv_goto (tgt := 41) (pc := 75) hx hb dX5_film_75 (by decide) ?_
      exact ih hq3 hf hI (lv_sub hl [1, 2, 3, 0] rfl)
def wX5_film (p1 : Int32) (p2 : Int32) (σ : St) (Q : Int32 → St → Prop) : Prop := wX5_isIn p1 4 σ (fun r2 σ1 => ((r2 = 0 → Q (-2) σ1) ∧ (¬ r2 = 0 → ((p2 < 0 → Q (-2) σ1) ∧ (¬ p2 < 0 → ((p2 ≤ 20 → vp_in p1 4 ∧ ∀ o7 : Nat, o7 = 12 + p1.toNatClampNeg → wX2_become o7 0 p2 σ1 (fun σ8 => wX5_think σ8 (fun σ9 => ∃ n16 : Nat, wX5_film_l41 n16 p2 o7 0 σ9 Q))) ∧ (¬ p2 ≤ 20 → Q (-2) σ1)))))))
set_option maxRecDepth 100000 in
set_option maxHeartbeats 4000000 in
theorem bX5_film {p : Program} {l : Launch} {e : Env} {s : State} {m : MethodId} {args : Array Value} {below : List Frame} {meth : Method} {c : Code} {H : Heap} {locs : List Loc} {ls : Array Slot} {D : va_G} {z : Nat → Nat} {A : Nat → Prop} {σ : St} {ad : Nat → Nat → Nat} {cy : Nat → ClassId} {Rr : va_W} {Q : Int32 → St → Prop} {p1 : Int32} {p2 : Int32} (E : CallFix p m c cX5_film 5 s args TB RX5) (hr : meth.sig.returnType = some .int) (hlk : meth.locks = false) (hf : wX5_film p1 p2 σ Q) (hI : In (D, tysC cy, SF z) (LC ad cy Rr σ) A s H locs) (hl : lv_has ls 5 [(0, .ref (ad 0 99)), (1, .int p1), (2, .int p2)]) : W p l e (rmD 5) s m args below meth c H locs 0 0 (PI below args s (D, tysC cy, SF z) A (LC ad cy Rr) Q) (F0 m 0 ls []) := by
  have hx := E.1
  have hb := E.2.1
  unfold wX5_film at hf
  refine lv_iload_n (pc := 0) hx hb dX5_film_0 rfl (lv_at hl 1 rfl) ?_
  refine lv_iconst (v := 4) (pc := 1) hx hb dX5_film_1 rfl ?_
  refine callSI (G := (D, tysC cy, SF z)) (L := LC ad cy Rr) (pc := 2) (As := [.int p1, .int 4]) (rest := []) stabSF E cs0 hl hI (tX5_isIn hf) mwX5_94 (fitD (by decide)) rfl rfl (Nat.le_of_ble_eq_true rfl) dX5_film_2 (fun r2 σ1 H locs hf hI => ?_)
  refine lv_if_eq (tgt := 18) (pc := 5) hx hb dX5_film_5 (by decide) (fun c3 => ?_) (fun c3 => ?_)
  · have hf := hf.1 c3
    refine lv_bipush (v := (-2)) (pc := 18) hx hb dX5_film_18 rfl ?_
    exact rI (pc := 20) E hr hlk hI hf dX5_film_20
  · have hf := hf.2 c3
    refine lv_iload_n (pc := 8) hx hb dX5_film_8 rfl (lv_at hl 2 rfl) ?_
    refine lv_if_lt (tgt := 18) (pc := 9) hx hb dX5_film_9 (by decide) (fun c4 => ?_) (fun c4 => ?_)
    · have hf := hf.1 c4
      refine lv_bipush (v := (-2)) (pc := 18) hx hb dX5_film_18 rfl ?_
      exact rI (pc := 20) E hr hlk hI hf dX5_film_20
    · have hf := hf.2 c4
      refine lv_iload_n (pc := 12) hx hb dX5_film_12 rfl (lv_at hl 2 rfl) ?_
      refine lv_bipush (v := 20) (pc := 13) hx hb dX5_film_13 rfl ?_
      refine lv_icmp_le (tgt := 21) (pc := 15) hx hb dX5_film_15 (by decide) (fun c5 => ?_) (fun c5 => ?_)
      · have hf := hf.1 c5
        refine lv_aload_n (pc := 21) hx hb dX5_film_21 rfl (lv_at hl 0 rfl) ?_
        refine g5_6 (pc := 22) E hI rfl lkX5_42 dX5_film_22 ?_
        refine lv_iload_n (pc := 25) hx hb dX5_film_25 rfl (lv_at hl 1 rfl) ?_
        have g6 := hf.1
        have hf := hf.2
        refine a5_6n (pc := 26) E hI rfl g6 dX5_film_26 (fun o7 eo7 ho7 => ?_)
        have hf := hf o7 eo7
        refine lv_astore_n (lv' := [(3, .ref (ad o7 99)), (0, .ref (ad 0 99)), (1, .int p1), (2, .int p2)]) (pc := 27) hx hb dX5_film_27 rfl hl (by decide) rfl (fun ls hl => ?_)
        refine lv_aload_n (pc := 28) hx hb dX5_film_28 rfl (lv_at hl 0 rfl) ?_
        refine lv_iconst (v := 0) (pc := 29) hx hb dX5_film_29 rfl ?_
        refine lv_iload_n (pc := 30) hx hb dX5_film_30 rfl (lv_at hl 3 rfl) ?_
        refine callVV (G := (D, tysC cy, SF z)) (L := LC ad cy Rr) (pc := 31) (As := [.int 0, .int p2]) (rest := []) stabSF E cs0 hl hI (tX2_become ho7 hf) mwX5_211 (fitD (by decide)) (at2 ho7) rfl rfl rfl rfl (Nat.le_of_ble_eq_true rfl) dX5_film_31 (fun σ8 H locs hf hI => ?_)
        refine lv_aload_n (pc := 34) hx hb dX5_film_34 rfl (lv_at hl 1 rfl) ?_
        refine callVV (G := (D, tysC cy, SF z)) (L := LC ad cy Rr) (pc := 35) (As := []) (rest := []) stabSF E cs0 hl hI (tX5_think hf) mwX5_137 (fitD (by decide)) (at5 rfl) rfl rfl rfl rfl (Nat.le_of_ble_eq_true rfl) dX5_film_35 (fun σ9 H locs hf hI => ?_)
        refine lv_iconst (v := 0) (pc := 38) hx hb dX5_film_38 rfl ?_
        refine lv_istore (lv' := [(4, .int 0), (3, .ref (ad o7 99)), (0, .ref (ad 0 99)), (1, .int p1), (2, .int p2)]) (pc := 39) hx hb dX5_film_39 hl (by decide) rfl (fun ls hl => ?_)
        obtain ⟨n16, hf⟩ := hf
        exact bX5_film_41 E hr hlk n16 ho7 hf hI (lv_sub hl [2, 4, 1, 0] rfl)
      · have hf := hf.2 c5
        refine lv_bipush (v := (-2)) (pc := 18) hx hb dX5_film_18 rfl ?_
        exact rI (pc := 20) E hr hlk hI hf dX5_film_20
theorem tX5_film {l : Launch} {D : va_G} {z : Nat → Nat} {σ : St} {ad : Nat → Nat → Nat} {cy : Nat → ClassId} {Rr : va_W} {Q : Int32 → St → Prop} {p1 : Int32} {p2 : Int32} (hf : wX5_film p1 p2 σ Q) : CtI l yX5_film cX5_film 5 .int 5 (D, tysC cy, SF z) (LC ad cy Rr) [.ref (ad 0 99), .int p1, .int p2] σ Q := mkI (by decide) (Nat.le_of_ble_eq_true rfl) (fun p e s m below meth c A E hr hlk hI ls hl => bX5_film E hr hlk hf hI hl)

def wX5_passInThought_l2s (ih : Int32 → Int32 → St → Prop) (a1 : Int32) (a2 : Int32) (σ : St) (Q : St → Prop) : Prop := ((a1 ≤ a2 → Q σ) ∧ (¬ a1 ≤ a2 → wX1_passDay 2 (-1) σ (fun σ2 => ∀ x3 : Int32, x3 = a2 + 1 → (ih a1 x3 σ2))))
def wX5_passInThought_l2 (n : Nat) : Int32 → Int32 → St → (St → Prop) → Prop := @Nat.rec (fun _ => Int32 → Int32 → St → (St → Prop) → Prop) (fun _ _ _ _ => False) (fun _ ih a1 a2 σ Q => wX5_passInThought_l2s (fun a1 a2 σ => ih a1 a2 σ Q) a1 a2 σ Q) n
set_option maxRecDepth 100000 in
set_option maxHeartbeats 4000000 in
theorem bX5_passInThought_2 {p : Program} {l : Launch} {e : Env} {s : State} {m : MethodId} {args : Array Value} {below : List Frame} {meth : Method} {c : Code} {D : va_G} {z : Nat → Nat} {A : Nat → Prop} {ad : Nat → Nat → Nat} {cy : Nat → ClassId} {Rr : va_W} {Q : St → Prop} (E : CallFix p m c cX5_passInThought 3 s args TB RX5) (hr : meth.sig.returnType = none) (hlk : meth.locks = false) : ∀ (n : Nat) {a1 : Int32} {a2 : Int32} {σ : St} {H : Heap} {locs : List Loc} {ls : Array Slot}, wX5_passInThought_l2 n a1 a2 σ Q → In (D, tysC cy, SF z) (LC ad cy Rr σ) A s H locs → lv_has ls 3 [(0, .ref (ad 0 99)), (1, .int a1), (2, .int a2)] → W p l e (rmD 5) s m args below meth c H locs 0 0 (PV below args s (D, tysC cy, SF z) A (LC ad cy Rr) Q) (F0 m 2 ls []) := by
  have hx := E.1
  have hb := E.2.1
  intro n
  induction n with
  | zero => intro a1 a2 σ H locs ls hf hI hl; exact False.elim hf
  | succ n ih =>
    intro a1 a2 σ H locs ls hf hI hl
    have hf : wX5_passInThought_l2s (fun a1 a2 σ => wX5_passInThought_l2 n a1 a2 σ Q) a1 a2 σ Q := hf
    unfold wX5_passInThought_l2s at hf
    refine lv_iload_n (pc := 2) hx hb dX5_passInThought_2 rfl (lv_at hl 2 rfl) ?_
    refine lv_iload_n (pc := 3) hx hb dX5_passInThought_3 rfl (lv_at hl 1 rfl) ?_
    refine lv_icmp_ge (tgt := 25) (pc := 4) hx hb dX5_passInThought_4 (by decide) (fun c1 => ?_) (fun c1 => ?_)
    · have hf := hf.1 c1
      exact rV (pc := 25) E hr hlk hI hf dX5_passInThought_25
    · have hf := hf.2 c1
      refine lv_aload_n (pc := 7) hx hb dX5_passInThought_7 rfl (lv_at hl 0 rfl) ?_
      refine g5_4 (pc := 8) E hI rfl lkX5_29 dX5_passInThought_8 ?_
      refine lv_aload_n (pc := 11) hx hb dX5_passInThought_11 rfl (lv_at hl 0 rfl) ?_
      refine g5_1 (pc := 12) E hI rfl lkX5_16 dX5_passInThought_12 ?_
      refine lv_iconst (v := (-1)) (pc := 15) hx hb dX5_passInThought_15 rfl ?_
      refine callVV (G := (D, tysC cy, SF z)) (L := LC ad cy Rr) (pc := 16) (As := [.ref (ad 2 99), .int (-1)]) (rest := []) stabSF E cs0 hl hI (tX1_passDay rfl hf) mwX5_127 (fitD (by decide)) (at1 rfl) rfl rfl rfl rfl (Nat.le_of_ble_eq_true rfl) dX5_passInThought_16 (fun σ2 H locs hf hI => ?_)
      obtain ⟨x3, ex3⟩ : ∃ y : Int32, y = a2 + 1 := ⟨_, rfl⟩
      have hf := hf x3 ex3
      refine lv_iinc (v := x3) (lv' := [(2, .int x3), (0, .ref (ad 0 99)), (1, .int a1)]) (pc := 19) hx hb dX5_passInThought_19 hl (k := 2) rfl (by rw [ex3]; rfl) (by decide) rfl (fun ls hl => ?_)
      refine lv_goto (tgt := 2) (pc := 22) hx hb dX5_passInThought_22 (by decide) ?_
      exact ih hf hI (lv_sub hl [1, 2, 0] rfl)
def wX5_passInThought (p1 : Int32) (σ : St) (Q : St → Prop) : Prop := ∃ n4 : Nat, wX5_passInThought_l2 n4 p1 0 σ Q
set_option maxRecDepth 100000 in
set_option maxHeartbeats 4000000 in
theorem bX5_passInThought {p : Program} {l : Launch} {e : Env} {s : State} {m : MethodId} {args : Array Value} {below : List Frame} {meth : Method} {c : Code} {H : Heap} {locs : List Loc} {ls : Array Slot} {D : va_G} {z : Nat → Nat} {A : Nat → Prop} {σ : St} {ad : Nat → Nat → Nat} {cy : Nat → ClassId} {Rr : va_W} {Q : St → Prop} {p1 : Int32} (E : CallFix p m c cX5_passInThought 3 s args TB RX5) (hr : meth.sig.returnType = none) (hlk : meth.locks = false) (hf : wX5_passInThought p1 σ Q) (hI : In (D, tysC cy, SF z) (LC ad cy Rr σ) A s H locs) (hl : lv_has ls 3 [(0, .ref (ad 0 99)), (1, .int p1)]) : W p l e (rmD 5) s m args below meth c H locs 0 0 (PV below args s (D, tysC cy, SF z) A (LC ad cy Rr) Q) (F0 m 0 ls []) := by
  have hx := E.1
  have hb := E.2.1
  unfold wX5_passInThought at hf
  refine lv_iconst (v := 0) (pc := 0) hx hb dX5_passInThought_0 rfl ?_
  refine lv_istore_n (lv' := [(2, .int 0), (0, .ref (ad 0 99)), (1, .int p1)]) (pc := 1) hx hb dX5_passInThought_1 rfl hl (by decide) rfl (fun ls hl => ?_)
  obtain ⟨n4, hf⟩ := hf
  exact bX5_passInThought_2 E hr hlk n4 hf hI (lv_sub hl [1, 2, 0] rfl)
theorem tX5_passInThought {l : Launch} {D : va_G} {z : Nat → Nat} {σ : St} {ad : Nat → Nat → Nat} {cy : Nat → ClassId} {Rr : va_W} {Q : St → Prop} {p1 : Int32} (hf : wX5_passInThought p1 σ Q) : CtV l yX5_passInThought cX5_passInThought 3 5 (D, tysC cy, SF z) (LC ad cy Rr) [.ref (ad 0 99), .int p1] σ Q := mkV (by decide) (Nat.le_of_ble_eq_true rfl) (fun p e s m below meth c A E hr hlk hI ls hl => bX5_passInThought E hr hlk hf hI hl)

def wX5_filledBehind_j39 (σ : St) (Q : Int32 → St → Prop) : Prop := wX4_filledCells 2 σ (fun r3 σ2 => Q r3 σ2)
set_option maxRecDepth 100000 in
set_option maxHeartbeats 4000000 in
theorem bX5_filledBehind_39 {p : Program} {l : Launch} {e : Env} {s : State} {m : MethodId} {args : Array Value} {below : List Frame} {meth : Method} {c : Code} {H : Heap} {locs : List Loc} {ls : Array Slot} {D : va_G} {z : Nat → Nat} {A : Nat → Prop} {σ : St} {ad : Nat → Nat → Nat} {cy : Nat → ClassId} {Rr : va_W} {Q : Int32 → St → Prop} (E : CallFix p m c cX5_filledBehind 4 s args TB RX5) (hr : meth.sig.returnType = some .int) (hlk : meth.locks = false) (hf : wX5_filledBehind_j39 σ Q) (hI : In (D, tysC cy, SF z) (LC ad cy Rr σ) A s H locs) (hl : lv_has ls 4 [(0, .ref (ad 0 99))]) : W p l e (rmD 5) s m args below meth c H locs 0 0 (PI below args s (D, tysC cy, SF z) A (LC ad cy Rr) Q) (F0 m 39 ls []) := by
  have hx := E.1
  have hb := E.2.1
  unfold wX5_filledBehind_j39 at hf
  refine lv_aload_n (pc := 39) hx hb dX5_filledBehind_39 rfl (lv_at hl 0 rfl) ?_
  refine g5_1 (pc := 40) E hI rfl lkX5_16 dX5_filledBehind_40 ?_
  refine callVI (G := (D, tysC cy, SF z)) (L := LC ad cy Rr) (pc := 43) (As := []) (rest := []) stabSF E cs0 hl hI (tX4_filledCells rfl hf) mwX5_131 (fitD (by decide)) (at4 rfl) rfl rfl rfl rfl (Nat.le_of_ble_eq_true rfl) dX5_filledBehind_43 (fun r3 σ2 H locs hf hI => ?_)
  exact rI (pc := 46) E hr hlk hI hf dX5_filledBehind_46
def wX5_filledBehind_l2s (ih : Int32 → Int32 → Int32 → St → Prop) (a1 : Int32) (a2 : Int32) (a3 : Int32) (σ : St) (Q : Int32 → St → Prop) : Prop := ((a1 ≤ a3 → (wX5_filledBehind_j39 σ Q)) ∧ (¬ a1 ≤ a3 → (((lg_cmp (gJ σ 2 1) (-1)) = 0 → (wX5_filledBehind_j39 σ Q)) ∧ (¬ (lg_cmp (gJ σ 2 1) (-1)) = 0 → wX1_passDay 2 a2 σ (fun σ5 => ∀ x6 : Int32, x6 = a3 + 1 → (ih a1 a2 x6 σ5))))))
def wX5_filledBehind_l2 (n : Nat) : Int32 → Int32 → Int32 → St → (Int32 → St → Prop) → Prop := @Nat.rec (fun _ => Int32 → Int32 → Int32 → St → (Int32 → St → Prop) → Prop) (fun _ _ _ _ _ => False) (fun _ ih a1 a2 a3 σ Q => wX5_filledBehind_l2s (fun a1 a2 a3 σ => ih a1 a2 a3 σ Q) a1 a2 a3 σ Q) n
set_option maxRecDepth 100000 in
set_option maxHeartbeats 4000000 in
theorem bX5_filledBehind_2 {p : Program} {l : Launch} {e : Env} {s : State} {m : MethodId} {args : Array Value} {below : List Frame} {meth : Method} {c : Code} {D : va_G} {z : Nat → Nat} {A : Nat → Prop} {ad : Nat → Nat → Nat} {cy : Nat → ClassId} {Rr : va_W} {Q : Int32 → St → Prop} (E : CallFix p m c cX5_filledBehind 4 s args TB RX5) (hr : meth.sig.returnType = some .int) (hlk : meth.locks = false) : ∀ (n : Nat) {a1 : Int32} {a2 : Int32} {a3 : Int32} {σ : St} {H : Heap} {locs : List Loc} {ls : Array Slot}, wX5_filledBehind_l2 n a1 a2 a3 σ Q → In (D, tysC cy, SF z) (LC ad cy Rr σ) A s H locs → lv_has ls 4 [(0, .ref (ad 0 99)), (1, .int a1), (2, .int a2), (3, .int a3)] → W p l e (rmD 5) s m args below meth c H locs 0 0 (PI below args s (D, tysC cy, SF z) A (LC ad cy Rr) Q) (F0 m 2 ls []) := by
  have hx := E.1
  have hb := E.2.1
  intro n
  induction n with
  | zero => intro a1 a2 a3 σ H locs ls hf hI hl; exact False.elim hf
  | succ n ih =>
    intro a1 a2 a3 σ H locs ls hf hI hl
    have hf : wX5_filledBehind_l2s (fun a1 a2 a3 σ => wX5_filledBehind_l2 n a1 a2 a3 σ Q) a1 a2 a3 σ Q := hf
    unfold wX5_filledBehind_l2s at hf
    refine lv_iload_n (pc := 2) hx hb dX5_filledBehind_2 rfl (lv_at hl 3 rfl) ?_
    refine lv_iload_n (pc := 3) hx hb dX5_filledBehind_3 rfl (lv_at hl 1 rfl) ?_
    refine lv_icmp_ge (tgt := 39) (pc := 4) hx hb dX5_filledBehind_4 (by decide) (fun c1 => ?_) (fun c1 => ?_)
    · have hf := hf.1 c1
      exact bX5_filledBehind_39 E hr hlk hf hI (lv_sub hl [0] rfl)
    · have hf := hf.2 c1
      refine lv_aload_n (pc := 7) hx hb dX5_filledBehind_7 rfl (lv_at hl 0 rfl) ?_
      refine g5_1 (pc := 8) E hI rfl lkX5_16 dX5_filledBehind_8 ?_
      refine g4_1 (pc := 11) E hI rfl lkX5_115 dX5_filledBehind_11 ?_
      refine lv_ldc2 (pc := 14) E.1 E.2.1 E.2.2.2.1 (E.2.2.2.2 _ kcX5_156) dX5_filledBehind_14 ?_
      refine W.lcmp (pc := 17) hx hb dX5_filledBehind_17 ?_
      refine lv_if_eq (tgt := 39) (pc := 18) hx hb dX5_filledBehind_18 (by decide) (fun c4 => ?_) (fun c4 => ?_)
      · have hf := hf.1 c4
        exact bX5_filledBehind_39 E hr hlk hf hI (lv_sub hl [0] rfl)
      · have hf := hf.2 c4
        refine lv_aload_n (pc := 21) hx hb dX5_filledBehind_21 rfl (lv_at hl 0 rfl) ?_
        refine g5_4 (pc := 22) E hI rfl lkX5_29 dX5_filledBehind_22 ?_
        refine lv_aload_n (pc := 25) hx hb dX5_filledBehind_25 rfl (lv_at hl 0 rfl) ?_
        refine g5_1 (pc := 26) E hI rfl lkX5_16 dX5_filledBehind_26 ?_
        refine lv_iload_n (pc := 29) hx hb dX5_filledBehind_29 rfl (lv_at hl 2 rfl) ?_
        refine callVV (G := (D, tysC cy, SF z)) (L := LC ad cy Rr) (pc := 30) (As := [.ref (ad 2 99), .int a2]) (rest := []) stabSF E cs0 hl hI (tX1_passDay rfl hf) mwX5_127 (fitD (by decide)) (at1 rfl) rfl rfl rfl rfl (Nat.le_of_ble_eq_true rfl) dX5_filledBehind_30 (fun σ5 H locs hf hI => ?_)
        obtain ⟨x6, ex6⟩ : ∃ y : Int32, y = a3 + 1 := ⟨_, rfl⟩
        have hf := hf x6 ex6
        refine lv_iinc (v := x6) (lv' := [(3, .int x6), (0, .ref (ad 0 99)), (1, .int a1), (2, .int a2)]) (pc := 33) hx hb dX5_filledBehind_33 hl (k := 3) rfl (by rw [ex6]; rfl) (by decide) rfl (fun ls hl => ?_)
        refine lv_goto (tgt := 2) (pc := 36) hx hb dX5_filledBehind_36 (by decide) ?_
        exact ih hf hI (lv_sub hl [1, 2, 3, 0] rfl)
def wX5_filledBehind (p1 : Int32) (p2 : Int32) (σ : St) (Q : Int32 → St → Prop) : Prop := ∃ n7 : Nat, wX5_filledBehind_l2 n7 p1 p2 0 σ Q
set_option maxRecDepth 100000 in
set_option maxHeartbeats 4000000 in
theorem bX5_filledBehind {p : Program} {l : Launch} {e : Env} {s : State} {m : MethodId} {args : Array Value} {below : List Frame} {meth : Method} {c : Code} {H : Heap} {locs : List Loc} {ls : Array Slot} {D : va_G} {z : Nat → Nat} {A : Nat → Prop} {σ : St} {ad : Nat → Nat → Nat} {cy : Nat → ClassId} {Rr : va_W} {Q : Int32 → St → Prop} {p1 : Int32} {p2 : Int32} (E : CallFix p m c cX5_filledBehind 4 s args TB RX5) (hr : meth.sig.returnType = some .int) (hlk : meth.locks = false) (hf : wX5_filledBehind p1 p2 σ Q) (hI : In (D, tysC cy, SF z) (LC ad cy Rr σ) A s H locs) (hl : lv_has ls 4 [(0, .ref (ad 0 99)), (1, .int p1), (2, .int p2)]) : W p l e (rmD 5) s m args below meth c H locs 0 0 (PI below args s (D, tysC cy, SF z) A (LC ad cy Rr) Q) (F0 m 0 ls []) := by
  have hx := E.1
  have hb := E.2.1
  unfold wX5_filledBehind at hf
  refine lv_iconst (v := 0) (pc := 0) hx hb dX5_filledBehind_0 rfl ?_
  refine lv_istore_n (lv' := [(3, .int 0), (0, .ref (ad 0 99)), (1, .int p1), (2, .int p2)]) (pc := 1) hx hb dX5_filledBehind_1 rfl hl (by decide) rfl (fun ls hl => ?_)
  obtain ⟨n7, hf⟩ := hf
  exact bX5_filledBehind_2 E hr hlk n7 hf hI (lv_sub hl [1, 2, 3, 0] rfl)
theorem tX5_filledBehind {l : Launch} {D : va_G} {z : Nat → Nat} {σ : St} {ad : Nat → Nat → Nat} {cy : Nat → ClassId} {Rr : va_W} {Q : Int32 → St → Prop} {p1 : Int32} {p2 : Int32} (hf : wX5_filledBehind p1 p2 σ Q) : CtI l yX5_filledBehind cX5_filledBehind 4 .int 5 (D, tysC cy, SF z) (LC ad cy Rr) [.ref (ad 0 99), .int p1, .int p2] σ Q := mkI (by decide) (Nat.le_of_ble_eq_true rfl) (fun p e s m below meth c A E hr hlk hI ls hl => bX5_filledBehind E hr hlk hf hI hl)

def wX5_firstOtherwise_l2s (ih : Nat → Int32 → St → Prop) (q1 : Nat) (a2 : Int32) (σ : St) (Q : Int32 → St → Prop) : Prop := (((gI σ q1 1) ≤ a2 → Q (-1) σ) ∧ (¬ (gI σ q1 1) ≤ a2 → wX1_passDay 2 (-1) σ (fun σ2 => vp_in a2 40 ∧ wX4_filledCells 2 σ2 (fun r5 σ4 => (((gA σ2 q1 0 a2.toNatClampNeg) = r5 → ∀ x7 : Int32, x7 = a2 + 1 → (ih q1 x7 σ4)) ∧ (¬ (gA σ2 q1 0 a2.toNatClampNeg) = r5 → Q a2 σ4))))))
def wX5_firstOtherwise_l2 (n : Nat) : Nat → Int32 → St → (Int32 → St → Prop) → Prop := @Nat.rec (fun _ => Nat → Int32 → St → (Int32 → St → Prop) → Prop) (fun _ _ _ _ => False) (fun _ ih q1 a2 σ Q => wX5_firstOtherwise_l2s (fun q1 a2 σ => ih q1 a2 σ Q) q1 a2 σ Q) n
set_option maxRecDepth 100000 in
set_option maxHeartbeats 4000000 in
theorem bX5_firstOtherwise_2 {p : Program} {l : Launch} {e : Env} {s : State} {m : MethodId} {args : Array Value} {below : List Frame} {meth : Method} {c : Code} {D : va_G} {z : Nat → Nat} {A : Nat → Prop} {ad : Nat → Nat → Nat} {cy : Nat → ClassId} {Rr : va_W} {Q : Int32 → St → Prop} (E : CallFix p m c cX5_firstOtherwise 3 s args TB RX5) (hr : meth.sig.returnType = some .int) (hlk : meth.locks = false) : ∀ (n : Nat) {q1 : Nat} {a2 : Int32} (hq1 : kd q1 = 2) {σ : St} {H : Heap} {locs : List Loc} {ls : Array Slot}, wX5_firstOtherwise_l2 n q1 a2 σ Q → In (D, tysC cy, SF z) (LC ad cy Rr σ) A s H locs → lv_has ls 3 [(0, .ref (ad 0 99)), (1, .ref (ad q1 99)), (2, .int a2)] → W p l e (rmD 5) s m args below meth c H locs 0 0 (PI below args s (D, tysC cy, SF z) A (LC ad cy Rr) Q) (F0 m 2 ls []) := by
  have hx := E.1
  have hb := E.2.1
  intro n
  induction n with
  | zero => intro q1 a2 hq1 σ H locs ls hf hI hl; exact False.elim hf
  | succ n ih =>
    intro q1 a2 hq1 σ H locs ls hf hI hl
    have hf : wX5_firstOtherwise_l2s (fun q1 a2 σ => wX5_firstOtherwise_l2 n q1 a2 σ Q) q1 a2 σ Q := hf
    unfold wX5_firstOtherwise_l2s at hf
    refine lv_iload_n (pc := 2) hx hb dX5_firstOtherwise_2 rfl (lv_at hl 2 rfl) ?_
    refine lv_aload_n (pc := 3) hx hb dX5_firstOtherwise_3 rfl (lv_at hl 1 rfl) ?_
    refine g2_1 (pc := 4) E hI hq1 lkX5_198 dX5_firstOtherwise_4 ?_
    refine lv_icmp_ge (tgt := 46) (pc := 7) hx hb dX5_firstOtherwise_7 (by decide) (fun c1 => ?_) (fun c1 => ?_)
    · have hf := hf.1 c1
      refine lv_iconst (v := (-1)) (pc := 46) hx hb dX5_firstOtherwise_46 rfl ?_
      exact rI (pc := 47) E hr hlk hI hf dX5_firstOtherwise_47
    · have hf := hf.2 c1
      refine lv_aload_n (pc := 10) hx hb dX5_firstOtherwise_10 rfl (lv_at hl 0 rfl) ?_
      refine g5_4 (pc := 11) E hI rfl lkX5_29 dX5_firstOtherwise_11 ?_
      refine lv_aload_n (pc := 14) hx hb dX5_firstOtherwise_14 rfl (lv_at hl 0 rfl) ?_
      refine g5_1 (pc := 15) E hI rfl lkX5_16 dX5_firstOtherwise_15 ?_
      refine lv_iconst (v := (-1)) (pc := 18) hx hb dX5_firstOtherwise_18 rfl ?_
      refine callVV (G := (D, tysC cy, SF z)) (L := LC ad cy Rr) (pc := 19) (As := [.ref (ad 2 99), .int (-1)]) (rest := []) stabSF E cs0 hl hI (tX1_passDay rfl hf) mwX5_127 (fitD (by decide)) (at1 rfl) rfl rfl rfl rfl (Nat.le_of_ble_eq_true rfl) dX5_firstOtherwise_19 (fun σ2 H locs hf hI => ?_)
      refine lv_aload_n (pc := 22) hx hb dX5_firstOtherwise_22 rfl (lv_at hl 1 rfl) ?_
      refine g2_0 (pc := 23) E hI hq1 lkX5_230 dX5_firstOtherwise_23 ?_
      refine lv_iload_n (pc := 26) hx hb dX5_firstOtherwise_26 rfl (lv_at hl 2 rfl) ?_
      have g3 := hf.1
      have hf := hf.2
      refine a2_0 (pc := 27) E hI hq1 g3 dX5_firstOtherwise_27 ?_
      refine lv_aload_n (pc := 28) hx hb dX5_firstOtherwise_28 rfl (lv_at hl 0 rfl) ?_
      refine g5_1 (pc := 29) E hI rfl lkX5_16 dX5_firstOtherwise_29 ?_
      refine callVI (G := (D, tysC cy, SF z)) (L := LC ad cy Rr) (pc := 32) (As := []) (rest := [.int (gA σ2 q1 0 a2.toNatClampNeg)]) stabSF E cs0 hl hI (tX4_filledCells rfl hf) mwX5_131 (fitD (by decide)) (at4 rfl) rfl rfl rfl rfl (Nat.le_of_ble_eq_true rfl) dX5_firstOtherwise_32 (fun r5 σ4 H locs hf hI => ?_)
      refine lv_icmp_eq (tgt := 40) (pc := 35) hx hb dX5_firstOtherwise_35 (by decide) (fun c6 => ?_) (fun c6 => ?_)
      · have hf := hf.1 c6
        obtain ⟨x7, ex7⟩ : ∃ y : Int32, y = a2 + 1 := ⟨_, rfl⟩
        have hf := hf x7 ex7
        refine lv_iinc (v := x7) (lv' := [(2, .int x7), (0, .ref (ad 0 99)), (1, .ref (ad q1 99))]) (pc := 40) hx hb dX5_firstOtherwise_40 hl (k := 2) rfl (by rw [ex7]; rfl) (by decide) rfl (fun ls hl => ?_)
        refine lv_goto (tgt := 2) (pc := 43) hx hb dX5_firstOtherwise_43 (by decide) ?_
        exact ih hq1 hf hI (lv_sub hl [1, 2, 0] rfl)
      · have hf := hf.2 c6
        refine lv_iload_n (pc := 38) hx hb dX5_firstOtherwise_38 rfl (lv_at hl 2 rfl) ?_
        exact rI (pc := 39) E hr hlk hI hf dX5_firstOtherwise_39
def wX5_firstOtherwise (oa : Nat) (σ : St) (Q : Int32 → St → Prop) : Prop := ∃ n8 : Nat, wX5_firstOtherwise_l2 n8 oa 0 σ Q
set_option maxRecDepth 100000 in
set_option maxHeartbeats 4000000 in
theorem bX5_firstOtherwise {p : Program} {l : Launch} {e : Env} {s : State} {m : MethodId} {args : Array Value} {below : List Frame} {meth : Method} {c : Code} {H : Heap} {locs : List Loc} {ls : Array Slot} {D : va_G} {z : Nat → Nat} {A : Nat → Prop} {σ : St} {ad : Nat → Nat → Nat} {cy : Nat → ClassId} {Rr : va_W} {Q : Int32 → St → Prop} {oa : Nat} (E : CallFix p m c cX5_firstOtherwise 3 s args TB RX5) (hr : meth.sig.returnType = some .int) (hlk : meth.locks = false) (hoa : kd oa = 2) (hf : wX5_firstOtherwise oa σ Q) (hI : In (D, tysC cy, SF z) (LC ad cy Rr σ) A s H locs) (hl : lv_has ls 3 [(0, .ref (ad 0 99)), (1, .ref (ad oa 99))]) : W p l e (rmD 5) s m args below meth c H locs 0 0 (PI below args s (D, tysC cy, SF z) A (LC ad cy Rr) Q) (F0 m 0 ls []) := by
  have hx := E.1
  have hb := E.2.1
  unfold wX5_firstOtherwise at hf
  refine lv_iconst (v := 0) (pc := 0) hx hb dX5_firstOtherwise_0 rfl ?_
  refine lv_istore_n (lv' := [(2, .int 0), (0, .ref (ad 0 99)), (1, .ref (ad oa 99))]) (pc := 1) hx hb dX5_firstOtherwise_1 rfl hl (by decide) rfl (fun ls hl => ?_)
  obtain ⟨n8, hf⟩ := hf
  exact bX5_firstOtherwise_2 E hr hlk n8 hoa hf hI (lv_sub hl [1, 2, 0] rfl)
theorem tX5_firstOtherwise {l : Launch} {D : va_G} {z : Nat → Nat} {σ : St} {ad : Nat → Nat → Nat} {cy : Nat → ClassId} {Rr : va_W} {Q : Int32 → St → Prop} {oa : Nat} (hoa : kd oa = 2) (hf : wX5_firstOtherwise oa σ Q) : CtI l yX5_firstOtherwise cX5_firstOtherwise 3 .int 5 (D, tysC cy, SF z) (LC ad cy Rr) [.ref (ad 0 99), .ref (ad oa 99)] σ Q := mkI (by decide) (Nat.le_of_ble_eq_true rfl) (fun p e s m below meth c A E hr hlk hI ls hl => bX5_firstOtherwise E hr hlk hoa hf hI hl)

def wX5_run (p1 : Int32) (p2 : Int32) (p3 : Int32) (σ : St) (Q : Int32 → St → Prop) : Prop := wX5_isIn p1 (gI σ 1 5) σ (fun r2 σ1 => ((r2 = 0 → Q (-2) σ1) ∧ (¬ r2 = 0 → ((p2 < 0 → Q (-2) σ1) ∧ (¬ p2 < 0 → ((40 < p2 → Q (-2) σ1) ∧ (¬ 40 < p2 → ((p3 < 0 → Q (-2) σ1) ∧ (¬ p3 < 0 → ((p3 ≤ 4 → wX5_think σ1 (fun σ8 => wX5_passInThought p2 σ8 (fun σ9 => ((p3 = 0 → wX4_filledCells 2 σ9 (fun r12 σ11 => Q r12 σ11)) ∧ (p3 = 1 → wX4_squaresInBox 2 σ9 (fun r15 σ14 => Q r15 σ14)) ∧ (p3 = 2 → vp_in p1 5 ∧ Q (gA σ9 2 8 p1.toNatClampNeg) σ9) ∧ (p3 = 3 → vp_in p1 5 ∧ Q (gA σ9 2 9 p1.toNatClampNeg) σ9) ∧ (¬ p3 = 0 → ¬ p3 = 1 → ¬ p3 = 2 → ¬ p3 = 3 → vp_in p1 5 ∧ Q (gA σ9 2 10 p1.toNatClampNeg) σ9))))) ∧ (¬ p3 ≤ 4 → Q (-2) σ1)))))))))))
set_option maxRecDepth 100000 in
set_option maxHeartbeats 4000000 in
theorem bX5_run {p : Program} {l : Launch} {e : Env} {s : State} {m : MethodId} {args : Array Value} {below : List Frame} {meth : Method} {c : Code} {H : Heap} {locs : List Loc} {ls : Array Slot} {D : va_G} {z : Nat → Nat} {A : Nat → Prop} {σ : St} {ad : Nat → Nat → Nat} {cy : Nat → ClassId} {Rr : va_W} {Q : Int32 → St → Prop} {p1 : Int32} {p2 : Int32} {p3 : Int32} (E : CallFix p m c cX5_run 4 s args TB RX5) (hr : meth.sig.returnType = some .int) (hlk : meth.locks = false) (hf : wX5_run p1 p2 p3 σ Q) (hI : In (D, tysC cy, SF z) (LC ad cy Rr σ) A s H locs) (hl : lv_has ls 4 [(0, .ref (ad 0 99)), (1, .int p1), (2, .int p2), (3, .int p3)]) : W p l e (rmD 6) s m args below meth c H locs 0 0 (PI below args s (D, tysC cy, SF z) A (LC ad cy Rr) Q) (F0 m 0 ls []) := by
  have hx := E.1
  have hb := E.2.1
  unfold wX5_run at hf
  refine lv_iload_n (pc := 0) hx hb dX5_run_0 rfl (lv_at hl 1 rfl) ?_
  refine lv_aload_n (pc := 1) hx hb dX5_run_1 rfl (lv_at hl 0 rfl) ?_
  refine g5_0 (pc := 2) E hI rfl lkX5_10 dX5_run_2 ?_
  refine g4_5 (pc := 5) E hI rfl lkX5_134 dX5_run_5 ?_
  refine callSI (G := (D, tysC cy, SF z)) (L := LC ad cy Rr) (pc := 8) (As := [.int p1, .int (gI σ 1 5)]) (rest := []) stabSF E cs0 hl hI (tX5_isIn hf) mwX5_94 (fitD (by decide)) rfl rfl (Nat.le_of_ble_eq_true rfl) dX5_run_8 (fun r2 σ1 H locs hf hI => ?_)
  refine lv_if_eq (tgt := 33) (pc := 11) hx hb dX5_run_11 (by decide) (fun c3 => ?_) (fun c3 => ?_)
  · have hf := hf.1 c3
    refine lv_bipush (v := (-2)) (pc := 33) hx hb dX5_run_33 rfl ?_
    exact rI (pc := 35) E hr hlk hI hf dX5_run_35
  · have hf := hf.2 c3
    refine lv_iload_n (pc := 14) hx hb dX5_run_14 rfl (lv_at hl 2 rfl) ?_
    refine lv_if_lt (tgt := 33) (pc := 15) hx hb dX5_run_15 (by decide) (fun c4 => ?_) (fun c4 => ?_)
    · have hf := hf.1 c4
      refine lv_bipush (v := (-2)) (pc := 33) hx hb dX5_run_33 rfl ?_
      exact rI (pc := 35) E hr hlk hI hf dX5_run_35
    · have hf := hf.2 c4
      refine lv_iload_n (pc := 18) hx hb dX5_run_18 rfl (lv_at hl 2 rfl) ?_
      refine lv_bipush (v := 40) (pc := 19) hx hb dX5_run_19 rfl ?_
      refine lv_icmp_gt (tgt := 33) (pc := 21) hx hb dX5_run_21 (by decide) (fun c5 => ?_) (fun c5 => ?_)
      · have hf := hf.1 c5
        refine lv_bipush (v := (-2)) (pc := 33) hx hb dX5_run_33 rfl ?_
        exact rI (pc := 35) E hr hlk hI hf dX5_run_35
      · have hf := hf.2 c5
        refine lv_iload_n (pc := 24) hx hb dX5_run_24 rfl (lv_at hl 3 rfl) ?_
        refine lv_if_lt (tgt := 33) (pc := 25) hx hb dX5_run_25 (by decide) (fun c6 => ?_) (fun c6 => ?_)
        · have hf := hf.1 c6
          refine lv_bipush (v := (-2)) (pc := 33) hx hb dX5_run_33 rfl ?_
          exact rI (pc := 35) E hr hlk hI hf dX5_run_35
        · have hf := hf.2 c6
          refine lv_iload_n (pc := 28) hx hb dX5_run_28 rfl (lv_at hl 3 rfl) ?_
          refine lv_iconst (v := 4) (pc := 29) hx hb dX5_run_29 rfl ?_
          refine lv_icmp_le (tgt := 36) (pc := 30) hx hb dX5_run_30 (by decide) (fun c7 => ?_) (fun c7 => ?_)
          · have hf := hf.1 c7
            refine lv_aload_n (pc := 36) hx hb dX5_run_36 rfl (lv_at hl 0 rfl) ?_
            refine callVV (G := (D, tysC cy, SF z)) (L := LC ad cy Rr) (pc := 37) (As := []) (rest := []) stabSF E cs0 hl hI (tX5_think hf) mwX5_137 (fitD (by decide)) (at5 rfl) rfl rfl rfl rfl (Nat.le_of_ble_eq_true rfl) dX5_run_37 (fun σ8 H locs hf hI => ?_)
            refine lv_aload_n (pc := 40) hx hb dX5_run_40 rfl (lv_at hl 0 rfl) ?_
            refine lv_iload_n (pc := 41) hx hb dX5_run_41 rfl (lv_at hl 2 rfl) ?_
            refine callVV (G := (D, tysC cy, SF z)) (L := LC ad cy Rr) (pc := 42) (As := [.int p2]) (rest := []) stabSF E cs0 hl hI (tX5_passInThought hf) mwX5_140 (fitD (by decide)) (at5 rfl) rfl rfl rfl rfl (Nat.le_of_ble_eq_true rfl) dX5_run_42 (fun σ9 H locs hf hI => ?_)
            refine lv_iload_n (pc := 45) hx hb dX5_run_45 rfl (lv_at hl 3 rfl) ?_
            by_cases c10 : p3 = 0
            · refine lv_tableIn (tgt := 76) (pc := 46) hx hb dX5_run_46 (by rw [c10]; decide) (by rw [c10]; decide) (by rw [c10]; rfl) (by decide) ?_
              have hf := hf.1 c10
              refine lv_aload_n (pc := 76) hx hb dX5_run_76 rfl (lv_at hl 0 rfl) ?_
              refine g5_1 (pc := 77) E hI rfl lkX5_16 dX5_run_77 ?_
              refine callVI (G := (D, tysC cy, SF z)) (L := LC ad cy Rr) (pc := 80) (As := []) (rest := []) stabSF E cs0 hl hI (tX4_filledCells rfl hf) mwX5_131 (fitD (by decide)) (at4 rfl) rfl rfl rfl rfl (Nat.le_of_ble_eq_true rfl) dX5_run_80 (fun r12 σ11 H locs hf hI => ?_)
              exact rI (pc := 83) E hr hlk hI hf dX5_run_83
            have hf := hf.2
            by_cases c13 : p3 = 1
            · refine lv_tableIn (tgt := 84) (pc := 46) hx hb dX5_run_46 (by rw [c13]; decide) (by rw [c13]; decide) (by rw [c13]; rfl) (by decide) ?_
              have hf := hf.1 c13
              refine lv_aload_n (pc := 84) hx hb dX5_run_84 rfl (lv_at hl 0 rfl) ?_
              refine g5_1 (pc := 85) E hI rfl lkX5_16 dX5_run_85 ?_
              refine callVI (G := (D, tysC cy, SF z)) (L := LC ad cy Rr) (pc := 88) (As := []) (rest := []) stabSF E cs0 hl hI (tX4_squaresInBox rfl hf) mwX5_144 (fitD (by decide)) (at4 rfl) rfl rfl rfl rfl (Nat.le_of_ble_eq_true rfl) dX5_run_88 (fun r15 σ14 H locs hf hI => ?_)
              exact rI (pc := 91) E hr hlk hI hf dX5_run_91
            have hf := hf.2
            by_cases c16 : p3 = 2
            · refine lv_tableIn (tgt := 92) (pc := 46) hx hb dX5_run_46 (by rw [c16]; decide) (by rw [c16]; decide) (by rw [c16]; rfl) (by decide) ?_
              have hf := hf.1 c16
              refine lv_aload_n (pc := 92) hx hb dX5_run_92 rfl (lv_at hl 0 rfl) ?_
              refine g5_1 (pc := 93) E hI rfl lkX5_16 dX5_run_93 ?_
              refine g4_8 (pc := 96) E hI rfl lkX5_147 dX5_run_96 ?_
              refine lv_iload_n (pc := 99) hx hb dX5_run_99 rfl (lv_at hl 1 rfl) ?_
              have g17 := hf.1
              have hf := hf.2
              refine a4_8 (pc := 100) E hI rfl g17 dX5_run_100 ?_
              exact rI (pc := 101) E hr hlk hI hf dX5_run_101
            have hf := hf.2
            by_cases c18 : p3 = 3
            · refine lv_tableIn (tgt := 102) (pc := 46) hx hb dX5_run_46 (by rw [c18]; decide) (by rw [c18]; decide) (by rw [c18]; rfl) (by decide) ?_
              have hf := hf.1 c18
              refine lv_aload_n (pc := 102) hx hb dX5_run_102 rfl (lv_at hl 0 rfl) ?_
              refine g5_1 (pc := 103) E hI rfl lkX5_16 dX5_run_103 ?_
              refine g4_9 (pc := 106) E hI rfl lkX5_150 dX5_run_106 ?_
              refine lv_iload_n (pc := 109) hx hb dX5_run_109 rfl (lv_at hl 1 rfl) ?_
              have g19 := hf.1
              have hf := hf.2
              refine a4_9 (pc := 110) E hI rfl g19 dX5_run_110 ?_
              exact rI (pc := 111) E hr hlk hI hf dX5_run_111
            have hf := hf.2
            have hf := hf c10 c13 c16 c18
            refine lv_tableOut (tgt := 112) (pc := 46) hx hb dX5_run_46 (by have := neI (k := 0) c10 rfl; have := neI (k := 1) c13 rfl; have := neI (k := 2) c16 rfl; have := neI (k := 3) c18 rfl; omega) (by decide) ?_
            refine lv_aload_n (pc := 112) hx hb dX5_run_112 rfl (lv_at hl 0 rfl) ?_
            refine g5_1 (pc := 113) E hI rfl lkX5_16 dX5_run_113 ?_
            refine g4_10 (pc := 116) E hI rfl lkX5_153 dX5_run_116 ?_
            refine lv_iload_n (pc := 119) hx hb dX5_run_119 rfl (lv_at hl 1 rfl) ?_
            have g20 := hf.1
            have hf := hf.2
            refine a4_10 (pc := 120) E hI rfl g20 dX5_run_120 ?_
            exact rI (pc := 121) E hr hlk hI hf dX5_run_121
          · have hf := hf.2 c7
            refine lv_bipush (v := (-2)) (pc := 33) hx hb dX5_run_33 rfl ?_
            exact rI (pc := 35) E hr hlk hI hf dX5_run_35
theorem tX5_run {l : Launch} {D : va_G} {z : Nat → Nat} {σ : St} {ad : Nat → Nat → Nat} {cy : Nat → ClassId} {Rr : va_W} {Q : Int32 → St → Prop} {p1 : Int32} {p2 : Int32} {p3 : Int32} (hf : wX5_run p1 p2 p3 σ Q) : CtI l yX5_run cX5_run 4 .int 6 (D, tysC cy, SF z) (LC ad cy Rr) [.ref (ad 0 99), .int p1, .int p2, .int p3] σ Q := mkI (by decide) (Nat.le_of_ble_eq_true rfl) (fun p e s m below meth c A E hr hlk hI ls hl => bX5_run E hr hlk hf hI hl)

def wX5_later (p1 : Int32) (σ : St) (Q : Int64 → St → Prop) : Prop := ((p1 < 0 → Q (-4611686018427387904) σ) ∧ (¬ p1 < 0 → ((p1 ≤ 40 → wX5_think σ (fun σ3 => wX5_passInThought p1 σ3 (fun σ4 => Q (gJ σ4 2 1) σ4))) ∧ (¬ p1 ≤ 40 → Q (-4611686018427387904) σ))))
set_option maxRecDepth 100000 in
set_option maxHeartbeats 4000000 in
theorem bX5_later {p : Program} {l : Launch} {e : Env} {s : State} {m : MethodId} {args : Array Value} {below : List Frame} {meth : Method} {c : Code} {H : Heap} {locs : List Loc} {ls : Array Slot} {D : va_G} {z : Nat → Nat} {A : Nat → Prop} {σ : St} {ad : Nat → Nat → Nat} {cy : Nat → ClassId} {Rr : va_W} {Q : Int64 → St → Prop} {p1 : Int32} (E : CallFix p m c cX5_later 2 s args TB RX5) (hr : meth.sig.returnType = some .long) (hlk : meth.locks = false) (hf : wX5_later p1 σ Q) (hI : In (D, tysC cy, SF z) (LC ad cy Rr σ) A s H locs) (hl : lv_has ls 2 [(0, .ref (ad 0 99)), (1, .int p1)]) : W p l e (rmD 6) s m args below meth c H locs 0 0 (PJ below args s (D, tysC cy, SF z) A (LC ad cy Rr) Q) (F0 m 0 ls []) := by
  have hx := E.1
  have hb := E.2.1
  unfold wX5_later at hf
  refine lv_iload_n (pc := 0) hx hb dX5_later_0 rfl (lv_at hl 1 rfl) ?_
  refine lv_if_lt (tgt := 10) (pc := 1) hx hb dX5_later_1 (by decide) (fun c1 => ?_) (fun c1 => ?_)
  · have hf := hf.1 c1
    refine lv_ldc2 (pc := 10) E.1 E.2.1 E.2.2.2.1 (E.2.2.2.2 _ kcX5_119) dX5_later_10 ?_
    exact rJ (pc := 13) E hr hlk hI hf dX5_later_13
  · have hf := hf.2 c1
    refine lv_iload_n (pc := 4) hx hb dX5_later_4 rfl (lv_at hl 1 rfl) ?_
    refine lv_bipush (v := 40) (pc := 5) hx hb dX5_later_5 rfl ?_
    refine lv_icmp_le (tgt := 14) (pc := 7) hx hb dX5_later_7 (by decide) (fun c2 => ?_) (fun c2 => ?_)
    · have hf := hf.1 c2
      refine lv_aload_n (pc := 14) hx hb dX5_later_14 rfl (lv_at hl 0 rfl) ?_
      refine callVV (G := (D, tysC cy, SF z)) (L := LC ad cy Rr) (pc := 15) (As := []) (rest := []) stabSF E cs0 hl hI (tX5_think hf) mwX5_137 (fitD (by decide)) (at5 rfl) rfl rfl rfl rfl (Nat.le_of_ble_eq_true rfl) dX5_later_15 (fun σ3 H locs hf hI => ?_)
      refine lv_aload_n (pc := 18) hx hb dX5_later_18 rfl (lv_at hl 0 rfl) ?_
      refine lv_iload_n (pc := 19) hx hb dX5_later_19 rfl (lv_at hl 1 rfl) ?_
      refine callVV (G := (D, tysC cy, SF z)) (L := LC ad cy Rr) (pc := 20) (As := [.int p1]) (rest := []) stabSF E cs0 hl hI (tX5_passInThought hf) mwX5_140 (fitD (by decide)) (at5 rfl) rfl rfl rfl rfl (Nat.le_of_ble_eq_true rfl) dX5_later_20 (fun σ4 H locs hf hI => ?_)
      refine lv_aload_n (pc := 23) hx hb dX5_later_23 rfl (lv_at hl 0 rfl) ?_
      refine g5_1 (pc := 24) E hI rfl lkX5_16 dX5_later_24 ?_
      refine g4_1 (pc := 27) E hI rfl lkX5_115 dX5_later_27 ?_
      exact rJ (pc := 30) E hr hlk hI hf dX5_later_30
    · have hf := hf.2 c2
      refine lv_ldc2 (pc := 10) E.1 E.2.1 E.2.2.2.1 (E.2.2.2.2 _ kcX5_119) dX5_later_10 ?_
      exact rJ (pc := 13) E hr hlk hI hf dX5_later_13
theorem tX5_later {l : Launch} {D : va_G} {z : Nat → Nat} {σ : St} {ad : Nat → Nat → Nat} {cy : Nat → ClassId} {Rr : va_W} {Q : Int64 → St → Prop} {p1 : Int32} (hf : wX5_later p1 σ Q) : CtJ l yX5_later cX5_later 2 6 (D, tysC cy, SF z) (LC ad cy Rr) [.ref (ad 0 99), .int p1] σ Q := mkJ (by decide) (Nat.le_of_ble_eq_true rfl) (fun p e s m below meth c A E hr hlk hI ls hl => bX5_later E hr hlk hf hI hl)

def wX5_atWhat_j89 (a1 : Int32) (a2 : Int32) (a3 : Int32) (a4 : Int32) (a5 : Int32) (a6 : Int32) (σ : St) (K : Int32 → Int32 → Int32 → Int32 → Int32 → Int32 → St → Prop) (Q : Int32 → St → Prop) : Prop := ∀ x16 : Int32, x16 = a6 + 1 → (K a1 a2 a3 a4 a5 x16 σ)
set_option maxRecDepth 100000 in
set_option maxHeartbeats 4000000 in
theorem bX5_atWhat_89 {p : Program} {l : Launch} {e : Env} {s : State} {m : MethodId} {args : Array Value} {below : List Frame} {meth : Method} {c : Code} {H : Heap} {locs : List Loc} {ls : Array Slot} {D : va_G} {z : Nat → Nat} {A : Nat → Prop} {σ : St} {ad : Nat → Nat → Nat} {cy : Nat → ClassId} {Rr : va_W} {Q : Int32 → St → Prop} {a1 : Int32} {a2 : Int32} {a3 : Int32} {a4 : Int32} {a5 : Int32} {a6 : Int32} {K : Int32 → Int32 → Int32 → Int32 → Int32 → Int32 → St → Prop} (E : CallFix p m c cX5_atWhat 8 s args TB RX5) (hr : meth.sig.returnType = some .int) (hlk : meth.locks = false) (hK : ∀ (a1 : Int32) (a2 : Int32) (a3 : Int32) (a4 : Int32) (a5 : Int32) (a6 : Int32) (σ : St) (H : Heap) (locs : List Loc) (ls : Array Slot), K a1 a2 a3 a4 a5 a6 σ → In (D, tysC cy, SF z) (LC ad cy Rr σ) A s H locs → lv_has ls 8 [(0, .ref (ad 0 99)), (1, .int a1), (2, .int a2), (3, .int a3), (4, .int a4), (5, .int a5), (6, .int a6)] → W p l e (rmD 6) s m args below meth c H locs 0 0 (PI below args s (D, tysC cy, SF z) A (LC ad cy Rr) Q) (F0 m 45 ls [])) (hf : wX5_atWhat_j89 a1 a2 a3 a4 a5 a6 σ K Q) (hI : In (D, tysC cy, SF z) (LC ad cy Rr σ) A s H locs) (hl : lv_has ls 8 [(0, .ref (ad 0 99)), (1, .int a1), (2, .int a2), (3, .int a3), (4, .int a4), (5, .int a5), (6, .int a6)]) : W p l e (rmD 6) s m args below meth c H locs 0 0 (PI below args s (D, tysC cy, SF z) A (LC ad cy Rr) Q) (F0 m 89 ls []) := by
  have hx := E.1
  have hb := E.2.1
  unfold wX5_atWhat_j89 at hf
  obtain ⟨x16, ex16⟩ : ∃ y : Int32, y = a6 + 1 := ⟨_, rfl⟩
  have hf := hf x16 ex16
  refine lv_iinc (v := x16) (lv' := [(6, .int x16), (0, .ref (ad 0 99)), (1, .int a1), (2, .int a2), (3, .int a3), (4, .int a4), (5, .int a5)]) (pc := 89) hx hb dX5_atWhat_89 hl (k := 6) rfl (by rw [ex16]; rfl) (by decide) rfl (fun ls hl => ?_)
  refine lv_goto (tgt := 45) (pc := 92) hx hb dX5_atWhat_92 (by decide) ?_
  exact hK _ _ _ _ _ _ _ _ _ _ hf hI (lv_sub hl [1, 2, 3, 4, 5, 6, 0] rfl)
def wX5_atWhat_l45s (ih : Int32 → Int32 → Int32 → Int32 → Int32 → Int32 → St → Prop) (a1 : Int32) (a2 : Int32) (a3 : Int32) (a4 : Int32) (a5 : Int32) (a6 : Int32) (σ : St) (Q : Int32 → St → Prop) : Prop := ((4 ≤ a6 → ((¬ a3 = 0 → Q a5 σ) ∧ (a3 = 0 → Q a4 σ))) ∧ (¬ 4 ≤ a6 → wX5_think σ (fun σ10 => vp_in a1 5 ∧ ∀ σ12 : St, σ12 = sA σ10 2 8 a1.toNatClampNeg a6 → wX5_filledBehind a2 (-1) σ12 (fun r14 σ13 => ((r14 ≤ a5 → (wX5_atWhat_j89 a1 a2 a3 a4 a5 a6 σ13 ih Q)) ∧ (¬ r14 ≤ a5 → (wX5_atWhat_j89 a1 a2 a3 a6 r14 a6 σ13 ih Q)))))))
def wX5_atWhat_l45 (n : Nat) : Int32 → Int32 → Int32 → Int32 → Int32 → Int32 → St → (Int32 → St → Prop) → Prop := @Nat.rec (fun _ => Int32 → Int32 → Int32 → Int32 → Int32 → Int32 → St → (Int32 → St → Prop) → Prop) (fun _ _ _ _ _ _ _ _ => False) (fun _ ih a1 a2 a3 a4 a5 a6 σ Q => wX5_atWhat_l45s (fun a1 a2 a3 a4 a5 a6 σ => ih a1 a2 a3 a4 a5 a6 σ Q) a1 a2 a3 a4 a5 a6 σ Q) n
set_option maxRecDepth 100000 in
set_option maxHeartbeats 4000000 in
theorem bX5_atWhat_45 {p : Program} {l : Launch} {e : Env} {s : State} {m : MethodId} {args : Array Value} {below : List Frame} {meth : Method} {c : Code} {D : va_G} {z : Nat → Nat} {A : Nat → Prop} {ad : Nat → Nat → Nat} {cy : Nat → ClassId} {Rr : va_W} {Q : Int32 → St → Prop} (E : CallFix p m c cX5_atWhat 8 s args TB RX5) (hr : meth.sig.returnType = some .int) (hlk : meth.locks = false) : ∀ (n : Nat) {a1 : Int32} {a2 : Int32} {a3 : Int32} {a4 : Int32} {a5 : Int32} {a6 : Int32} {σ : St} {H : Heap} {locs : List Loc} {ls : Array Slot}, wX5_atWhat_l45 n a1 a2 a3 a4 a5 a6 σ Q → In (D, tysC cy, SF z) (LC ad cy Rr σ) A s H locs → lv_has ls 8 [(0, .ref (ad 0 99)), (1, .int a1), (2, .int a2), (3, .int a3), (4, .int a4), (5, .int a5), (6, .int a6)] → W p l e (rmD 6) s m args below meth c H locs 0 0 (PI below args s (D, tysC cy, SF z) A (LC ad cy Rr) Q) (F0 m 45 ls []) := by
  have hx := E.1
  have hb := E.2.1
  intro n
  induction n with
  | zero => intro a1 a2 a3 a4 a5 a6 σ H locs ls hf hI hl; exact False.elim hf
  | succ n ih =>
    intro a1 a2 a3 a4 a5 a6 σ H locs ls hf hI hl
    have hf : wX5_atWhat_l45s (fun a1 a2 a3 a4 a5 a6 σ => wX5_atWhat_l45 n a1 a2 a3 a4 a5 a6 σ Q) a1 a2 a3 a4 a5 a6 σ Q := hf
    unfold wX5_atWhat_l45s at hf
    refine lv_iload (pc := 45) hx hb dX5_atWhat_45 (lv_at hl 6 rfl) ?_
    refine lv_iconst (v := 4) (pc := 47) hx hb dX5_atWhat_47 rfl ?_
    refine lv_icmp_ge (tgt := 95) (pc := 48) hx hb dX5_atWhat_48 (by decide) (fun c8 => ?_) (fun c8 => ?_)
    · have hf := hf.1 c8
      refine lv_iload_n (pc := 95) hx hb dX5_atWhat_95 rfl (lv_at hl 3 rfl) ?_
      refine lv_if_ne (tgt := 104) (pc := 96) hx hb dX5_atWhat_96 (by decide) (fun c9 => ?_) (fun c9 => ?_)
      · have hf := hf.1 c9
        refine lv_iload (pc := 104) hx hb dX5_atWhat_104 (lv_at hl 5 rfl) ?_
        exact rI (pc := 106) E hr hlk hI hf dX5_atWhat_106
      · have hf := hf.2 c9
        refine lv_iload (pc := 99) hx hb dX5_atWhat_99 (lv_at hl 4 rfl) ?_
        refine lv_goto (tgt := 106) (pc := 101) hx hb dX5_atWhat_101 (by decide) ?_
        exact rI (pc := 106) E hr hlk hI hf dX5_atWhat_106
    · have hf := hf.2 c8
      refine lv_aload_n (pc := 51) hx hb dX5_atWhat_51 rfl (lv_at hl 0 rfl) ?_
      refine callVV (G := (D, tysC cy, SF z)) (L := LC ad cy Rr) (pc := 52) (As := []) (rest := []) stabSF E cs0 hl hI (tX5_think hf) mwX5_137 (fitD (by decide)) (at5 rfl) rfl rfl rfl rfl (Nat.le_of_ble_eq_true rfl) dX5_atWhat_52 (fun σ10 H locs hf hI => ?_)
      refine lv_aload_n (pc := 55) hx hb dX5_atWhat_55 rfl (lv_at hl 0 rfl) ?_
      refine g5_1 (pc := 56) E hI rfl lkX5_16 dX5_atWhat_56 ?_
      refine g4_8 (pc := 59) E hI rfl lkX5_147 dX5_atWhat_59 ?_
      refine lv_iload_n (pc := 62) hx hb dX5_atWhat_62 rfl (lv_at hl 1 rfl) ?_
      refine lv_iload (pc := 63) hx hb dX5_atWhat_63 (lv_at hl 6 rfl) ?_
      have g11 := hf.1
      have hf := hf.2
      refine s4_8 (pc := 65) E hI rfl g11 dX5_atWhat_65 (fun H locs σ12 eσ12 hI => ?_)
      have hf := hf σ12 eσ12
      refine lv_aload_n (pc := 66) hx hb dX5_atWhat_66 rfl (lv_at hl 0 rfl) ?_
      refine lv_iload_n (pc := 67) hx hb dX5_atWhat_67 rfl (lv_at hl 2 rfl) ?_
      refine lv_iconst (v := (-1)) (pc := 68) hx hb dX5_atWhat_68 rfl ?_
      refine callVI (G := (D, tysC cy, SF z)) (L := LC ad cy Rr) (pc := 69) (As := [.int a2, .int (-1)]) (rest := []) stabSF E cs0 hl hI (tX5_filledBehind hf) mwX5_158 (fitD (by decide)) (at5 rfl) rfl rfl rfl rfl (Nat.le_of_ble_eq_true rfl) dX5_atWhat_69 (fun r14 σ13 H locs hf hI => ?_)
      refine lv_istore (lv' := [(7, .int r14), (0, .ref (ad 0 99)), (1, .int a1), (2, .int a2), (3, .int a3), (4, .int a4), (5, .int a5), (6, .int a6)]) (pc := 72) hx hb dX5_atWhat_72 hl (by decide) rfl (fun ls hl => ?_)
      refine lv_iload (pc := 74) hx hb dX5_atWhat_74 (lv_at hl 0 rfl) ?_
      refine lv_iload (pc := 76) hx hb dX5_atWhat_76 (lv_at hl 6 rfl) ?_
      refine lv_icmp_le (tgt := 89) (pc := 78) hx hb dX5_atWhat_78 (by decide) (fun c15 => ?_) (fun c15 => ?_)
      · have hf := hf.1 c15
        exact bX5_atWhat_89 E hr hlk (fun _ _ _ _ _ _ _ _ _ _ hf hI hl => ih hf hI hl) hf hI (lv_sub hl [1, 2, 3, 4, 5, 6, 7] rfl)
      · have hf := hf.2 c15
        refine lv_iload (pc := 81) hx hb dX5_atWhat_81 (lv_at hl 0 rfl) ?_
        refine lv_istore (lv' := [(5, .int r14), (7, .int r14), (0, .ref (ad 0 99)), (1, .int a1), (2, .int a2), (3, .int a3), (4, .int a4), (6, .int a6)]) (pc := 83) hx hb dX5_atWhat_83 hl (by decide) rfl (fun ls hl => ?_)
        refine lv_iload (pc := 85) hx hb dX5_atWhat_85 (lv_at hl 7 rfl) ?_
        refine lv_istore (lv' := [(4, .int a6), (5, .int r14), (7, .int r14), (0, .ref (ad 0 99)), (1, .int a1), (2, .int a2), (3, .int a3), (6, .int a6)]) (pc := 87) hx hb dX5_atWhat_87 hl (by decide) rfl (fun ls hl => ?_)
        exact bX5_atWhat_89 E hr hlk (fun _ _ _ _ _ _ _ _ _ _ hf hI hl => ih hf hI hl) hf hI (lv_sub hl [3, 4, 5, 6, 0, 1, 7] rfl)
def wX5_atWhat (p1 : Int32) (p2 : Int32) (p3 : Int32) (σ : St) (Q : Int32 → St → Prop) : Prop := wX5_isIn p1 (gI σ 1 5) σ (fun r2 σ1 => ((r2 = 0 → Q (-2) σ1) ∧ (¬ r2 = 0 → ((p2 < 0 → Q (-2) σ1) ∧ (¬ p2 < 0 → ((40 < p2 → Q (-2) σ1) ∧ (¬ 40 < p2 → ((p3 < 0 → Q (-2) σ1) ∧ (¬ p3 < 0 → ((p3 ≤ 1 → ∃ n17 : Nat, wX5_atWhat_l45 n17 p1 p2 p3 (-1) (-1) 0 σ1 Q) ∧ (¬ p3 ≤ 1 → Q (-2) σ1)))))))))))
set_option maxRecDepth 100000 in
set_option maxHeartbeats 4000000 in
theorem bX5_atWhat {p : Program} {l : Launch} {e : Env} {s : State} {m : MethodId} {args : Array Value} {below : List Frame} {meth : Method} {c : Code} {H : Heap} {locs : List Loc} {ls : Array Slot} {D : va_G} {z : Nat → Nat} {A : Nat → Prop} {σ : St} {ad : Nat → Nat → Nat} {cy : Nat → ClassId} {Rr : va_W} {Q : Int32 → St → Prop} {p1 : Int32} {p2 : Int32} {p3 : Int32} (E : CallFix p m c cX5_atWhat 8 s args TB RX5) (hr : meth.sig.returnType = some .int) (hlk : meth.locks = false) (hf : wX5_atWhat p1 p2 p3 σ Q) (hI : In (D, tysC cy, SF z) (LC ad cy Rr σ) A s H locs) (hl : lv_has ls 8 [(0, .ref (ad 0 99)), (1, .int p1), (2, .int p2), (3, .int p3)]) : W p l e (rmD 6) s m args below meth c H locs 0 0 (PI below args s (D, tysC cy, SF z) A (LC ad cy Rr) Q) (F0 m 0 ls []) := by
  have hx := E.1
  have hb := E.2.1
  unfold wX5_atWhat at hf
  refine lv_iload_n (pc := 0) hx hb dX5_atWhat_0 rfl (lv_at hl 1 rfl) ?_
  refine lv_aload_n (pc := 1) hx hb dX5_atWhat_1 rfl (lv_at hl 0 rfl) ?_
  refine g5_0 (pc := 2) E hI rfl lkX5_10 dX5_atWhat_2 ?_
  refine g4_5 (pc := 5) E hI rfl lkX5_134 dX5_atWhat_5 ?_
  refine callSI (G := (D, tysC cy, SF z)) (L := LC ad cy Rr) (pc := 8) (As := [.int p1, .int (gI σ 1 5)]) (rest := []) stabSF E cs0 hl hI (tX5_isIn hf) mwX5_94 (fitD (by decide)) rfl rfl (Nat.le_of_ble_eq_true rfl) dX5_atWhat_8 (fun r2 σ1 H locs hf hI => ?_)
  refine lv_if_eq (tgt := 33) (pc := 11) hx hb dX5_atWhat_11 (by decide) (fun c3 => ?_) (fun c3 => ?_)
  · have hf := hf.1 c3
    refine lv_bipush (v := (-2)) (pc := 33) hx hb dX5_atWhat_33 rfl ?_
    exact rI (pc := 35) E hr hlk hI hf dX5_atWhat_35
  · have hf := hf.2 c3
    refine lv_iload_n (pc := 14) hx hb dX5_atWhat_14 rfl (lv_at hl 2 rfl) ?_
    refine lv_if_lt (tgt := 33) (pc := 15) hx hb dX5_atWhat_15 (by decide) (fun c4 => ?_) (fun c4 => ?_)
    · have hf := hf.1 c4
      refine lv_bipush (v := (-2)) (pc := 33) hx hb dX5_atWhat_33 rfl ?_
      exact rI (pc := 35) E hr hlk hI hf dX5_atWhat_35
    · have hf := hf.2 c4
      refine lv_iload_n (pc := 18) hx hb dX5_atWhat_18 rfl (lv_at hl 2 rfl) ?_
      refine lv_bipush (v := 40) (pc := 19) hx hb dX5_atWhat_19 rfl ?_
      refine lv_icmp_gt (tgt := 33) (pc := 21) hx hb dX5_atWhat_21 (by decide) (fun c5 => ?_) (fun c5 => ?_)
      · have hf := hf.1 c5
        refine lv_bipush (v := (-2)) (pc := 33) hx hb dX5_atWhat_33 rfl ?_
        exact rI (pc := 35) E hr hlk hI hf dX5_atWhat_35
      · have hf := hf.2 c5
        refine lv_iload_n (pc := 24) hx hb dX5_atWhat_24 rfl (lv_at hl 3 rfl) ?_
        refine lv_if_lt (tgt := 33) (pc := 25) hx hb dX5_atWhat_25 (by decide) (fun c6 => ?_) (fun c6 => ?_)
        · have hf := hf.1 c6
          refine lv_bipush (v := (-2)) (pc := 33) hx hb dX5_atWhat_33 rfl ?_
          exact rI (pc := 35) E hr hlk hI hf dX5_atWhat_35
        · have hf := hf.2 c6
          refine lv_iload_n (pc := 28) hx hb dX5_atWhat_28 rfl (lv_at hl 3 rfl) ?_
          refine lv_iconst (v := 1) (pc := 29) hx hb dX5_atWhat_29 rfl ?_
          refine lv_icmp_le (tgt := 36) (pc := 30) hx hb dX5_atWhat_30 (by decide) (fun c7 => ?_) (fun c7 => ?_)
          · have hf := hf.1 c7
            refine lv_iconst (v := (-1)) (pc := 36) hx hb dX5_atWhat_36 rfl ?_
            refine lv_istore (lv' := [(4, .int (-1)), (0, .ref (ad 0 99)), (1, .int p1), (2, .int p2), (3, .int p3)]) (pc := 37) hx hb dX5_atWhat_37 hl (by decide) rfl (fun ls hl => ?_)
            refine lv_iconst (v := (-1)) (pc := 39) hx hb dX5_atWhat_39 rfl ?_
            refine lv_istore (lv' := [(5, .int (-1)), (4, .int (-1)), (0, .ref (ad 0 99)), (1, .int p1), (2, .int p2), (3, .int p3)]) (pc := 40) hx hb dX5_atWhat_40 hl (by decide) rfl (fun ls hl => ?_)
            refine lv_iconst (v := 0) (pc := 42) hx hb dX5_atWhat_42 rfl ?_
            refine lv_istore (lv' := [(6, .int 0), (5, .int (-1)), (4, .int (-1)), (0, .ref (ad 0 99)), (1, .int p1), (2, .int p2), (3, .int p3)]) (pc := 43) hx hb dX5_atWhat_43 hl (by decide) rfl (fun ls hl => ?_)
            obtain ⟨n17, hf⟩ := hf
            exact bX5_atWhat_45 E hr hlk n17 hf hI (lv_sub hl [3, 4, 5, 6, 2, 1, 0] rfl)
          · have hf := hf.2 c7
            refine lv_bipush (v := (-2)) (pc := 33) hx hb dX5_atWhat_33 rfl ?_
            exact rI (pc := 35) E hr hlk hI hf dX5_atWhat_35
theorem tX5_atWhat {l : Launch} {D : va_G} {z : Nat → Nat} {σ : St} {ad : Nat → Nat → Nat} {cy : Nat → ClassId} {Rr : va_W} {Q : Int32 → St → Prop} {p1 : Int32} {p2 : Int32} {p3 : Int32} (hf : wX5_atWhat p1 p2 p3 σ Q) : CtI l yX5_atWhat cX5_atWhat 8 .int 6 (D, tysC cy, SF z) (LC ad cy Rr) [.ref (ad 0 99), .int p1, .int p2, .int p3] σ Q := mkI (by decide) (Nat.le_of_ble_eq_true rfl) (fun p e s m below meth c A E hr hlk hI ls hl => bX5_atWhat E hr hlk hf hI hl)

def wX5_want_j167 (a2 : Int32) (a3 : Int32) (a4 : Int32) (σ : St) (Q : Int32 → St → Prop) : Prop := ((¬ a2 = 0 → Q a3 σ) ∧ (a2 = 0 → Q a4 σ))
set_option maxRecDepth 100000 in
set_option maxHeartbeats 4000000 in
theorem bX5_want_167 {p : Program} {l : Launch} {e : Env} {s : State} {m : MethodId} {args : Array Value} {below : List Frame} {meth : Method} {c : Code} {H : Heap} {locs : List Loc} {ls : Array Slot} {D : va_G} {z : Nat → Nat} {A : Nat → Prop} {σ : St} {ad : Nat → Nat → Nat} {cy : Nat → ClassId} {Rr : va_W} {Q : Int32 → St → Prop} {a2 : Int32} {a3 : Int32} {a4 : Int32} (E : CallFix p m c cX5_want 10 s args TB RX5) (hr : meth.sig.returnType = some .int) (hlk : meth.locks = false) (hf : wX5_want_j167 a2 a3 a4 σ Q) (hI : In (D, tysC cy, SF z) (LC ad cy Rr σ) A s H locs) (hl : lv_has ls 10 [(2, .int a2), (3, .int a3), (4, .int a4)]) : W p l e (rmD 6) s m args below meth c H locs 0 0 (PI below args s (D, tysC cy, SF z) A (LC ad cy Rr) Q) (F0 m 167 ls []) := by
  have hx := E.1
  have hb := E.2.1
  unfold wX5_want_j167 at hf
  refine lv_iload_n (pc := 167) hx hb dX5_want_167 rfl (lv_at hl 0 rfl) ?_
  refine lv_if_ne (tgt := 176) (pc := 168) hx hb dX5_want_168 (by decide) (fun c12 => ?_) (fun c12 => ?_)
  · have hf := hf.1 c12
    refine lv_iload_n (pc := 176) hx hb dX5_want_176 rfl (lv_at hl 1 rfl) ?_
    exact rI (pc := 177) E hr hlk hI hf dX5_want_177
  · have hf := hf.2 c12
    refine lv_iload (pc := 171) hx hb dX5_want_171 (lv_at hl 2 rfl) ?_
    refine lv_goto (tgt := 177) (pc := 173) hx hb dX5_want_173 (by decide) ?_
    exact rI (pc := 177) E hr hlk hI hf dX5_want_177
def wX5_want_j161 (a1 : Int32) (a2 : Int32) (a3 : Int32) (a4 : Int32) (a5 : Int32) (a6 : Int32) (σ : St) (K : Int32 → Int32 → Int32 → Int32 → Int32 → Int32 → St → Prop) (Q : Int32 → St → Prop) : Prop := ∀ x19 : Int32, x19 = a6 + 1 → (K a1 a2 a3 a4 a5 x19 σ)
set_option maxRecDepth 100000 in
set_option maxHeartbeats 4000000 in
theorem bX5_want_161 {p : Program} {l : Launch} {e : Env} {s : State} {m : MethodId} {args : Array Value} {below : List Frame} {meth : Method} {c : Code} {H : Heap} {locs : List Loc} {ls : Array Slot} {D : va_G} {z : Nat → Nat} {A : Nat → Prop} {σ : St} {ad : Nat → Nat → Nat} {cy : Nat → ClassId} {Rr : va_W} {Q : Int32 → St → Prop} {a1 : Int32} {a2 : Int32} {a3 : Int32} {a4 : Int32} {a5 : Int32} {a6 : Int32} {K : Int32 → Int32 → Int32 → Int32 → Int32 → Int32 → St → Prop} (E : CallFix p m c cX5_want 10 s args TB RX5) (hr : meth.sig.returnType = some .int) (hlk : meth.locks = false) (hK : ∀ (a1 : Int32) (a2 : Int32) (a3 : Int32) (a4 : Int32) (a5 : Int32) (a6 : Int32) (σ : St) (H : Heap) (locs : List Loc) (ls : Array Slot), K a1 a2 a3 a4 a5 a6 σ → In (D, tysC cy, SF z) (LC ad cy Rr σ) A s H locs → lv_has ls 10 [(0, .ref (ad 0 99)), (1, .int a1), (2, .int a2), (3, .int a3), (4, .int a4), (5, .int a5), (6, .int a6)] → W p l e (rmD 6) s m args below meth c H locs 0 0 (PI below args s (D, tysC cy, SF z) A (LC ad cy Rr) Q) (F0 m 64 ls [])) (hf : wX5_want_j161 a1 a2 a3 a4 a5 a6 σ K Q) (hI : In (D, tysC cy, SF z) (LC ad cy Rr σ) A s H locs) (hl : lv_has ls 10 [(0, .ref (ad 0 99)), (1, .int a1), (2, .int a2), (3, .int a3), (4, .int a4), (5, .int a5), (6, .int a6)]) : W p l e (rmD 6) s m args below meth c H locs 0 0 (PI below args s (D, tysC cy, SF z) A (LC ad cy Rr) Q) (F0 m 161 ls []) := by
  have hx := E.1
  have hb := E.2.1
  unfold wX5_want_j161 at hf
  obtain ⟨x19, ex19⟩ : ∃ y : Int32, y = a6 + 1 := ⟨_, rfl⟩
  have hf := hf x19 ex19
  refine lv_iinc (v := x19) (lv' := [(6, .int x19), (0, .ref (ad 0 99)), (1, .int a1), (2, .int a2), (3, .int a3), (4, .int a4), (5, .int a5)]) (pc := 161) hx hb dX5_want_161 hl (k := 6) rfl (by rw [ex19]; rfl) (by decide) rfl (fun ls hl => ?_)
  refine lv_goto (tgt := 64) (pc := 164) hx hb dX5_want_164 (by decide) ?_
  exact hK _ _ _ _ _ _ _ _ _ _ hf hI (lv_sub hl [1, 2, 3, 4, 5, 6, 0] rfl)
def wX5_want_l64s (ih : Int32 → Int32 → Int32 → Int32 → Int32 → Int32 → St → Prop) (a1 : Int32) (a2 : Int32) (a3 : Int32) (a4 : Int32) (a5 : Int32) (a6 : Int32) (σ : St) (Q : Int32 → St → Prop) : Prop := ((256 ≤ a6 → (wX5_want_j167 a2 a3 a4 σ Q)) ∧ (¬ 256 ≤ a6 → ((a5 ≤ a3 → (wX5_want_j167 a2 a3 a4 σ Q)) ∧ (¬ a5 ≤ a3 → ∀ x14 : Int32, x14 = (a6 / 4) → ∀ x15 : Int32, x15 = (irm a6 4) → wX4_isFilled 1 x14 σ (fun r17 σ16 => ((¬ r17 = 0 → (wX5_want_j161 a1 a2 a3 a4 a5 a6 σ16 ih Q)) ∧ (r17 = 0 → wX4_wantOf 1 x14 σ16 (fun r21 σ20 => ((¬ r21 = x15 → wX5_think σ20 (fun σ23 => wX4_wish 2 x14 x15 σ23 (fun σ24 => wX5_filledBehind a1 (-1) σ24 (fun r26 σ25 => ((r26 ≤ a3 → (wX5_want_j161 a1 a2 a3 a4 a5 a6 σ25 ih Q)) ∧ (¬ r26 ≤ a3 → ∀ x28 : Int32, x28 = ((10 * x14) + x15) → (wX5_want_j161 a1 a2 r26 x28 a5 a6 σ25 ih Q))))))) ∧ (r21 = x15 → (wX5_want_j161 a1 a2 a3 a4 a5 a6 σ20 ih Q)))))))))))
def wX5_want_l64 (n : Nat) : Int32 → Int32 → Int32 → Int32 → Int32 → Int32 → St → (Int32 → St → Prop) → Prop := @Nat.rec (fun _ => Int32 → Int32 → Int32 → Int32 → Int32 → Int32 → St → (Int32 → St → Prop) → Prop) (fun _ _ _ _ _ _ _ _ => False) (fun _ ih a1 a2 a3 a4 a5 a6 σ Q => wX5_want_l64s (fun a1 a2 a3 a4 a5 a6 σ => ih a1 a2 a3 a4 a5 a6 σ Q) a1 a2 a3 a4 a5 a6 σ Q) n
set_option maxRecDepth 100000 in
set_option maxHeartbeats 4000000 in
theorem bX5_want_64 {p : Program} {l : Launch} {e : Env} {s : State} {m : MethodId} {args : Array Value} {below : List Frame} {meth : Method} {c : Code} {D : va_G} {z : Nat → Nat} {A : Nat → Prop} {ad : Nat → Nat → Nat} {cy : Nat → ClassId} {Rr : va_W} {Q : Int32 → St → Prop} (E : CallFix p m c cX5_want 10 s args TB RX5) (hr : meth.sig.returnType = some .int) (hlk : meth.locks = false) : ∀ (n : Nat) {a1 : Int32} {a2 : Int32} {a3 : Int32} {a4 : Int32} {a5 : Int32} {a6 : Int32} {σ : St} {H : Heap} {locs : List Loc} {ls : Array Slot}, wX5_want_l64 n a1 a2 a3 a4 a5 a6 σ Q → In (D, tysC cy, SF z) (LC ad cy Rr σ) A s H locs → lv_has ls 10 [(0, .ref (ad 0 99)), (1, .int a1), (2, .int a2), (3, .int a3), (4, .int a4), (5, .int a5), (6, .int a6)] → W p l e (rmD 6) s m args below meth c H locs 0 0 (PI below args s (D, tysC cy, SF z) A (LC ad cy Rr) Q) (F0 m 64 ls []) := by
  have hx := E.1
  have hb := E.2.1
  intro n
  induction n with
  | zero => intro a1 a2 a3 a4 a5 a6 σ H locs ls hf hI hl; exact False.elim hf
  | succ n ih =>
    intro a1 a2 a3 a4 a5 a6 σ H locs ls hf hI hl
    have hf : wX5_want_l64s (fun a1 a2 a3 a4 a5 a6 σ => wX5_want_l64 n a1 a2 a3 a4 a5 a6 σ Q) a1 a2 a3 a4 a5 a6 σ Q := hf
    unfold wX5_want_l64s at hf
    refine lv_iload (pc := 64) hx hb dX5_want_64 (lv_at hl 6 rfl) ?_
    refine lv_sipush (v := 256) (pc := 66) hx hb dX5_want_66 rfl ?_
    refine lv_icmp_ge (tgt := 167) (pc := 69) hx hb dX5_want_69 (by decide) (fun c11 => ?_) (fun c11 => ?_)
    · have hf := hf.1 c11
      exact bX5_want_167 E hr hlk hf hI (lv_sub hl [2, 3, 4] rfl)
    · have hf := hf.2 c11
      refine lv_iload_n (pc := 72) hx hb dX5_want_72 rfl (lv_at hl 3 rfl) ?_
      refine lv_iload (pc := 73) hx hb dX5_want_73 (lv_at hl 5 rfl) ?_
      refine lv_icmp_ge (tgt := 167) (pc := 75) hx hb dX5_want_75 (by decide) (fun c13 => ?_) (fun c13 => ?_)
      · have hf := hf.1 c13
        exact bX5_want_167 E hr hlk hf hI (lv_sub hl [2, 3, 4] rfl)
      · have hf := hf.2 c13
        refine lv_iload (pc := 78) hx hb dX5_want_78 (lv_at hl 6 rfl) ?_
        refine lv_iconst (v := 4) (pc := 80) hx hb dX5_want_80 rfl ?_
        refine lv_idiv (pc := 81) hx hb dX5_want_81 (by decide) ?_
        refine lv_topi (fun x14 ex14 => ?_)
        have hf := hf x14 ex14
        refine lv_istore (lv' := [(7, .int x14), (0, .ref (ad 0 99)), (1, .int a1), (2, .int a2), (3, .int a3), (4, .int a4), (5, .int a5), (6, .int a6)]) (pc := 82) hx hb dX5_want_82 hl (by decide) rfl (fun ls hl => ?_)
        refine lv_iload (pc := 84) hx hb dX5_want_84 (lv_at hl 7 rfl) ?_
        refine lv_iconst (v := 4) (pc := 86) hx hb dX5_want_86 rfl ?_
        refine lv_irem1 (pc := 87) hx hb dX5_want_87 (by decide) ?_
        refine lv_topi (fun x15 ex15 => ?_)
        have hf := hf x15 ex15
        refine lv_istore (lv' := [(8, .int x15), (7, .int x14), (0, .ref (ad 0 99)), (1, .int a1), (2, .int a2), (3, .int a3), (4, .int a4), (5, .int a5), (6, .int a6)]) (pc := 88) hx hb dX5_want_88 hl (by decide) rfl (fun ls hl => ?_)
        refine lv_aload_n (pc := 90) hx hb dX5_want_90 rfl (lv_at hl 2 rfl) ?_
        refine g5_0 (pc := 91) E hI rfl lkX5_10 dX5_want_91 ?_
        refine lv_iload (pc := 94) hx hb dX5_want_94 (lv_at hl 1 rfl) ?_
        refine callVI (G := (D, tysC cy, SF z)) (L := LC ad cy Rr) (pc := 96) (As := [.int x14]) (rest := []) stabSF E cs0 hl hI (tX4_isFilled rfl hf) mwX5_166 (fitD (by decide)) (at4 rfl) rfl rfl rfl rfl (Nat.le_of_ble_eq_true rfl) dX5_want_96 (fun r17 σ16 H locs hf hI => ?_)
        refine lv_if_ne (tgt := 161) (pc := 99) hx hb dX5_want_99 (by decide) (fun c18 => ?_) (fun c18 => ?_)
        · have hf := hf.1 c18
          exact bX5_want_161 E hr hlk (fun _ _ _ _ _ _ _ _ _ _ hf hI hl => ih hf hI hl) hf hI (lv_sub hl [2, 3, 4, 5, 6, 7, 8] rfl)
        · have hf := hf.2 c18
          refine lv_aload_n (pc := 102) hx hb dX5_want_102 rfl (lv_at hl 2 rfl) ?_
          refine g5_0 (pc := 103) E hI rfl lkX5_10 dX5_want_103 ?_
          refine lv_iload (pc := 106) hx hb dX5_want_106 (lv_at hl 1 rfl) ?_
          refine callVI (G := (D, tysC cy, SF z)) (L := LC ad cy Rr) (pc := 108) (As := [.int x14]) (rest := []) stabSF E cs0 hl hI (tX4_wantOf rfl hf) mwX5_170 (fitD (by decide)) (at4 rfl) rfl rfl rfl rfl (Nat.le_of_ble_eq_true rfl) dX5_want_108 (fun r21 σ20 H locs hf hI => ?_)
          refine lv_iload (pc := 111) hx hb dX5_want_111 (lv_at hl 0 rfl) ?_
          refine lv_icmp_ne (tgt := 119) (pc := 113) hx hb dX5_want_113 (by decide) (fun c22 => ?_) (fun c22 => ?_)
          · have hf := hf.1 c22
            refine lv_aload_n (pc := 119) hx hb dX5_want_119 rfl (lv_at hl 2 rfl) ?_
            refine callVV (G := (D, tysC cy, SF z)) (L := LC ad cy Rr) (pc := 120) (As := []) (rest := []) stabSF E cs0 hl hI (tX5_think hf) mwX5_137 (fitD (by decide)) (at5 rfl) rfl rfl rfl rfl (Nat.le_of_ble_eq_true rfl) dX5_want_120 (fun σ23 H locs hf hI => ?_)
            refine lv_aload_n (pc := 123) hx hb dX5_want_123 rfl (lv_at hl 2 rfl) ?_
            refine g5_1 (pc := 124) E hI rfl lkX5_16 dX5_want_124 ?_
            refine lv_iload (pc := 127) hx hb dX5_want_127 (lv_at hl 1 rfl) ?_
            refine lv_iload (pc := 129) hx hb dX5_want_129 (lv_at hl 0 rfl) ?_
            refine callVV (G := (D, tysC cy, SF z)) (L := LC ad cy Rr) (pc := 131) (As := [.int x14, .int x15]) (rest := []) stabSF E cs0 hl hI (tX4_wish rfl hf) mwX5_173 (fitD (by decide)) (at4 rfl) rfl rfl rfl rfl (Nat.le_of_ble_eq_true rfl) dX5_want_131 (fun σ24 H locs hf hI => ?_)
            refine lv_aload_n (pc := 134) hx hb dX5_want_134 rfl (lv_at hl 2 rfl) ?_
            refine lv_iload_n (pc := 135) hx hb dX5_want_135 rfl (lv_at hl 3 rfl) ?_
            refine lv_iconst (v := (-1)) (pc := 136) hx hb dX5_want_136 rfl ?_
            refine callVI (G := (D, tysC cy, SF z)) (L := LC ad cy Rr) (pc := 137) (As := [.int a1, .int (-1)]) (rest := []) stabSF E cs0 hl hI (tX5_filledBehind hf) mwX5_158 (fitD (by decide)) (at5 rfl) rfl rfl rfl rfl (Nat.le_of_ble_eq_true rfl) dX5_want_137 (fun r26 σ25 H locs hf hI => ?_)
            refine lv_istore (lv' := [(9, .int r26), (8, .int x15), (7, .int x14), (0, .ref (ad 0 99)), (1, .int a1), (2, .int a2), (3, .int a3), (4, .int a4), (5, .int a5), (6, .int a6)]) (pc := 140) hx hb dX5_want_140 hl (by decide) rfl (fun ls hl => ?_)
            refine lv_iload (pc := 142) hx hb dX5_want_142 (lv_at hl 0 rfl) ?_
            refine lv_iload_n (pc := 144) hx hb dX5_want_144 rfl (lv_at hl 6 rfl) ?_
            refine lv_icmp_le (tgt := 161) (pc := 145) hx hb dX5_want_145 (by decide) (fun c27 => ?_) (fun c27 => ?_)
            · have hf := hf.1 c27
              exact bX5_want_161 E hr hlk (fun _ _ _ _ _ _ _ _ _ _ hf hI hl => ih hf hI hl) hf hI (lv_sub hl [3, 4, 5, 6, 7, 8, 9] rfl)
            · have hf := hf.2 c27
              refine lv_iload (pc := 148) hx hb dX5_want_148 (lv_at hl 0 rfl) ?_
              refine lv_istore_n (lv' := [(3, .int r26), (9, .int r26), (8, .int x15), (7, .int x14), (0, .ref (ad 0 99)), (1, .int a1), (2, .int a2), (4, .int a4), (5, .int a5), (6, .int a6)]) (pc := 150) hx hb dX5_want_150 rfl hl (by decide) rfl (fun ls hl => ?_)
              refine lv_bipush (v := 10) (pc := 151) hx hb dX5_want_151 rfl ?_
              refine lv_iload (pc := 153) hx hb dX5_want_153 (lv_at hl 3 rfl) ?_
              refine lv_imul (pc := 155) hx hb dX5_want_155 ?_
              refine lv_iload (pc := 156) hx hb dX5_want_156 (lv_at hl 2 rfl) ?_
              refine lv_iadd (pc := 158) hx hb dX5_want_158 ?_
              refine lv_topi (fun x28 ex28 => ?_)
              have hf := hf x28 ex28
              refine lv_istore (lv' := [(4, .int x28), (3, .int r26), (9, .int r26), (8, .int x15), (7, .int x14), (0, .ref (ad 0 99)), (1, .int a1), (2, .int a2), (5, .int a5), (6, .int a6)]) (pc := 159) hx hb dX5_want_159 hl (by decide) rfl (fun ls hl => ?_)
              exact bX5_want_161 E hr hlk (fun _ _ _ _ _ _ _ _ _ _ hf hI hl => ih hf hI hl) hf hI (lv_sub hl [5, 6, 7, 1, 0, 8, 9] rfl)
          · have hf := hf.2 c22
            refine lv_goto (tgt := 161) (pc := 116) hx hb dX5_want_116 (by decide) ?_
            exact bX5_want_161 E hr hlk (fun _ _ _ _ _ _ _ _ _ _ hf hI hl => ih hf hI hl) hf hI (lv_sub hl [2, 3, 4, 5, 6, 7, 8] rfl)
def wX5_want (p1 : Int32) (p2 : Int32) (σ : St) (Q : Int32 → St → Prop) : Prop := ((p1 < 1 → Q (-2) σ) ∧ (¬ p1 < 1 → ((20 < p1 → Q (-2) σ) ∧ (¬ 20 < p1 → ((p2 < 0 → Q (-2) σ) ∧ (¬ p2 < 0 → ((p2 ≤ 1 → wX5_think σ (fun σ5 => wX5_filledBehind p1 (-1) σ5 (fun r7 σ6 => wX4_filledCells 1 σ6 (fun r9 σ8 => ∀ x10 : Int32, x10 = (if (r9 + (p1 * (gI σ8 1 5))) < 64 then (r9 + (p1 * (gI σ8 1 5))) else 64) → ∃ n29 : Nat, wX5_want_l64 n29 p1 p2 r7 (-1) x10 0 σ8 Q)))) ∧ (¬ p2 ≤ 1 → Q (-2) σ))))))))
set_option maxRecDepth 100000 in
set_option maxHeartbeats 4000000 in
theorem bX5_want {p : Program} {l : Launch} {e : Env} {s : State} {m : MethodId} {args : Array Value} {below : List Frame} {meth : Method} {c : Code} {H : Heap} {locs : List Loc} {ls : Array Slot} {D : va_G} {z : Nat → Nat} {A : Nat → Prop} {σ : St} {ad : Nat → Nat → Nat} {cy : Nat → ClassId} {Rr : va_W} {Q : Int32 → St → Prop} {p1 : Int32} {p2 : Int32} (E : CallFix p m c cX5_want 10 s args TB RX5) (hr : meth.sig.returnType = some .int) (hlk : meth.locks = false) (hf : wX5_want p1 p2 σ Q) (hI : In (D, tysC cy, SF z) (LC ad cy Rr σ) A s H locs) (hl : lv_has ls 10 [(0, .ref (ad 0 99)), (1, .int p1), (2, .int p2)]) : W p l e (rmD 6) s m args below meth c H locs 0 0 (PI below args s (D, tysC cy, SF z) A (LC ad cy Rr) Q) (F0 m 0 ls []) := by
  have hx := E.1
  have hb := E.2.1
  unfold wX5_want at hf
  refine lv_iload_n (pc := 0) hx hb dX5_want_0 rfl (lv_at hl 1 rfl) ?_
  refine lv_iconst (v := 1) (pc := 1) hx hb dX5_want_1 rfl ?_
  refine lv_icmp_lt (tgt := 20) (pc := 2) hx hb dX5_want_2 (by decide) (fun c1 => ?_) (fun c1 => ?_)
  · have hf := hf.1 c1
    refine lv_bipush (v := (-2)) (pc := 20) hx hb dX5_want_20 rfl ?_
    exact rI (pc := 22) E hr hlk hI hf dX5_want_22
  · have hf := hf.2 c1
    refine lv_iload_n (pc := 5) hx hb dX5_want_5 rfl (lv_at hl 1 rfl) ?_
    refine lv_bipush (v := 20) (pc := 6) hx hb dX5_want_6 rfl ?_
    refine lv_icmp_gt (tgt := 20) (pc := 8) hx hb dX5_want_8 (by decide) (fun c2 => ?_) (fun c2 => ?_)
    · have hf := hf.1 c2
      refine lv_bipush (v := (-2)) (pc := 20) hx hb dX5_want_20 rfl ?_
      exact rI (pc := 22) E hr hlk hI hf dX5_want_22
    · have hf := hf.2 c2
      refine lv_iload_n (pc := 11) hx hb dX5_want_11 rfl (lv_at hl 2 rfl) ?_
      refine lv_if_lt (tgt := 20) (pc := 12) hx hb dX5_want_12 (by decide) (fun c3 => ?_) (fun c3 => ?_)
      · have hf := hf.1 c3
        refine lv_bipush (v := (-2)) (pc := 20) hx hb dX5_want_20 rfl ?_
        exact rI (pc := 22) E hr hlk hI hf dX5_want_22
      · have hf := hf.2 c3
        refine lv_iload_n (pc := 15) hx hb dX5_want_15 rfl (lv_at hl 2 rfl) ?_
        refine lv_iconst (v := 1) (pc := 16) hx hb dX5_want_16 rfl ?_
        refine lv_icmp_le (tgt := 23) (pc := 17) hx hb dX5_want_17 (by decide) (fun c4 => ?_) (fun c4 => ?_)
        · have hf := hf.1 c4
          refine lv_aload_n (pc := 23) hx hb dX5_want_23 rfl (lv_at hl 0 rfl) ?_
          refine callVV (G := (D, tysC cy, SF z)) (L := LC ad cy Rr) (pc := 24) (As := []) (rest := []) stabSF E cs0 hl hI (tX5_think hf) mwX5_137 (fitD (by decide)) (at5 rfl) rfl rfl rfl rfl (Nat.le_of_ble_eq_true rfl) dX5_want_24 (fun σ5 H locs hf hI => ?_)
          refine lv_aload_n (pc := 27) hx hb dX5_want_27 rfl (lv_at hl 0 rfl) ?_
          refine lv_iload_n (pc := 28) hx hb dX5_want_28 rfl (lv_at hl 1 rfl) ?_
          refine lv_iconst (v := (-1)) (pc := 29) hx hb dX5_want_29 rfl ?_
          refine callVI (G := (D, tysC cy, SF z)) (L := LC ad cy Rr) (pc := 30) (As := [.int p1, .int (-1)]) (rest := []) stabSF E cs0 hl hI (tX5_filledBehind hf) mwX5_158 (fitD (by decide)) (at5 rfl) rfl rfl rfl rfl (Nat.le_of_ble_eq_true rfl) dX5_want_30 (fun r7 σ6 H locs hf hI => ?_)
          refine lv_istore_n (lv' := [(3, .int r7), (0, .ref (ad 0 99)), (1, .int p1), (2, .int p2)]) (pc := 33) hx hb dX5_want_33 rfl hl (by decide) rfl (fun ls hl => ?_)
          refine lv_iconst (v := (-1)) (pc := 34) hx hb dX5_want_34 rfl ?_
          refine lv_istore (lv' := [(4, .int (-1)), (3, .int r7), (0, .ref (ad 0 99)), (1, .int p1), (2, .int p2)]) (pc := 35) hx hb dX5_want_35 hl (by decide) rfl (fun ls hl => ?_)
          refine lv_bipush (v := 64) (pc := 37) hx hb dX5_want_37 rfl ?_
          refine lv_aload_n (pc := 39) hx hb dX5_want_39 rfl (lv_at hl 2 rfl) ?_
          refine g5_0 (pc := 40) E hI rfl lkX5_10 dX5_want_40 ?_
          refine callVI (G := (D, tysC cy, SF z)) (L := LC ad cy Rr) (pc := 43) (As := []) (rest := [.int 64]) stabSF E cs0 hl hI (tX4_filledCells rfl hf) mwX5_131 (fitD (by decide)) (at4 rfl) rfl rfl rfl rfl (Nat.le_of_ble_eq_true rfl) dX5_want_43 (fun r9 σ8 H locs hf hI => ?_)
          refine lv_iload_n (pc := 46) hx hb dX5_want_46 rfl (lv_at hl 3 rfl) ?_
          refine lv_aload_n (pc := 47) hx hb dX5_want_47 rfl (lv_at hl 2 rfl) ?_
          refine g5_0 (pc := 48) E hI rfl lkX5_10 dX5_want_48 ?_
          refine g4_5 (pc := 51) E hI rfl lkX5_134 dX5_want_51 ?_
          refine lv_imul (pc := 54) hx hb dX5_want_54 ?_
          refine lv_iadd (pc := 55) hx hb dX5_want_55 ?_
          refine rMin (pc := 56) E cs0 hl mwX5_161 (fitD (by decide)) (Nat.le_of_ble_eq_true rfl) dX5_want_56 ?_
          refine lv_topi (fun x10 ex10 => ?_)
          have hf := hf x10 ex10
          refine lv_istore (lv' := [(5, .int x10), (4, .int (-1)), (3, .int r7), (0, .ref (ad 0 99)), (1, .int p1), (2, .int p2)]) (pc := 59) hx hb dX5_want_59 hl (by decide) rfl (fun ls hl => ?_)
          refine lv_iconst (v := 0) (pc := 61) hx hb dX5_want_61 rfl ?_
          refine lv_istore (lv' := [(6, .int 0), (5, .int x10), (4, .int (-1)), (3, .int r7), (0, .ref (ad 0 99)), (1, .int p1), (2, .int p2)]) (pc := 62) hx hb dX5_want_62 hl (by decide) rfl (fun ls hl => ?_)
          obtain ⟨n29, hf⟩ := hf
          exact bX5_want_64 E hr hlk n29 hf hI (lv_sub hl [4, 5, 6, 3, 2, 1, 0] rfl)
        · have hf := hf.2 c4
          refine lv_bipush (v := (-2)) (pc := 20) hx hb dX5_want_20 rfl ?_
          exact rI (pc := 22) E hr hlk hI hf dX5_want_22
theorem tX5_want {l : Launch} {D : va_G} {z : Nat → Nat} {σ : St} {ad : Nat → Nat → Nat} {cy : Nat → ClassId} {Rr : va_W} {Q : Int32 → St → Prop} {p1 : Int32} {p2 : Int32} (hf : wX5_want p1 p2 σ Q) : CtI l yX5_want cX5_want 10 .int 6 (D, tysC cy, SF z) (LC ad cy Rr) [.ref (ad 0 99), .int p1, .int p2] σ Q := mkI (by decide) (Nat.le_of_ble_eq_true rfl) (fun p e s m below meth c A E hr hlk hI ls hl => bX5_want E hr hlk hf hI hl)

def wX5_idle_l26s (ih : Int32 → Int32 → Int32 → St → Prop) (a1 : Int32) (a2 : Int32) (a3 : Int32) (σ : St) (Q : Int32 → St → Prop) : Prop := (((gI σ 1 5) ≤ a3 → Q (-1) σ) ∧ (¬ (gI σ 1 5) ≤ a3 → wX5_think σ (fun σ7 => wX5_filledBehind a1 a3 σ7 (fun r9 σ8 => ((¬ r9 = a2 → ∀ x11 : Int32, x11 = a3 + 1 → (ih a1 a2 x11 σ8)) ∧ (r9 = a2 → Q a3 σ8))))))
def wX5_idle_l26 (n : Nat) : Int32 → Int32 → Int32 → St → (Int32 → St → Prop) → Prop := @Nat.rec (fun _ => Int32 → Int32 → Int32 → St → (Int32 → St → Prop) → Prop) (fun _ _ _ _ _ => False) (fun _ ih a1 a2 a3 σ Q => wX5_idle_l26s (fun a1 a2 a3 σ => ih a1 a2 a3 σ Q) a1 a2 a3 σ Q) n
set_option maxRecDepth 100000 in
set_option maxHeartbeats 4000000 in
theorem bX5_idle_26 {p : Program} {l : Launch} {e : Env} {s : State} {m : MethodId} {args : Array Value} {below : List Frame} {meth : Method} {c : Code} {D : va_G} {z : Nat → Nat} {A : Nat → Prop} {ad : Nat → Nat → Nat} {cy : Nat → ClassId} {Rr : va_W} {Q : Int32 → St → Prop} (E : CallFix p m c cX5_idle 4 s args TB RX5) (hr : meth.sig.returnType = some .int) (hlk : meth.locks = false) : ∀ (n : Nat) {a1 : Int32} {a2 : Int32} {a3 : Int32} {σ : St} {H : Heap} {locs : List Loc} {ls : Array Slot}, wX5_idle_l26 n a1 a2 a3 σ Q → In (D, tysC cy, SF z) (LC ad cy Rr σ) A s H locs → lv_has ls 4 [(0, .ref (ad 0 99)), (1, .int a1), (2, .int a2), (3, .int a3)] → W p l e (rmD 6) s m args below meth c H locs 0 0 (PI below args s (D, tysC cy, SF z) A (LC ad cy Rr) Q) (F0 m 26 ls []) := by
  have hx := E.1
  have hb := E.2.1
  intro n
  induction n with
  | zero => intro a1 a2 a3 σ H locs ls hf hI hl; exact False.elim hf
  | succ n ih =>
    intro a1 a2 a3 σ H locs ls hf hI hl
    have hf : wX5_idle_l26s (fun a1 a2 a3 σ => wX5_idle_l26 n a1 a2 a3 σ Q) a1 a2 a3 σ Q := hf
    unfold wX5_idle_l26s at hf
    refine lv_iload_n (pc := 26) hx hb dX5_idle_26 rfl (lv_at hl 3 rfl) ?_
    refine lv_aload_n (pc := 27) hx hb dX5_idle_27 rfl (lv_at hl 0 rfl) ?_
    refine g5_0 (pc := 28) E hI rfl lkX5_10 dX5_idle_28 ?_
    refine g4_5 (pc := 31) E hI rfl lkX5_134 dX5_idle_31 ?_
    refine lv_icmp_ge (tgt := 59) (pc := 34) hx hb dX5_idle_34 (by decide) (fun c6 => ?_) (fun c6 => ?_)
    · have hf := hf.1 c6
      refine lv_iconst (v := (-1)) (pc := 59) hx hb dX5_idle_59 rfl ?_
      exact rI (pc := 60) E hr hlk hI hf dX5_idle_60
    · have hf := hf.2 c6
      refine lv_aload_n (pc := 37) hx hb dX5_idle_37 rfl (lv_at hl 0 rfl) ?_
      refine callVV (G := (D, tysC cy, SF z)) (L := LC ad cy Rr) (pc := 38) (As := []) (rest := []) stabSF E cs0 hl hI (tX5_think hf) mwX5_137 (fitD (by decide)) (at5 rfl) rfl rfl rfl rfl (Nat.le_of_ble_eq_true rfl) dX5_idle_38 (fun σ7 H locs hf hI => ?_)
      refine lv_aload_n (pc := 41) hx hb dX5_idle_41 rfl (lv_at hl 0 rfl) ?_
      refine lv_iload_n (pc := 42) hx hb dX5_idle_42 rfl (lv_at hl 1 rfl) ?_
      refine lv_iload_n (pc := 43) hx hb dX5_idle_43 rfl (lv_at hl 3 rfl) ?_
      refine callVI (G := (D, tysC cy, SF z)) (L := LC ad cy Rr) (pc := 44) (As := [.int a1, .int a3]) (rest := []) stabSF E cs0 hl hI (tX5_filledBehind hf) mwX5_158 (fitD (by decide)) (at5 rfl) rfl rfl rfl rfl (Nat.le_of_ble_eq_true rfl) dX5_idle_44 (fun r9 σ8 H locs hf hI => ?_)
      refine lv_iload_n (pc := 47) hx hb dX5_idle_47 rfl (lv_at hl 2 rfl) ?_
      refine lv_icmp_ne (tgt := 53) (pc := 48) hx hb dX5_idle_48 (by decide) (fun c10 => ?_) (fun c10 => ?_)
      · have hf := hf.1 c10
        obtain ⟨x11, ex11⟩ : ∃ y : Int32, y = a3 + 1 := ⟨_, rfl⟩
        have hf := hf x11 ex11
        refine lv_iinc (v := x11) (lv' := [(3, .int x11), (0, .ref (ad 0 99)), (1, .int a1), (2, .int a2)]) (pc := 53) hx hb dX5_idle_53 hl (k := 3) rfl (by rw [ex11]; rfl) (by decide) rfl (fun ls hl => ?_)
        refine lv_goto (tgt := 26) (pc := 56) hx hb dX5_idle_56 (by decide) ?_
        exact ih hf hI (lv_sub hl [1, 2, 3, 0] rfl)
      · have hf := hf.2 c10
        refine lv_iload_n (pc := 51) hx hb dX5_idle_51 rfl (lv_at hl 3 rfl) ?_
        exact rI (pc := 52) E hr hlk hI hf dX5_idle_52
def wX5_idle (p1 : Int32) (σ : St) (Q : Int32 → St → Prop) : Prop := ((p1 < 0 → Q (-2) σ) ∧ (¬ p1 < 0 → ((p1 ≤ 40 → wX5_think σ (fun σ3 => wX5_filledBehind p1 (-1) σ3 (fun r5 σ4 => ∃ n12 : Nat, wX5_idle_l26 n12 p1 r5 0 σ4 Q))) ∧ (¬ p1 ≤ 40 → Q (-2) σ))))
set_option maxRecDepth 100000 in
set_option maxHeartbeats 4000000 in
theorem bX5_idle {p : Program} {l : Launch} {e : Env} {s : State} {m : MethodId} {args : Array Value} {below : List Frame} {meth : Method} {c : Code} {H : Heap} {locs : List Loc} {ls : Array Slot} {D : va_G} {z : Nat → Nat} {A : Nat → Prop} {σ : St} {ad : Nat → Nat → Nat} {cy : Nat → ClassId} {Rr : va_W} {Q : Int32 → St → Prop} {p1 : Int32} (E : CallFix p m c cX5_idle 4 s args TB RX5) (hr : meth.sig.returnType = some .int) (hlk : meth.locks = false) (hf : wX5_idle p1 σ Q) (hI : In (D, tysC cy, SF z) (LC ad cy Rr σ) A s H locs) (hl : lv_has ls 4 [(0, .ref (ad 0 99)), (1, .int p1)]) : W p l e (rmD 6) s m args below meth c H locs 0 0 (PI below args s (D, tysC cy, SF z) A (LC ad cy Rr) Q) (F0 m 0 ls []) := by
  have hx := E.1
  have hb := E.2.1
  unfold wX5_idle at hf
  refine lv_iload_n (pc := 0) hx hb dX5_idle_0 rfl (lv_at hl 1 rfl) ?_
  refine lv_if_lt (tgt := 10) (pc := 1) hx hb dX5_idle_1 (by decide) (fun c1 => ?_) (fun c1 => ?_)
  · have hf := hf.1 c1
    refine lv_bipush (v := (-2)) (pc := 10) hx hb dX5_idle_10 rfl ?_
    exact rI (pc := 12) E hr hlk hI hf dX5_idle_12
  · have hf := hf.2 c1
    refine lv_iload_n (pc := 4) hx hb dX5_idle_4 rfl (lv_at hl 1 rfl) ?_
    refine lv_bipush (v := 40) (pc := 5) hx hb dX5_idle_5 rfl ?_
    refine lv_icmp_le (tgt := 13) (pc := 7) hx hb dX5_idle_7 (by decide) (fun c2 => ?_) (fun c2 => ?_)
    · have hf := hf.1 c2
      refine lv_aload_n (pc := 13) hx hb dX5_idle_13 rfl (lv_at hl 0 rfl) ?_
      refine callVV (G := (D, tysC cy, SF z)) (L := LC ad cy Rr) (pc := 14) (As := []) (rest := []) stabSF E cs0 hl hI (tX5_think hf) mwX5_137 (fitD (by decide)) (at5 rfl) rfl rfl rfl rfl (Nat.le_of_ble_eq_true rfl) dX5_idle_14 (fun σ3 H locs hf hI => ?_)
      refine lv_aload_n (pc := 17) hx hb dX5_idle_17 rfl (lv_at hl 0 rfl) ?_
      refine lv_iload_n (pc := 18) hx hb dX5_idle_18 rfl (lv_at hl 1 rfl) ?_
      refine lv_iconst (v := (-1)) (pc := 19) hx hb dX5_idle_19 rfl ?_
      refine callVI (G := (D, tysC cy, SF z)) (L := LC ad cy Rr) (pc := 20) (As := [.int p1, .int (-1)]) (rest := []) stabSF E cs0 hl hI (tX5_filledBehind hf) mwX5_158 (fitD (by decide)) (at5 rfl) rfl rfl rfl rfl (Nat.le_of_ble_eq_true rfl) dX5_idle_20 (fun r5 σ4 H locs hf hI => ?_)
      refine lv_istore_n (lv' := [(2, .int r5), (0, .ref (ad 0 99)), (1, .int p1)]) (pc := 23) hx hb dX5_idle_23 rfl hl (by decide) rfl (fun ls hl => ?_)
      refine lv_iconst (v := 0) (pc := 24) hx hb dX5_idle_24 rfl ?_
      refine lv_istore_n (lv' := [(3, .int 0), (2, .int r5), (0, .ref (ad 0 99)), (1, .int p1)]) (pc := 25) hx hb dX5_idle_25 rfl hl (by decide) rfl (fun ls hl => ?_)
      obtain ⟨n12, hf⟩ := hf
      exact bX5_idle_26 E hr hlk n12 hf hI (lv_sub hl [2, 3, 1, 0] rfl)
    · have hf := hf.2 c2
      refine lv_bipush (v := (-2)) (pc := 10) hx hb dX5_idle_10 rfl ?_
      exact rI (pc := 12) E hr hlk hI hf dX5_idle_12
theorem tX5_idle {l : Launch} {D : va_G} {z : Nat → Nat} {σ : St} {ad : Nat → Nat → Nat} {cy : Nat → ClassId} {Rr : va_W} {Q : Int32 → St → Prop} {p1 : Int32} (hf : wX5_idle p1 σ Q) : CtI l yX5_idle cX5_idle 4 .int 6 (D, tysC cy, SF z) (LC ad cy Rr) [.ref (ad 0 99), .int p1] σ Q := mkI (by decide) (Nat.le_of_ble_eq_true rfl) (fun p e s m below meth c A E hr hlk hI ls hl => bX5_idle E hr hlk hf hI hl)

def wX5_tells_j157 (a2 : Int32) (a3 : Int32) (q4 : Nat) (a5 : Int32) (a6 : Int32) (a7 : Int32) (a8 : Int32) (a9 : Int32) (σ : St) (K : Int32 → Int32 → Nat → Int32 → Int32 → Int32 → Int32 → Int32 → St → Prop) (Q : Int32 → St → Prop) : Prop := ∀ x26 : Int32, x26 = a9 + 1 → (K a2 a3 q4 a5 a6 a7 a8 x26 σ)
set_option maxRecDepth 100000 in
set_option maxHeartbeats 4000000 in
theorem bX5_tells_157 {p : Program} {l : Launch} {e : Env} {s : State} {m : MethodId} {args : Array Value} {below : List Frame} {meth : Method} {c : Code} {H : Heap} {locs : List Loc} {ls : Array Slot} {D : va_G} {z : Nat → Nat} {A : Nat → Prop} {σ : St} {ad : Nat → Nat → Nat} {cy : Nat → ClassId} {Rr : va_W} {Q : Int32 → St → Prop} {a2 : Int32} {a3 : Int32} {q4 : Nat} {a5 : Int32} {a6 : Int32} {a7 : Int32} {a8 : Int32} {a9 : Int32} {K : Int32 → Int32 → Nat → Int32 → Int32 → Int32 → Int32 → Int32 → St → Prop} (E : CallFix p m c cX5_tells 10 s args TB RX5) (hr : meth.sig.returnType = some .int) (hlk : meth.locks = false) (hq4 : kd q4 = 2) (hK : ∀ (a2 : Int32) (a3 : Int32) (q4 : Nat) (a5 : Int32) (a6 : Int32) (a7 : Int32) (a8 : Int32) (a9 : Int32) (_ : kd q4 = 2) (σ : St) (H : Heap) (locs : List Loc) (ls : Array Slot), K a2 a3 q4 a5 a6 a7 a8 a9 σ → In (D, tysC cy, SF z) (LC ad cy Rr σ) A s H locs → lv_has ls 10 [(0, .ref (ad 0 99)), (2, .int a2), (3, .int a3), (4, .ref (ad q4 99)), (5, .int a5), (6, .int a6), (7, .int a7), (8, .int a8), (9, .int a9)] → W p l e (rmD 6) s m args below meth c H locs 0 0 (PI below args s (D, tysC cy, SF z) A (LC ad cy Rr) Q) (F0 m 101 ls [])) (hf : wX5_tells_j157 a2 a3 q4 a5 a6 a7 a8 a9 σ K Q) (hI : In (D, tysC cy, SF z) (LC ad cy Rr σ) A s H locs) (hl : lv_has ls 10 [(0, .ref (ad 0 99)), (2, .int a2), (3, .int a3), (4, .ref (ad q4 99)), (5, .int a5), (6, .int a6), (7, .int a7), (8, .int a8), (9, .int a9)]) : W p l e (rmD 6) s m args below meth c H locs 0 0 (PI below args s (D, tysC cy, SF z) A (LC ad cy Rr) Q) (F0 m 157 ls []) := by
  have hx := E.1
  have hb := E.2.1
  unfold wX5_tells_j157 at hf
  obtain ⟨x26, ex26⟩ : ∃ y : Int32, y = a9 + 1 := ⟨_, rfl⟩
  have hf := hf x26 ex26
  refine lv_iinc (v := x26) (lv' := [(9, .int x26), (0, .ref (ad 0 99)), (2, .int a2), (3, .int a3), (4, .ref (ad q4 99)), (5, .int a5), (6, .int a6), (7, .int a7), (8, .int a8)]) (pc := 157) hx hb dX5_tells_157 hl (k := 8) rfl (by rw [ex26]; rfl) (by decide) rfl (fun ls hl => ?_)
  refine lv_goto (tgt := 101) (pc := 160) hx hb dX5_tells_160 (by decide) ?_
  exact hK _ _ _ _ _ _ _ _ hq4 _ _ _ _ hf hI (lv_sub hl [1, 2, 3, 4, 5, 6, 7, 8, 0] rfl)
def wX5_tells_j155 (a2 : Int32) (a3 : Int32) (q4 : Nat) (a5 : Int32) (a6 : Int32) (a8 : Int32) (a9 : Int32) (s0 : Int32) (σ : St) (K : Int32 → Int32 → Nat → Int32 → Int32 → Int32 → Int32 → Int32 → St → Prop) (Q : Int32 → St → Prop) : Prop := (wX5_tells_j157 a2 a3 q4 a5 a6 s0 a8 a9 σ K Q)
set_option maxRecDepth 100000 in
set_option maxHeartbeats 4000000 in
theorem bX5_tells_155 {p : Program} {l : Launch} {e : Env} {s : State} {m : MethodId} {args : Array Value} {below : List Frame} {meth : Method} {c : Code} {H : Heap} {locs : List Loc} {ls : Array Slot} {D : va_G} {z : Nat → Nat} {A : Nat → Prop} {σ : St} {ad : Nat → Nat → Nat} {cy : Nat → ClassId} {Rr : va_W} {Q : Int32 → St → Prop} {a2 : Int32} {a3 : Int32} {q4 : Nat} {a5 : Int32} {a6 : Int32} {a8 : Int32} {a9 : Int32} {s0 : Int32} {K : Int32 → Int32 → Nat → Int32 → Int32 → Int32 → Int32 → Int32 → St → Prop} (E : CallFix p m c cX5_tells 10 s args TB RX5) (hr : meth.sig.returnType = some .int) (hlk : meth.locks = false) (hq4 : kd q4 = 2) (hK : ∀ (a2 : Int32) (a3 : Int32) (q4 : Nat) (a5 : Int32) (a6 : Int32) (a7 : Int32) (a8 : Int32) (a9 : Int32) (_ : kd q4 = 2) (σ : St) (H : Heap) (locs : List Loc) (ls : Array Slot), K a2 a3 q4 a5 a6 a7 a8 a9 σ → In (D, tysC cy, SF z) (LC ad cy Rr σ) A s H locs → lv_has ls 10 [(0, .ref (ad 0 99)), (2, .int a2), (3, .int a3), (4, .ref (ad q4 99)), (5, .int a5), (6, .int a6), (7, .int a7), (8, .int a8), (9, .int a9)] → W p l e (rmD 6) s m args below meth c H locs 0 0 (PI below args s (D, tysC cy, SF z) A (LC ad cy Rr) Q) (F0 m 101 ls [])) (hf : wX5_tells_j155 a2 a3 q4 a5 a6 a8 a9 s0 σ K Q) (hI : In (D, tysC cy, SF z) (LC ad cy Rr σ) A s H locs) (hl : lv_has ls 10 [(0, .ref (ad 0 99)), (2, .int a2), (3, .int a3), (4, .ref (ad q4 99)), (5, .int a5), (6, .int a6), (8, .int a8), (9, .int a9)]) : W p l e (rmD 6) s m args below meth c H locs 0 0 (PI below args s (D, tysC cy, SF z) A (LC ad cy Rr) Q) (F0 m 155 ls [.int s0]) := by
  have hx := E.1
  have hb := E.2.1
  unfold wX5_tells_j155 at hf
  refine lv_istore (lv' := [(7, .int s0), (0, .ref (ad 0 99)), (2, .int a2), (3, .int a3), (4, .ref (ad q4 99)), (5, .int a5), (6, .int a6), (8, .int a8), (9, .int a9)]) (pc := 155) hx hb dX5_tells_155 hl (by decide) rfl (fun ls hl => ?_)
  exact bX5_tells_157 E hr hlk hq4 hK hf hI (lv_sub hl [1, 2, 3, 4, 5, 6, 0, 7, 8] rfl)
def wX5_tells_l101s (ih : Int32 → Int32 → Nat → Int32 → Int32 → Int32 → Int32 → Int32 → St → Prop) (a2 : Int32) (a3 : Int32) (q4 : Nat) (a5 : Int32) (a6 : Int32) (a7 : Int32) (a8 : Int32) (a9 : Int32) (σ : St) (Q : Int32 → St → Prop) : Prop := ((a8 ≤ a9 → ((¬ a3 = 4 → ((¬ a3 = 5 → Q a5 σ) ∧ (a3 = 5 → Q a7 σ))) ∧ (a3 = 4 → Q a6 σ))) ∧ (¬ a8 ≤ a9 → wX5_think σ (fun σ21 => wX5_suppose a2 a3 a9 σ21 (fun σ22 => wX5_firstOtherwise q4 σ22 (fun r24 σ23 => ((¬ r24 = (-1) → (wX5_tells_j157 a2 a3 q4 a5 a6 a7 a8 a9 σ23 ih Q)) ∧ (r24 = (-1) → ∀ x27 : Int32, x27 = (a5 ||| (ish 1 a9)) → ∀ x28 : Int32, x28 = a6 + 1 → ((¬ a7 = (-1) → (wX5_tells_j155 a2 a3 q4 x27 x28 a8 a9 a7 σ23 ih Q)) ∧ (a7 = (-1) → (wX5_tells_j155 a2 a3 q4 x27 x28 a8 a9 a9 σ23 ih Q))))))))))
def wX5_tells_l101 (n : Nat) : Int32 → Int32 → Nat → Int32 → Int32 → Int32 → Int32 → Int32 → St → (Int32 → St → Prop) → Prop := @Nat.rec (fun _ => Int32 → Int32 → Nat → Int32 → Int32 → Int32 → Int32 → Int32 → St → (Int32 → St → Prop) → Prop) (fun _ _ _ _ _ _ _ _ _ _ => False) (fun _ ih a2 a3 q4 a5 a6 a7 a8 a9 σ Q => wX5_tells_l101s (fun a2 a3 q4 a5 a6 a7 a8 a9 σ => ih a2 a3 q4 a5 a6 a7 a8 a9 σ Q) a2 a3 q4 a5 a6 a7 a8 a9 σ Q) n
set_option maxRecDepth 100000 in
set_option maxHeartbeats 4000000 in
theorem bX5_tells_101 {p : Program} {l : Launch} {e : Env} {s : State} {m : MethodId} {args : Array Value} {below : List Frame} {meth : Method} {c : Code} {D : va_G} {z : Nat → Nat} {A : Nat → Prop} {ad : Nat → Nat → Nat} {cy : Nat → ClassId} {Rr : va_W} {Q : Int32 → St → Prop} (E : CallFix p m c cX5_tells 10 s args TB RX5) (hr : meth.sig.returnType = some .int) (hlk : meth.locks = false) : ∀ (n : Nat) {a2 : Int32} {a3 : Int32} {q4 : Nat} {a5 : Int32} {a6 : Int32} {a7 : Int32} {a8 : Int32} {a9 : Int32} (hq4 : kd q4 = 2) {σ : St} {H : Heap} {locs : List Loc} {ls : Array Slot}, wX5_tells_l101 n a2 a3 q4 a5 a6 a7 a8 a9 σ Q → In (D, tysC cy, SF z) (LC ad cy Rr σ) A s H locs → lv_has ls 10 [(0, .ref (ad 0 99)), (2, .int a2), (3, .int a3), (4, .ref (ad q4 99)), (5, .int a5), (6, .int a6), (7, .int a7), (8, .int a8), (9, .int a9)] → W p l e (rmD 6) s m args below meth c H locs 0 0 (PI below args s (D, tysC cy, SF z) A (LC ad cy Rr) Q) (F0 m 101 ls []) := by
  have hx := E.1
  have hb := E.2.1
  intro n
  induction n with
  | zero => intro a2 a3 q4 a5 a6 a7 a8 a9 hq4 σ H locs ls hf hI hl; exact False.elim hf
  | succ n ih =>
    intro a2 a3 q4 a5 a6 a7 a8 a9 hq4 σ H locs ls hf hI hl
    have hf : wX5_tells_l101s (fun a2 a3 q4 a5 a6 a7 a8 a9 σ => wX5_tells_l101 n a2 a3 q4 a5 a6 a7 a8 a9 σ Q) a2 a3 q4 a5 a6 a7 a8 a9 σ Q := hf
    unfold wX5_tells_l101s at hf
    refine lv_iload (pc := 101) hx hb dX5_tells_101 (lv_at hl 8 rfl) ?_
    refine lv_iload (pc := 103) hx hb dX5_tells_103 (lv_at hl 7 rfl) ?_
    refine lv_icmp_ge (tgt := 163) (pc := 105) hx hb dX5_tells_105 (by decide) (fun c18 => ?_) (fun c18 => ?_)
    · have hf := hf.1 c18
      refine lv_iload_n (pc := 163) hx hb dX5_tells_163 rfl (lv_at hl 2 rfl) ?_
      refine lv_iconst (v := 4) (pc := 164) hx hb dX5_tells_164 rfl ?_
      refine lv_icmp_ne (tgt := 171) (pc := 165) hx hb dX5_tells_165 (by decide) (fun c19 => ?_) (fun c19 => ?_)
      · have hf := hf.1 c19
        refine lv_iload_n (pc := 171) hx hb dX5_tells_171 rfl (lv_at hl 2 rfl) ?_
        refine lv_iconst (v := 5) (pc := 172) hx hb dX5_tells_172 rfl ?_
        refine lv_icmp_ne (tgt := 181) (pc := 173) hx hb dX5_tells_173 (by decide) (fun c20 => ?_) (fun c20 => ?_)
        · have hf := hf.1 c20
          refine lv_iload (pc := 181) hx hb dX5_tells_181 (lv_at hl 4 rfl) ?_
          exact rI (pc := 183) E hr hlk hI hf dX5_tells_183
        · have hf := hf.2 c20
          refine lv_iload (pc := 176) hx hb dX5_tells_176 (lv_at hl 6 rfl) ?_
          refine lv_goto (tgt := 183) (pc := 178) hx hb dX5_tells_178 (by decide) ?_
          exact rI (pc := 183) E hr hlk hI hf dX5_tells_183
      · have hf := hf.2 c19
        refine lv_iload (pc := 168) hx hb dX5_tells_168 (lv_at hl 5 rfl) ?_
        exact rI (pc := 170) E hr hlk hI hf dX5_tells_170
    · have hf := hf.2 c18
      refine lv_aload_n (pc := 108) hx hb dX5_tells_108 rfl (lv_at hl 0 rfl) ?_
      refine callVV (G := (D, tysC cy, SF z)) (L := LC ad cy Rr) (pc := 109) (As := []) (rest := []) stabSF E cs0 hl hI (tX5_think hf) mwX5_137 (fitD (by decide)) (at5 rfl) rfl rfl rfl rfl (Nat.le_of_ble_eq_true rfl) dX5_tells_109 (fun σ21 H locs hf hI => ?_)
      refine lv_aload_n (pc := 112) hx hb dX5_tells_112 rfl (lv_at hl 0 rfl) ?_
      refine lv_iload_n (pc := 113) hx hb dX5_tells_113 rfl (lv_at hl 1 rfl) ?_
      refine lv_iload_n (pc := 114) hx hb dX5_tells_114 rfl (lv_at hl 2 rfl) ?_
      refine lv_iload (pc := 115) hx hb dX5_tells_115 (lv_at hl 8 rfl) ?_
      refine callVV (G := (D, tysC cy, SF z)) (L := LC ad cy Rr) (pc := 117) (As := [.int a2, .int a3, .int a9]) (rest := []) stabSF E cs0 hl hI (tX5_suppose hf) mwX5_208 (fitD (by decide)) (at5 rfl) rfl rfl rfl rfl (Nat.le_of_ble_eq_true rfl) dX5_tells_117 (fun σ22 H locs hf hI => ?_)
      refine lv_aload_n (pc := 120) hx hb dX5_tells_120 rfl (lv_at hl 0 rfl) ?_
      refine lv_aload (pc := 121) hx hb dX5_tells_121 (lv_at hl 3 rfl) ?_
      refine callVI (G := (D, tysC cy, SF z)) (L := LC ad cy Rr) (pc := 123) (As := [.ref (ad q4 99)]) (rest := []) stabSF E cs0 hl hI (tX5_firstOtherwise hq4 hf) mwX5_201 (fitD (by decide)) (at5 rfl) rfl rfl rfl rfl (Nat.le_of_ble_eq_true rfl) dX5_tells_123 (fun r24 σ23 H locs hf hI => ?_)
      refine lv_iconst (v := (-1)) (pc := 126) hx hb dX5_tells_126 rfl ?_
      refine lv_icmp_ne (tgt := 157) (pc := 127) hx hb dX5_tells_127 (by decide) (fun c25 => ?_) (fun c25 => ?_)
      · have hf := hf.1 c25
        exact bX5_tells_157 E hr hlk hq4 (fun _ _ _ _ _ _ _ _ hq4 _ _ _ _ hf hI hl => ih hq4 hf hI hl) hf hI (lv_sub hl [0, 1, 2, 3, 4, 5, 6, 7, 8] rfl)
      · have hf := hf.2 c25
        refine lv_iload (pc := 130) hx hb dX5_tells_130 (lv_at hl 4 rfl) ?_
        refine lv_iconst (v := 1) (pc := 132) hx hb dX5_tells_132 rfl ?_
        refine lv_iload (pc := 133) hx hb dX5_tells_133 (lv_at hl 8 rfl) ?_
        refine lv_ishl1 (pc := 135) hx hb dX5_tells_135 ?_
        refine lv_ior (pc := 136) hx hb dX5_tells_136 ?_
        refine lv_topi (fun x27 ex27 => ?_)
        have hf := hf x27 ex27
        refine lv_istore (lv' := [(5, .int x27), (0, .ref (ad 0 99)), (2, .int a2), (3, .int a3), (4, .ref (ad q4 99)), (6, .int a6), (7, .int a7), (8, .int a8), (9, .int a9)]) (pc := 137) hx hb dX5_tells_137 hl (by decide) rfl (fun ls hl => ?_)
        obtain ⟨x28, ex28⟩ : ∃ y : Int32, y = a6 + 1 := ⟨_, rfl⟩
        have hf := hf x28 ex28
        refine lv_iinc (v := x28) (lv' := [(6, .int x28), (5, .int x27), (0, .ref (ad 0 99)), (2, .int a2), (3, .int a3), (4, .ref (ad q4 99)), (7, .int a7), (8, .int a8), (9, .int a9)]) (pc := 139) hx hb dX5_tells_139 hl (k := 5) rfl (by rw [ex28]; rfl) (by decide) rfl (fun ls hl => ?_)
        refine lv_iload (pc := 142) hx hb dX5_tells_142 (lv_at hl 6 rfl) ?_
        refine lv_iconst (v := (-1)) (pc := 144) hx hb dX5_tells_144 rfl ?_
        refine lv_icmp_ne (tgt := 153) (pc := 145) hx hb dX5_tells_145 (by decide) (fun c29 => ?_) (fun c29 => ?_)
        · have hf := hf.1 c29
          refine lv_iload (pc := 153) hx hb dX5_tells_153 (lv_at hl 6 rfl) ?_
          exact bX5_tells_155 E hr hlk hq4 (fun _ _ _ _ _ _ _ _ hq4 _ _ _ _ hf hI hl => ih hq4 hf hI hl) hf hI (lv_sub hl [2, 3, 4, 5, 1, 0, 7, 8] rfl)
        · have hf := hf.2 c29
          refine lv_iload (pc := 148) hx hb dX5_tells_148 (lv_at hl 8 rfl) ?_
          refine lv_goto (tgt := 155) (pc := 150) hx hb dX5_tells_150 (by decide) ?_
          exact bX5_tells_155 E hr hlk hq4 (fun _ _ _ _ _ _ _ _ hq4 _ _ _ _ hf hI hl => ih hq4 hf hI hl) hf hI (lv_sub hl [2, 3, 4, 5, 1, 0, 7, 8] rfl)
def wX5_tells (p1 : Int32) (p2 : Int32) (p3 : Int32) (σ : St) (Q : Int32 → St → Prop) : Prop := wX5_isIn p1 4 σ (fun r2 σ1 => ((r2 = 0 → Q (-2) σ1) ∧ (¬ r2 = 0 → wX5_isIn p2 (gI σ1 1 5) σ1 (fun r5 σ4 => ((r5 = 0 → Q (-2) σ4) ∧ (¬ r5 = 0 → ((p3 < 0 → Q (-2) σ4) ∧ (¬ p3 < 0 → ((p3 ≤ 6 → vp_in p1 4 ∧ ∀ o10 : Nat, o10 = 12 + p1.toNatClampNeg → wX2_isMissing o10 σ4 (fun r12 σ11 => ((r12 = 0 → (((gI σ11 o10 1) ≤ 20 → ((¬ p3 = 0 → wX5_choicesOf p3 σ11 (fun r17 σ16 => ∃ n30 : Nat, wX5_tells_l101 n30 p2 p3 o10 0 0 (-1) r17 0 σ16 Q)) ∧ (p3 = 0 → wX5_think σ11 (fun σ31 => wX5_firstOtherwise o10 σ31 (fun r33 σ32 => Q r33 σ32))))) ∧ (¬ (gI σ11 o10 1) ≤ 20 → Q (-2) σ11))) ∧ (¬ r12 = 0 → Q (-11) σ11)))) ∧ (¬ p3 ≤ 6 → Q (-2) σ4))))))))))
set_option maxRecDepth 100000 in
set_option maxHeartbeats 4000000 in
theorem bX5_tells {p : Program} {l : Launch} {e : Env} {s : State} {m : MethodId} {args : Array Value} {below : List Frame} {meth : Method} {c : Code} {H : Heap} {locs : List Loc} {ls : Array Slot} {D : va_G} {z : Nat → Nat} {A : Nat → Prop} {σ : St} {ad : Nat → Nat → Nat} {cy : Nat → ClassId} {Rr : va_W} {Q : Int32 → St → Prop} {p1 : Int32} {p2 : Int32} {p3 : Int32} (E : CallFix p m c cX5_tells 10 s args TB RX5) (hr : meth.sig.returnType = some .int) (hlk : meth.locks = false) (hf : wX5_tells p1 p2 p3 σ Q) (hI : In (D, tysC cy, SF z) (LC ad cy Rr σ) A s H locs) (hl : lv_has ls 10 [(0, .ref (ad 0 99)), (1, .int p1), (2, .int p2), (3, .int p3)]) : W p l e (rmD 6) s m args below meth c H locs 0 0 (PI below args s (D, tysC cy, SF z) A (LC ad cy Rr) Q) (F0 m 0 ls []) := by
  have hx := E.1
  have hb := E.2.1
  unfold wX5_tells at hf
  refine lv_iload_n (pc := 0) hx hb dX5_tells_0 rfl (lv_at hl 1 rfl) ?_
  refine lv_iconst (v := 4) (pc := 1) hx hb dX5_tells_1 rfl ?_
  refine callSI (G := (D, tysC cy, SF z)) (L := LC ad cy Rr) (pc := 2) (As := [.int p1, .int 4]) (rest := []) stabSF E cs0 hl hI (tX5_isIn hf) mwX5_94 (fitD (by decide)) rfl rfl (Nat.le_of_ble_eq_true rfl) dX5_tells_2 (fun r2 σ1 H locs hf hI => ?_)
  refine lv_if_eq (tgt := 32) (pc := 5) hx hb dX5_tells_5 (by decide) (fun c3 => ?_) (fun c3 => ?_)
  · have hf := hf.1 c3
    refine lv_bipush (v := (-2)) (pc := 32) hx hb dX5_tells_32 rfl ?_
    exact rI (pc := 34) E hr hlk hI hf dX5_tells_34
  · have hf := hf.2 c3
    refine lv_iload_n (pc := 8) hx hb dX5_tells_8 rfl (lv_at hl 2 rfl) ?_
    refine lv_aload_n (pc := 9) hx hb dX5_tells_9 rfl (lv_at hl 0 rfl) ?_
    refine g5_0 (pc := 10) E hI rfl lkX5_10 dX5_tells_10 ?_
    refine g4_5 (pc := 13) E hI rfl lkX5_134 dX5_tells_13 ?_
    refine callSI (G := (D, tysC cy, SF z)) (L := LC ad cy Rr) (pc := 16) (As := [.int p2, .int (gI σ1 1 5)]) (rest := []) stabSF E cs0 hl hI (tX5_isIn hf) mwX5_94 (fitD (by decide)) rfl rfl (Nat.le_of_ble_eq_true rfl) dX5_tells_16 (fun r5 σ4 H locs hf hI => ?_)
    refine lv_if_eq (tgt := 32) (pc := 19) hx hb dX5_tells_19 (by decide) (fun c6 => ?_) (fun c6 => ?_)
    · have hf := hf.1 c6
      refine lv_bipush (v := (-2)) (pc := 32) hx hb dX5_tells_32 rfl ?_
      exact rI (pc := 34) E hr hlk hI hf dX5_tells_34
    · have hf := hf.2 c6
      refine lv_iload_n (pc := 22) hx hb dX5_tells_22 rfl (lv_at hl 3 rfl) ?_
      refine lv_if_lt (tgt := 32) (pc := 23) hx hb dX5_tells_23 (by decide) (fun c7 => ?_) (fun c7 => ?_)
      · have hf := hf.1 c7
        refine lv_bipush (v := (-2)) (pc := 32) hx hb dX5_tells_32 rfl ?_
        exact rI (pc := 34) E hr hlk hI hf dX5_tells_34
      · have hf := hf.2 c7
        refine lv_iload_n (pc := 26) hx hb dX5_tells_26 rfl (lv_at hl 3 rfl) ?_
        refine lv_bipush (v := 6) (pc := 27) hx hb dX5_tells_27 rfl ?_
        refine lv_icmp_le (tgt := 35) (pc := 29) hx hb dX5_tells_29 (by decide) (fun c8 => ?_) (fun c8 => ?_)
        · have hf := hf.1 c8
          refine lv_aload_n (pc := 35) hx hb dX5_tells_35 rfl (lv_at hl 0 rfl) ?_
          refine g5_6 (pc := 36) E hI rfl lkX5_42 dX5_tells_36 ?_
          refine lv_iload_n (pc := 39) hx hb dX5_tells_39 rfl (lv_at hl 1 rfl) ?_
          have g9 := hf.1
          have hf := hf.2
          refine a5_6n (pc := 40) E hI rfl g9 dX5_tells_40 (fun o10 eo10 ho10 => ?_)
          have hf := hf o10 eo10
          refine lv_astore (lv' := [(4, .ref (ad o10 99)), (0, .ref (ad 0 99)), (1, .int p1), (2, .int p2), (3, .int p3)]) (pc := 41) hx hb dX5_tells_41 hl (by decide) rfl (fun ls hl => ?_)
          refine lv_aload (pc := 43) hx hb dX5_tells_43 (lv_at hl 0 rfl) ?_
          refine callVI (G := (D, tysC cy, SF z)) (L := LC ad cy Rr) (pc := 45) (As := []) (rest := []) stabSF E cs0 hl hI (tX2_isMissing ho10 hf) mwX5_194 (fitD (by decide)) (at2 ho10) rfl rfl rfl rfl (Nat.le_of_ble_eq_true rfl) dX5_tells_45 (fun r12 σ11 H locs hf hI => ?_)
          refine lv_if_eq (tgt := 54) (pc := 48) hx hb dX5_tells_48 (by decide) (fun c13 => ?_) (fun c13 => ?_)
          · have hf := hf.1 c13
            refine lv_aload (pc := 54) hx hb dX5_tells_54 (lv_at hl 0 rfl) ?_
            refine g2_1 (pc := 56) E hI ho10 lkX5_198 dX5_tells_56 ?_
            refine lv_bipush (v := 20) (pc := 59) hx hb dX5_tells_59 rfl ?_
            refine lv_icmp_le (tgt := 67) (pc := 61) hx hb dX5_tells_61 (by decide) (fun c14 => ?_) (fun c14 => ?_)
            · have hf := hf.1 c14
              refine lv_iload_n (pc := 67) hx hb dX5_tells_67 rfl (lv_at hl 4 rfl) ?_
              refine lv_if_ne (tgt := 82) (pc := 68) hx hb dX5_tells_68 (by decide) (fun c15 => ?_) (fun c15 => ?_)
              · have hf := hf.1 c15
                refine lv_iconst (v := 0) (pc := 82) hx hb dX5_tells_82 rfl ?_
                refine lv_istore (lv' := [(5, .int 0), (4, .ref (ad o10 99)), (0, .ref (ad 0 99)), (1, .int p1), (2, .int p2), (3, .int p3)]) (pc := 83) hx hb dX5_tells_83 hl (by decide) rfl (fun ls hl => ?_)
                refine lv_iconst (v := 0) (pc := 85) hx hb dX5_tells_85 rfl ?_
                refine lv_istore (lv' := [(6, .int 0), (5, .int 0), (4, .ref (ad o10 99)), (0, .ref (ad 0 99)), (1, .int p1), (2, .int p2), (3, .int p3)]) (pc := 86) hx hb dX5_tells_86 hl (by decide) rfl (fun ls hl => ?_)
                refine lv_iconst (v := (-1)) (pc := 88) hx hb dX5_tells_88 rfl ?_
                refine lv_istore (lv' := [(7, .int (-1)), (6, .int 0), (5, .int 0), (4, .ref (ad o10 99)), (0, .ref (ad 0 99)), (1, .int p1), (2, .int p2), (3, .int p3)]) (pc := 89) hx hb dX5_tells_89 hl (by decide) rfl (fun ls hl => ?_)
                refine lv_aload_n (pc := 91) hx hb dX5_tells_91 rfl (lv_at hl 4 rfl) ?_
                refine lv_iload_n (pc := 92) hx hb dX5_tells_92 rfl (lv_at hl 7 rfl) ?_
                refine callVI (G := (D, tysC cy, SF z)) (L := LC ad cy Rr) (pc := 93) (As := [.int p3]) (rest := []) stabSF E cs0 hl hI (tX5_choicesOf hf) mwX5_205 (fitD (by decide)) (at5 rfl) rfl rfl rfl rfl (Nat.le_of_ble_eq_true rfl) dX5_tells_93 (fun r17 σ16 H locs hf hI => ?_)
                refine lv_istore (lv' := [(8, .int r17), (7, .int (-1)), (6, .int 0), (5, .int 0), (4, .ref (ad o10 99)), (0, .ref (ad 0 99)), (1, .int p1), (2, .int p2), (3, .int p3)]) (pc := 96) hx hb dX5_tells_96 hl (by decide) rfl (fun ls hl => ?_)
                refine lv_iconst (v := 0) (pc := 98) hx hb dX5_tells_98 rfl ?_
                refine lv_istore (lv' := [(9, .int 0), (8, .int r17), (7, .int (-1)), (6, .int 0), (5, .int 0), (4, .ref (ad o10 99)), (0, .ref (ad 0 99)), (1, .int p1), (2, .int p2), (3, .int p3)]) (pc := 99) hx hb dX5_tells_99 hl (by decide) rfl (fun ls hl => ?_)
                obtain ⟨n30, hf⟩ := hf
                exact bX5_tells_101 E hr hlk n30 ho10 hf hI (lv_sub hl [6, 8, 9, 5, 4, 3, 2, 1, 0] rfl)
              · have hf := hf.2 c15
                refine lv_aload_n (pc := 71) hx hb dX5_tells_71 rfl (lv_at hl 1 rfl) ?_
                refine callVV (G := (D, tysC cy, SF z)) (L := LC ad cy Rr) (pc := 72) (As := []) (rest := []) stabSF E cs0 hl hI (tX5_think hf) mwX5_137 (fitD (by decide)) (at5 rfl) rfl rfl rfl rfl (Nat.le_of_ble_eq_true rfl) dX5_tells_72 (fun σ31 H locs hf hI => ?_)
                refine lv_aload_n (pc := 75) hx hb dX5_tells_75 rfl (lv_at hl 1 rfl) ?_
                refine lv_aload (pc := 76) hx hb dX5_tells_76 (lv_at hl 0 rfl) ?_
                refine callVI (G := (D, tysC cy, SF z)) (L := LC ad cy Rr) (pc := 78) (As := [.ref (ad o10 99)]) (rest := []) stabSF E cs0 hl hI (tX5_firstOtherwise ho10 hf) mwX5_201 (fitD (by decide)) (at5 rfl) rfl rfl rfl rfl (Nat.le_of_ble_eq_true rfl) dX5_tells_78 (fun r33 σ32 H locs hf hI => ?_)
                exact rI (pc := 81) E hr hlk hI hf dX5_tells_81
            · have hf := hf.2 c14
              refine lv_bipush (v := (-2)) (pc := 64) hx hb dX5_tells_64 rfl ?_
              exact rI (pc := 66) E hr hlk hI hf dX5_tells_66
          · have hf := hf.2 c13
            refine lv_bipush (v := (-11)) (pc := 51) hx hb dX5_tells_51 rfl ?_
            exact rI (pc := 53) E hr hlk hI hf dX5_tells_53
        · have hf := hf.2 c8
          refine lv_bipush (v := (-2)) (pc := 32) hx hb dX5_tells_32 rfl ?_
          exact rI (pc := 34) E hr hlk hI hf dX5_tells_34
theorem tX5_tells {l : Launch} {D : va_G} {z : Nat → Nat} {σ : St} {ad : Nat → Nat → Nat} {cy : Nat → ClassId} {Rr : va_W} {Q : Int32 → St → Prop} {p1 : Int32} {p2 : Int32} {p3 : Int32} (hf : wX5_tells p1 p2 p3 σ Q) : CtI l yX5_tells cX5_tells 10 .int 6 (D, tysC cy, SF z) (LC ad cy Rr) [.ref (ad 0 99), .int p1, .int p2, .int p3] σ Q := mkI (by decide) (Nat.le_of_ble_eq_true rfl) (fun p e s m below meth c A E hr hlk hI ls hl => bX5_tells E hr hlk hf hI hl)

def wX5_drawn (p1 : Int32) (p2 : Int32) (σ : St) (Q : Int32 → St → Prop) : Prop := ((p2 < 0 → Q (-2) σ) ∧ (¬ p2 < 0 → ((p2 ≤ 40 → wX5_thinkDrawn p1 σ (fun σ3 => wX5_filledBehind p2 (-1) σ3 (fun r5 σ4 => Q r5 σ4))) ∧ (¬ p2 ≤ 40 → Q (-2) σ))))
set_option maxRecDepth 100000 in
set_option maxHeartbeats 4000000 in
theorem bX5_drawn {p : Program} {l : Launch} {e : Env} {s : State} {m : MethodId} {args : Array Value} {below : List Frame} {meth : Method} {c : Code} {H : Heap} {locs : List Loc} {ls : Array Slot} {D : va_G} {z : Nat → Nat} {A : Nat → Prop} {σ : St} {ad : Nat → Nat → Nat} {cy : Nat → ClassId} {Rr : va_W} {Q : Int32 → St → Prop} {p1 : Int32} {p2 : Int32} (E : CallFix p m c cX5_drawn 3 s args TB RX5) (hr : meth.sig.returnType = some .int) (hlk : meth.locks = false) (hf : wX5_drawn p1 p2 σ Q) (hI : In (D, tysC cy, SF z) (LC ad cy Rr σ) A s H locs) (hl : lv_has ls 3 [(0, .ref (ad 0 99)), (1, .int p1), (2, .int p2)]) : W p l e (rmD 6) s m args below meth c H locs 0 0 (PI below args s (D, tysC cy, SF z) A (LC ad cy Rr) Q) (F0 m 0 ls []) := by
  have hx := E.1
  have hb := E.2.1
  unfold wX5_drawn at hf
  refine lv_iload_n (pc := 0) hx hb dX5_drawn_0 rfl (lv_at hl 2 rfl) ?_
  refine lv_if_lt (tgt := 10) (pc := 1) hx hb dX5_drawn_1 (by decide) (fun c1 => ?_) (fun c1 => ?_)
  · have hf := hf.1 c1
    refine lv_bipush (v := (-2)) (pc := 10) hx hb dX5_drawn_10 rfl ?_
    exact rI (pc := 12) E hr hlk hI hf dX5_drawn_12
  · have hf := hf.2 c1
    refine lv_iload_n (pc := 4) hx hb dX5_drawn_4 rfl (lv_at hl 2 rfl) ?_
    refine lv_bipush (v := 40) (pc := 5) hx hb dX5_drawn_5 rfl ?_
    refine lv_icmp_le (tgt := 13) (pc := 7) hx hb dX5_drawn_7 (by decide) (fun c2 => ?_) (fun c2 => ?_)
    · have hf := hf.1 c2
      refine lv_aload_n (pc := 13) hx hb dX5_drawn_13 rfl (lv_at hl 0 rfl) ?_
      refine lv_iload_n (pc := 14) hx hb dX5_drawn_14 rfl (lv_at hl 1 rfl) ?_
      refine callVV (G := (D, tysC cy, SF z)) (L := LC ad cy Rr) (pc := 15) (As := [.int p1]) (rest := []) stabSF E cs0 hl hI (tX5_thinkDrawn hf) mwX5_217 (fitD (by decide)) (at5 rfl) rfl rfl rfl rfl (Nat.le_of_ble_eq_true rfl) dX5_drawn_15 (fun σ3 H locs hf hI => ?_)
      refine lv_aload_n (pc := 18) hx hb dX5_drawn_18 rfl (lv_at hl 0 rfl) ?_
      refine lv_iload_n (pc := 19) hx hb dX5_drawn_19 rfl (lv_at hl 2 rfl) ?_
      refine lv_iconst (v := (-1)) (pc := 20) hx hb dX5_drawn_20 rfl ?_
      refine callVI (G := (D, tysC cy, SF z)) (L := LC ad cy Rr) (pc := 21) (As := [.int p2, .int (-1)]) (rest := []) stabSF E cs0 hl hI (tX5_filledBehind hf) mwX5_158 (fitD (by decide)) (at5 rfl) rfl rfl rfl rfl (Nat.le_of_ble_eq_true rfl) dX5_drawn_21 (fun r5 σ4 H locs hf hI => ?_)
      exact rI (pc := 24) E hr hlk hI hf dX5_drawn_24
    · have hf := hf.2 c2
      refine lv_bipush (v := (-2)) (pc := 10) hx hb dX5_drawn_10 rfl ?_
      exact rI (pc := 12) E hr hlk hI hf dX5_drawn_12
theorem tX5_drawn {l : Launch} {D : va_G} {z : Nat → Nat} {σ : St} {ad : Nat → Nat → Nat} {cy : Nat → ClassId} {Rr : va_W} {Q : Int32 → St → Prop} {p1 : Int32} {p2 : Int32} (hf : wX5_drawn p1 p2 σ Q) : CtI l yX5_drawn cX5_drawn 3 .int 6 (D, tysC cy, SF z) (LC ad cy Rr) [.ref (ad 0 99), .int p1, .int p2] σ Q := mkI (by decide) (Nat.le_of_ble_eq_true rfl) (fun p e s m below meth c A E hr hlk hI ls hl => bX5_drawn E hr hlk hf hI hl)

def wX5_chance_j70 (a1 : Int32) (a2 : Int32) (a3 : Int32) (a4 : Int32) (a5 : Int32) (a6 : Int32) (σ : St) (K : Int32 → Int32 → Int32 → Int32 → Int32 → Int32 → St → Prop) (Q : Int64 → St → Prop) : Prop := ∀ x14 : Int32, x14 = a6 + 1 → (K a1 a2 a3 a4 a5 x14 σ)
set_option maxRecDepth 100000 in
set_option maxHeartbeats 4000000 in
theorem bX5_chance_70 {p : Program} {l : Launch} {e : Env} {s : State} {m : MethodId} {args : Array Value} {below : List Frame} {meth : Method} {c : Code} {H : Heap} {locs : List Loc} {ls : Array Slot} {D : va_G} {z : Nat → Nat} {A : Nat → Prop} {σ : St} {ad : Nat → Nat → Nat} {cy : Nat → ClassId} {Rr : va_W} {Q : Int64 → St → Prop} {a1 : Int32} {a2 : Int32} {a3 : Int32} {a4 : Int32} {a5 : Int32} {a6 : Int32} {K : Int32 → Int32 → Int32 → Int32 → Int32 → Int32 → St → Prop} (E : CallFix p m c cX5_chance 7 s args TB RX5) (hr : meth.sig.returnType = some .long) (hlk : meth.locks = false) (hK : ∀ (a1 : Int32) (a2 : Int32) (a3 : Int32) (a4 : Int32) (a5 : Int32) (a6 : Int32) (σ : St) (H : Heap) (locs : List Loc) (ls : Array Slot), K a1 a2 a3 a4 a5 a6 σ → In (D, tysC cy, SF z) (LC ad cy Rr σ) A s H locs → lv_has ls 7 [(0, .ref (ad 0 99)), (1, .int a1), (2, .int a2), (3, .int a3), (4, .int a4), (5, .int a5), (6, .int a6)] → W p l e (rmD 6) s m args below meth c H locs 0 0 (PJ below args s (D, tysC cy, SF z) A (LC ad cy Rr) Q) (F0 m 42 ls [])) (hf : wX5_chance_j70 a1 a2 a3 a4 a5 a6 σ K Q) (hI : In (D, tysC cy, SF z) (LC ad cy Rr σ) A s H locs) (hl : lv_has ls 7 [(0, .ref (ad 0 99)), (1, .int a1), (2, .int a2), (3, .int a3), (4, .int a4), (5, .int a5), (6, .int a6)]) : W p l e (rmD 6) s m args below meth c H locs 0 0 (PJ below args s (D, tysC cy, SF z) A (LC ad cy Rr) Q) (F0 m 70 ls []) := by
  have hx := E.1
  have hb := E.2.1
  unfold wX5_chance_j70 at hf
  obtain ⟨x14, ex14⟩ : ∃ y : Int32, y = a6 + 1 := ⟨_, rfl⟩
  have hf := hf x14 ex14
  refine lv_iinc (v := x14) (lv' := [(6, .int x14), (0, .ref (ad 0 99)), (1, .int a1), (2, .int a2), (3, .int a3), (4, .int a4), (5, .int a5)]) (pc := 70) hx hb dX5_chance_70 hl (k := 6) rfl (by rw [ex14]; rfl) (by decide) rfl (fun ls hl => ?_)
  refine lv_goto (tgt := 42) (pc := 73) hx hb dX5_chance_73 (by decide) ?_
  exact hK _ _ _ _ _ _ _ _ _ _ hf hI (lv_sub hl [1, 2, 3, 4, 5, 6, 0] rfl)
def wX5_chance_l42s (ih : Int32 → Int32 → Int32 → Int32 → Int32 → Int32 → St → Prop) (a1 : Int32) (a2 : Int32) (a3 : Int32) (a4 : Int32) (a5 : Int32) (a6 : Int32) (σ : St) (Q : Int64 → St → Prop) : Prop := ((a2 ≤ a6 → wX5_lowest a5 a2 a4 σ (fun r9 σ8 => Q r9 σ8)) ∧ (¬ a2 ≤ a6 → wX5_thinkDrawn (a1 + a6) σ (fun σ10 => wX5_filledBehind 12 (-1) σ10 (fun r12 σ11 => ((r12 < a3 → (wX5_chance_j70 a1 a2 a3 a4 a5 a6 σ11 ih Q)) ∧ (¬ r12 < a3 → ∀ x15 : Int32, x15 = a5 + 1 → (wX5_chance_j70 a1 a2 a3 a4 x15 a6 σ11 ih Q)))))))
def wX5_chance_l42 (n : Nat) : Int32 → Int32 → Int32 → Int32 → Int32 → Int32 → St → (Int64 → St → Prop) → Prop := @Nat.rec (fun _ => Int32 → Int32 → Int32 → Int32 → Int32 → Int32 → St → (Int64 → St → Prop) → Prop) (fun _ _ _ _ _ _ _ _ => False) (fun _ ih a1 a2 a3 a4 a5 a6 σ Q => wX5_chance_l42s (fun a1 a2 a3 a4 a5 a6 σ => ih a1 a2 a3 a4 a5 a6 σ Q) a1 a2 a3 a4 a5 a6 σ Q) n
set_option maxRecDepth 100000 in
set_option maxHeartbeats 4000000 in
theorem bX5_chance_42 {p : Program} {l : Launch} {e : Env} {s : State} {m : MethodId} {args : Array Value} {below : List Frame} {meth : Method} {c : Code} {D : va_G} {z : Nat → Nat} {A : Nat → Prop} {ad : Nat → Nat → Nat} {cy : Nat → ClassId} {Rr : va_W} {Q : Int64 → St → Prop} (E : CallFix p m c cX5_chance 7 s args TB RX5) (hr : meth.sig.returnType = some .long) (hlk : meth.locks = false) : ∀ (n : Nat) {a1 : Int32} {a2 : Int32} {a3 : Int32} {a4 : Int32} {a5 : Int32} {a6 : Int32} {σ : St} {H : Heap} {locs : List Loc} {ls : Array Slot}, wX5_chance_l42 n a1 a2 a3 a4 a5 a6 σ Q → In (D, tysC cy, SF z) (LC ad cy Rr σ) A s H locs → lv_has ls 7 [(0, .ref (ad 0 99)), (1, .int a1), (2, .int a2), (3, .int a3), (4, .int a4), (5, .int a5), (6, .int a6)] → W p l e (rmD 6) s m args below meth c H locs 0 0 (PJ below args s (D, tysC cy, SF z) A (LC ad cy Rr) Q) (F0 m 42 ls []) := by
  have hx := E.1
  have hb := E.2.1
  intro n
  induction n with
  | zero => intro a1 a2 a3 a4 a5 a6 σ H locs ls hf hI hl; exact False.elim hf
  | succ n ih =>
    intro a1 a2 a3 a4 a5 a6 σ H locs ls hf hI hl
    have hf : wX5_chance_l42s (fun a1 a2 a3 a4 a5 a6 σ => wX5_chance_l42 n a1 a2 a3 a4 a5 a6 σ Q) a1 a2 a3 a4 a5 a6 σ Q := hf
    unfold wX5_chance_l42s at hf
    refine lv_iload (pc := 42) hx hb dX5_chance_42 (lv_at hl 6 rfl) ?_
    refine lv_iload_n (pc := 44) hx hb dX5_chance_44 rfl (lv_at hl 2 rfl) ?_
    refine lv_icmp_ge (tgt := 76) (pc := 45) hx hb dX5_chance_45 (by decide) (fun c7 => ?_) (fun c7 => ?_)
    · have hf := hf.1 c7
      refine lv_iload (pc := 76) hx hb dX5_chance_76 (lv_at hl 5 rfl) ?_
      refine lv_iload_n (pc := 78) hx hb dX5_chance_78 rfl (lv_at hl 2 rfl) ?_
      refine lv_iload (pc := 79) hx hb dX5_chance_79 (lv_at hl 4 rfl) ?_
      refine callSJ (G := (D, tysC cy, SF z)) (L := LC ad cy Rr) (pc := 81) (As := [.int a5, .int a2, .int a4]) (rest := []) stabSF E cs0 hl hI (tX5_lowest hf) mwX5_190 (fitD (by decide)) rfl rfl (Nat.le_of_ble_eq_true rfl) dX5_chance_81 (fun r9 σ8 H locs hf hI => ?_)
      exact rJ (pc := 84) E hr hlk hI hf dX5_chance_84
    · have hf := hf.2 c7
      refine lv_aload_n (pc := 48) hx hb dX5_chance_48 rfl (lv_at hl 0 rfl) ?_
      refine lv_iload_n (pc := 49) hx hb dX5_chance_49 rfl (lv_at hl 1 rfl) ?_
      refine lv_iload (pc := 50) hx hb dX5_chance_50 (lv_at hl 6 rfl) ?_
      refine lv_iadd (pc := 52) hx hb dX5_chance_52 ?_
      refine callVV (G := (D, tysC cy, SF z)) (L := LC ad cy Rr) (pc := 53) (As := [.int (a1 + a6)]) (rest := []) stabSF E cs0 hl hI (tX5_thinkDrawn hf) mwX5_217 (fitD (by decide)) (at5 rfl) rfl rfl rfl rfl (Nat.le_of_ble_eq_true rfl) dX5_chance_53 (fun σ10 H locs hf hI => ?_)
      refine lv_aload_n (pc := 56) hx hb dX5_chance_56 rfl (lv_at hl 0 rfl) ?_
      refine lv_bipush (v := 12) (pc := 57) hx hb dX5_chance_57 rfl ?_
      refine lv_iconst (v := (-1)) (pc := 59) hx hb dX5_chance_59 rfl ?_
      refine callVI (G := (D, tysC cy, SF z)) (L := LC ad cy Rr) (pc := 60) (As := [.int 12, .int (-1)]) (rest := []) stabSF E cs0 hl hI (tX5_filledBehind hf) mwX5_158 (fitD (by decide)) (at5 rfl) rfl rfl rfl rfl (Nat.le_of_ble_eq_true rfl) dX5_chance_60 (fun r12 σ11 H locs hf hI => ?_)
      refine lv_iload_n (pc := 63) hx hb dX5_chance_63 rfl (lv_at hl 3 rfl) ?_
      refine lv_icmp_lt (tgt := 70) (pc := 64) hx hb dX5_chance_64 (by decide) (fun c13 => ?_) (fun c13 => ?_)
      · have hf := hf.1 c13
        exact bX5_chance_70 E hr hlk (fun _ _ _ _ _ _ _ _ _ _ hf hI hl => ih hf hI hl) hf hI (lv_sub hl [0, 1, 2, 3, 4, 5, 6] rfl)
      · have hf := hf.2 c13
        obtain ⟨x15, ex15⟩ : ∃ y : Int32, y = a5 + 1 := ⟨_, rfl⟩
        have hf := hf x15 ex15
        refine lv_iinc (v := x15) (lv' := [(5, .int x15), (0, .ref (ad 0 99)), (1, .int a1), (2, .int a2), (3, .int a3), (4, .int a4), (6, .int a6)]) (pc := 67) hx hb dX5_chance_67 hl (k := 5) rfl (by rw [ex15]; rfl) (by decide) rfl (fun ls hl => ?_)
        exact bX5_chance_70 E hr hlk (fun _ _ _ _ _ _ _ _ _ _ hf hI hl => ih hf hI hl) hf hI (lv_sub hl [1, 2, 3, 4, 5, 0, 6] rfl)
def wX5_chance (p1 : Int32) (p2 : Int32) (p3 : Int32) (p4 : Int32) (σ : St) (Q : Int64 → St → Prop) : Prop := ((p2 < 1 → Q (-4611686018427387904) σ) ∧ (¬ p2 < 1 → ((20 < p2 → Q (-4611686018427387904) σ) ∧ (¬ 20 < p2 → ((p3 < 0 → Q (-4611686018427387904) σ) ∧ (¬ p3 < 0 → ((64 < p3 → Q (-4611686018427387904) σ) ∧ (¬ 64 < p3 → ((p4 < 0 → Q (-4611686018427387904) σ) ∧ (¬ p4 < 0 → ((p4 ≤ 1 → ∃ n16 : Nat, wX5_chance_l42 n16 p1 p2 p3 p4 0 0 σ Q) ∧ (¬ p4 ≤ 1 → Q (-4611686018427387904) σ))))))))))))
set_option maxRecDepth 100000 in
set_option maxHeartbeats 4000000 in
theorem bX5_chance {p : Program} {l : Launch} {e : Env} {s : State} {m : MethodId} {args : Array Value} {below : List Frame} {meth : Method} {c : Code} {H : Heap} {locs : List Loc} {ls : Array Slot} {D : va_G} {z : Nat → Nat} {A : Nat → Prop} {σ : St} {ad : Nat → Nat → Nat} {cy : Nat → ClassId} {Rr : va_W} {Q : Int64 → St → Prop} {p1 : Int32} {p2 : Int32} {p3 : Int32} {p4 : Int32} (E : CallFix p m c cX5_chance 7 s args TB RX5) (hr : meth.sig.returnType = some .long) (hlk : meth.locks = false) (hf : wX5_chance p1 p2 p3 p4 σ Q) (hI : In (D, tysC cy, SF z) (LC ad cy Rr σ) A s H locs) (hl : lv_has ls 7 [(0, .ref (ad 0 99)), (1, .int p1), (2, .int p2), (3, .int p3), (4, .int p4)]) : W p l e (rmD 6) s m args below meth c H locs 0 0 (PJ below args s (D, tysC cy, SF z) A (LC ad cy Rr) Q) (F0 m 0 ls []) := by
  have hx := E.1
  have hb := E.2.1
  unfold wX5_chance at hf
  refine lv_iload_n (pc := 0) hx hb dX5_chance_0 rfl (lv_at hl 2 rfl) ?_
  refine lv_iconst (v := 1) (pc := 1) hx hb dX5_chance_1 rfl ?_
  refine lv_icmp_lt (tgt := 32) (pc := 2) hx hb dX5_chance_2 (by decide) (fun c1 => ?_) (fun c1 => ?_)
  · have hf := hf.1 c1
    refine lv_ldc2 (pc := 32) E.1 E.2.1 E.2.2.2.1 (E.2.2.2.2 _ kcX5_119) dX5_chance_32 ?_
    exact rJ (pc := 35) E hr hlk hI hf dX5_chance_35
  · have hf := hf.2 c1
    refine lv_iload_n (pc := 5) hx hb dX5_chance_5 rfl (lv_at hl 2 rfl) ?_
    refine lv_bipush (v := 20) (pc := 6) hx hb dX5_chance_6 rfl ?_
    refine lv_icmp_gt (tgt := 32) (pc := 8) hx hb dX5_chance_8 (by decide) (fun c2 => ?_) (fun c2 => ?_)
    · have hf := hf.1 c2
      refine lv_ldc2 (pc := 32) E.1 E.2.1 E.2.2.2.1 (E.2.2.2.2 _ kcX5_119) dX5_chance_32 ?_
      exact rJ (pc := 35) E hr hlk hI hf dX5_chance_35
    · have hf := hf.2 c2
      refine lv_iload_n (pc := 11) hx hb dX5_chance_11 rfl (lv_at hl 3 rfl) ?_
      refine lv_if_lt (tgt := 32) (pc := 12) hx hb dX5_chance_12 (by decide) (fun c3 => ?_) (fun c3 => ?_)
      · have hf := hf.1 c3
        refine lv_ldc2 (pc := 32) E.1 E.2.1 E.2.2.2.1 (E.2.2.2.2 _ kcX5_119) dX5_chance_32 ?_
        exact rJ (pc := 35) E hr hlk hI hf dX5_chance_35
      · have hf := hf.2 c3
        refine lv_iload_n (pc := 15) hx hb dX5_chance_15 rfl (lv_at hl 3 rfl) ?_
        refine lv_bipush (v := 64) (pc := 16) hx hb dX5_chance_16 rfl ?_
        refine lv_icmp_gt (tgt := 32) (pc := 18) hx hb dX5_chance_18 (by decide) (fun c4 => ?_) (fun c4 => ?_)
        · have hf := hf.1 c4
          refine lv_ldc2 (pc := 32) E.1 E.2.1 E.2.2.2.1 (E.2.2.2.2 _ kcX5_119) dX5_chance_32 ?_
          exact rJ (pc := 35) E hr hlk hI hf dX5_chance_35
        · have hf := hf.2 c4
          refine lv_iload (pc := 21) hx hb dX5_chance_21 (lv_at hl 4 rfl) ?_
          refine lv_if_lt (tgt := 32) (pc := 23) hx hb dX5_chance_23 (by decide) (fun c5 => ?_) (fun c5 => ?_)
          · have hf := hf.1 c5
            refine lv_ldc2 (pc := 32) E.1 E.2.1 E.2.2.2.1 (E.2.2.2.2 _ kcX5_119) dX5_chance_32 ?_
            exact rJ (pc := 35) E hr hlk hI hf dX5_chance_35
          · have hf := hf.2 c5
            refine lv_iload (pc := 26) hx hb dX5_chance_26 (lv_at hl 4 rfl) ?_
            refine lv_iconst (v := 1) (pc := 28) hx hb dX5_chance_28 rfl ?_
            refine lv_icmp_le (tgt := 36) (pc := 29) hx hb dX5_chance_29 (by decide) (fun c6 => ?_) (fun c6 => ?_)
            · have hf := hf.1 c6
              refine lv_iconst (v := 0) (pc := 36) hx hb dX5_chance_36 rfl ?_
              refine lv_istore (lv' := [(5, .int 0), (0, .ref (ad 0 99)), (1, .int p1), (2, .int p2), (3, .int p3), (4, .int p4)]) (pc := 37) hx hb dX5_chance_37 hl (by decide) rfl (fun ls hl => ?_)
              refine lv_iconst (v := 0) (pc := 39) hx hb dX5_chance_39 rfl ?_
              refine lv_istore (lv' := [(6, .int 0), (5, .int 0), (0, .ref (ad 0 99)), (1, .int p1), (2, .int p2), (3, .int p3), (4, .int p4)]) (pc := 40) hx hb dX5_chance_40 hl (by decide) rfl (fun ls hl => ?_)
              obtain ⟨n16, hf⟩ := hf
              exact bX5_chance_42 E hr hlk n16 hf hI (lv_sub hl [2, 3, 4, 5, 6, 1, 0] rfl)
            · have hf := hf.2 c6
              refine lv_ldc2 (pc := 32) E.1 E.2.1 E.2.2.2.1 (E.2.2.2.2 _ kcX5_119) dX5_chance_32 ?_
              exact rJ (pc := 35) E hr hlk hI hf dX5_chance_35
theorem tX5_chance {l : Launch} {D : va_G} {z : Nat → Nat} {σ : St} {ad : Nat → Nat → Nat} {cy : Nat → ClassId} {Rr : va_W} {Q : Int64 → St → Prop} {p1 : Int32} {p2 : Int32} {p3 : Int32} {p4 : Int32} (hf : wX5_chance p1 p2 p3 p4 σ Q) : CtJ l yX5_chance cX5_chance 7 6 (D, tysC cy, SF z) (LC ad cy Rr) [.ref (ad 0 99), .int p1, .int p2, .int p3, .int p4] σ Q := mkJ (by decide) (Nat.le_of_ble_eq_true rfl) (fun p e s m below meth c A E hr hlk hI ls hl => bX5_chance E hr hlk hf hI hl)
