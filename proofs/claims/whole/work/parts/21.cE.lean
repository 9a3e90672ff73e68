/-! System.arraycopy of two rows of SHEETS -/
set_option maxRecDepth 100000 in
theorem lkAC : Cond.methodLink RX5 233 arraycopyName ∈ TB := inT3 (List.mem_of_getElem? (i := 144) rfl) rfl
set_option maxRecDepth 100000 in
theorem lkAN : Cond.native arraycopyName ∈ TB := inT3 (List.mem_of_getElem? (i := 146) rfl) rfl
set_option maxRecDepth 100000 in
theorem lkAS : Cond.static arraycopyName ∈ TB := inT3 (List.mem_of_getElem? (i := 145) rfl) rfl
set_option maxRecDepth 100000 in
theorem lkAI : Cond.initialized "java/lang/System" ∈ TB := inT1 (List.mem_of_getElem? (i := 14) rfl) rfl
theorem nfw : nativeFrameWords "java/lang/System" "arraycopy" 5 + 11 ≤ 90 := by decide +kernel
section Cpy
variable {p : Program} {l : Launch} {e : Env} {R : Room} {s : State} {m : MethodId} {args : Array Value} {below : List Frame} {meth : Method} {c : Code} {H : Heap} {locs : List Loc} {cells slots : Nat} {Q : State → Prop} {cc : ByteArray} {nL pc : Nat} {ls : Array Slot} {rest : List Value} {D : va_G} {F : (Nat → Prop) → State → Prop} {A : Nat → Prop} {σ : St} {ad : Nat → Nat → Nat} {cy : Nat → ClassId} {Rr : va_W} {o1 o2 : Nat} {lv0 : List (Nat × Value)}
theorem rCopy {sp dp n : Int32} (E : CallFix p m c cc nL s args TB RX5) (hls : lv_has ls nL lv0) (hI : In (D, tysC cy, F) (LC ad cy Rr σ) A s H locs) (h1 : kd o1 = 2) (h2 : kd o2 = 2) (hg : ¬ sp < 0 ∧ ¬ dp < 0 ∧ ¬ n < 0 ∧ sp.toNatClampNeg + n.toNatClampNeg ≤ 40 ∧ dp.toNatClampNeg + n.toNatClampNeg ≤ 40) (hd : fitR 0 R) (hW : (rest.map fun v => v.category).sum ≤ 8) (hdg : decode cc pc = .ok (.invokestatic 233, 3))
    (kk : ∀ (H1 : Heap) (locs1 : List Loc) (σ1 : St), σ1 = sAr σ o2 0 (va_cpy (gA σ o1 0) (gA σ o2 0) sp.toNatClampNeg dp.toNatClampNeg n.toNatClampNeg) → In (D, tysC cy, F) (LC ad cy Rr σ1) A s H1 locs1 → W p l e R s m args below meth c H1 locs1 cells slots Q (F0 m (pc + 3) ls rest)) : W p l e R s m args below meth c H locs cells slots Q (F0 m pc ls (.int n :: .int dp :: .ref (ad o2 0) :: .int sp :: .ref (ad o1 0) :: rest)) := by
  obtain ⟨q0, he⟩ := aa2_0 (ad := ad) (cy := cy) (Rr := Rr) (σ := σ) h1
  obtain ⟨q1, he1, hs⟩ := wa2_0 (ad := ad) (cy := cy) (Rr := Rr) (σ := σ) h2 (va_cpy (gA σ o1 0) (gA σ o2 0) sp.toNatClampNeg dp.toNatClampNeg n.toNatClampNeg)
  refine va_copyi E.1 E.2.1 (by rw [E.2.2.1, hls.1]) E.2.2.2.1 (E.2.2.2.2 _ lkAC) (E.2.2.2.2 _ lkAN) (E.2.2.2.2 _ lkAS) (E.2.2.2.2 _ lkAI) hI.2.2.2.1 hI.1 hI.2.1 hI.2.2.1 q0 q1 0 0 he he1 rfl rfl rfl hg.1 hg.2.1 hg.2.2.1 hg.2.2.2.1 hg.2.2.2.2 (fun _ _ => rfl) (by have := hd.1; omega) (by have h9 := hd.2; have e9 := nfw; omega) hdg (fun H1 locs1 hP hD hS => ?_)
  rw [hs] at hP hD
  exact kk H1 locs1 _ rfl ⟨hP, hD, hS, hI.2.2.2.1, hI.2.2.2.2⟩
end Cpy
def wX5_copy (p1 : Int32) (p2 : Int32) (p3 : Int32) (p4 : Int32) (p5 : Int32) (σ : St) (Q : Int32 → St → Prop) : Prop := wX5_isIn p1 4 σ (fun r2 σ1 => ((r2 = 0 → Q (-2) σ1) ∧ (¬ r2 = 0 → wX5_isIn p3 4 σ1 (fun r5 σ4 => ((¬ r5 = 0 → vp_in p1 4 ∧ ∀ o8 : Nat, o8 = 12 + p1.toNatClampNeg → vp_in p3 4 ∧ ∀ o10 : Nat, o10 = 12 + p3.toNatClampNeg → wX2_isMissing o8 σ4 (fun r12 σ11 => ((¬ r12 = 0 → Q (-11) σ11) ∧ (r12 = 0 → wX2_isMissing o10 σ11 (fun r15 σ14 => ((r15 = 0 → (((gI σ14 o8 2) = (gI σ14 o10 2) → wX2_hasRow o8 p2 p5 σ14 (fun r19 σ18 => ((r19 = 0 → Q (-12) σ18) ∧ (¬ r19 = 0 → wX2_hasRow o10 p4 p5 σ18 (fun r22 σ21 => ((¬ r22 = 0 → (¬ p2 < 0 ∧ ¬ p4 < 0 ∧ ¬ p5 < 0 ∧ p2.toNatClampNeg + p5.toNatClampNeg ≤ 40 ∧ p4.toNatClampNeg + p5.toNatClampNeg ≤ 40) ∧ ∀ σ25 : St, σ25 = sAr σ21 o10 0 (va_cpy (gA σ21 o8 0) (gA σ21 o10 0) p2.toNatClampNeg p4.toNatClampNeg p5.toNatClampNeg) → Q p5 σ25) ∧ (r22 = 0 → Q (-12) σ21))))))) ∧ (¬ (gI σ14 o8 2) = (gI σ14 o10 2) → Q (-13) σ14))) ∧ (¬ r15 = 0 → Q (-11) σ14))))))) ∧ (r5 = 0 → Q (-2) σ4))))))
set_option maxRecDepth 100000 in
set_option maxHeartbeats 4000000 in
theorem bX5_copy {p : Program} {l : Launch} {e : Env} {s : State} {m : MethodId} {args : Array Value} {below : List Frame} {meth : Method} {c : Code} {H : Heap} {locs : List Loc} {ls : Array Slot} {D : va_G} {z : Nat → Nat} {A : Nat → Prop} {σ : St} {ad : Nat → Nat → Nat} {cy : Nat → ClassId} {Rr : va_W} {Q : Int32 → St → Prop} {p1 : Int32} {p2 : Int32} {p3 : Int32} {p4 : Int32} {p5 : Int32} (E : CallFix p m c cX5_copy 8 s args TB RX5) (hr : meth.sig.returnType = some .int) (hlk : meth.locks = false) (hf : wX5_copy p1 p2 p3 p4 p5 σ Q) (hI : In (D, tysC cy, SF z) (LC ad cy Rr σ) A s H locs) (hl : lv_has ls 8 [(0, .ref (ad 0 99)), (1, .int p1), (2, .int p2), (3, .int p3), (4, .int p4), (5, .int p5)]) : W p l e (rmD 2) s m args below meth c H locs 0 0 (PI below args s (D, tysC cy, SF z) A (LC ad cy Rr) Q) (F0 m 0 ls []) := by
  have hx := E.1
  have hb := E.2.1
  unfold wX5_copy at hf
  refine lv_iload_n (pc := 0) hx hb dX5_copy_0 rfl (lv_at hl 1 rfl) ?_
  refine lv_iconst (v := 4) (pc := 1) hx hb dX5_copy_1 rfl ?_
  refine callSI (G := (D, tysC cy, SF z)) (L := LC ad cy Rr) (pc := 2) (As := [.int p1, .int 4]) (rest := []) stabSF E cs0 hl hI (tX5_isIn hf) mwX5_94 (fitD (by decide)) rfl rfl (Nat.le_of_ble_eq_true rfl) dX5_copy_2 (fun r2 σ1 H locs hf hI => ?_)
  refine lv_if_eq (tgt := 16) (pc := 5) hx hb dX5_copy_5 (by decide) (fun c3 => ?_) (fun c3 => ?_)
  · have hf := hf.1 c3
    refine lv_bipush (v := (-2)) (pc := 16) hx hb dX5_copy_16 rfl ?_
    exact rI (pc := 18) E hr hlk hI hf dX5_copy_18
  · have hf := hf.2 c3
    refine lv_iload_n (pc := 8) hx hb dX5_copy_8 rfl (lv_at hl 3 rfl) ?_
    refine lv_iconst (v := 4) (pc := 9) hx hb dX5_copy_9 rfl ?_
    refine callSI (G := (D, tysC cy, SF z)) (L := LC ad cy Rr) (pc := 10) (As := [.int p3, .int 4]) (rest := []) stabSF E cs0 hl hI (tX5_isIn hf) mwX5_94 (fitD (by decide)) rfl rfl (Nat.le_of_ble_eq_true rfl) dX5_copy_10 (fun r5 σ4 H locs hf hI => ?_)
    refine lv_if_ne (tgt := 19) (pc := 13) hx hb dX5_copy_13 (by decide) (fun c6 => ?_) (fun c6 => ?_)
    · have hf := hf.1 c6
      refine lv_aload_n (pc := 19) hx hb dX5_copy_19 rfl (lv_at hl 0 rfl) ?_
      refine g5_6 (pc := 20) E hI rfl lkX5_42 dX5_copy_20 ?_
      refine lv_iload_n (pc := 23) hx hb dX5_copy_23 rfl (lv_at hl 1 rfl) ?_
      have g7 := hf.1
      have hf := hf.2
      refine a5_6n (pc := 24) E hI rfl g7 dX5_copy_24 (fun o8 eo8 ho8 => ?_)
      have hf := hf o8 eo8
      refine lv_astore (lv' := [(6, .ref (ad o8 99)), (0, .ref (ad 0 99)), (1, .int p1), (2, .int p2), (3, .int p3), (4, .int p4), (5, .int p5)]) (pc := 25) hx hb dX5_copy_25 hl (by decide) rfl (fun ls hl => ?_)
      refine lv_aload_n (pc := 27) hx hb dX5_copy_27 rfl (lv_at hl 1 rfl) ?_
      refine g5_6 (pc := 28) E hI rfl lkX5_42 dX5_copy_28 ?_
      refine lv_iload_n (pc := 31) hx hb dX5_copy_31 rfl (lv_at hl 4 rfl) ?_
      have g9 := hf.1
      have hf := hf.2
      refine a5_6n (pc := 32) E hI rfl g9 dX5_copy_32 (fun o10 eo10 ho10 => ?_)
      have hf := hf o10 eo10
      refine lv_astore (lv' := [(7, .ref (ad o10 99)), (6, .ref (ad o8 99)), (0, .ref (ad 0 99)), (1, .int p1), (2, .int p2), (3, .int p3), (4, .int p4), (5, .int p5)]) (pc := 33) hx hb dX5_copy_33 hl (by decide) rfl (fun ls hl => ?_)
      refine lv_aload (pc := 35) hx hb dX5_copy_35 (lv_at hl 1 rfl) ?_
      refine callVI (G := (D, tysC cy, SF z)) (L := LC ad cy Rr) (pc := 37) (As := []) (rest := []) stabSF E cs0 hl hI (tX2_isMissing ho8 hf) mwX5_194 (fitD (by decide)) (at2 ho8) rfl rfl rfl rfl (Nat.le_of_ble_eq_true rfl) dX5_copy_37 (fun r12 σ11 H locs hf hI => ?_)
      refine lv_if_ne (tgt := 51) (pc := 40) hx hb dX5_copy_40 (by decide) (fun c13 => ?_) (fun c13 => ?_)
      · have hf := hf.1 c13
        refine lv_bipush (v := (-11)) (pc := 51) hx hb dX5_copy_51 rfl ?_
        exact rI (pc := 53) E hr hlk hI hf dX5_copy_53
      · have hf := hf.2 c13
        refine lv_aload (pc := 43) hx hb dX5_copy_43 (lv_at hl 0 rfl) ?_
        refine callVI (G := (D, tysC cy, SF z)) (L := LC ad cy Rr) (pc := 45) (As := []) (rest := []) stabSF E cs0 hl hI (tX2_isMissing ho10 hf) mwX5_194 (fitD (by decide)) (at2 ho10) rfl rfl rfl rfl (Nat.le_of_ble_eq_true rfl) dX5_copy_45 (fun r15 σ14 H locs hf hI => ?_)
        refine lv_if_eq (tgt := 54) (pc := 48) hx hb dX5_copy_48 (by decide) (fun c16 => ?_) (fun c16 => ?_)
        · have hf := hf.1 c16
          refine lv_aload (pc := 54) hx hb dX5_copy_54 (lv_at hl 1 rfl) ?_
          refine g2_2 (pc := 56) E hI ho8 lkX5_224 dX5_copy_56 ?_
          refine lv_aload (pc := 59) hx hb dX5_copy_59 (lv_at hl 0 rfl) ?_
          refine g2_2 (pc := 61) E hI ho10 lkX5_224 dX5_copy_61 ?_
          refine lv_icmp_eq (tgt := 70) (pc := 64) hx hb dX5_copy_64 (by decide) (fun c17 => ?_) (fun c17 => ?_)
          · have hf := hf.1 c17
            refine lv_aload (pc := 70) hx hb dX5_copy_70 (lv_at hl 1 rfl) ?_
            refine lv_iload_n (pc := 72) hx hb dX5_copy_72 rfl (lv_at hl 4 rfl) ?_
            refine lv_iload (pc := 73) hx hb dX5_copy_73 (lv_at hl 7 rfl) ?_
            refine callVI (G := (D, tysC cy, SF z)) (L := LC ad cy Rr) (pc := 75) (As := [.int p2, .int p5]) (rest := []) stabSF E cs0 hl hI (tX2_hasRow ho8 hf) mwX5_227 (fitD (by decide)) (at2 ho8) rfl rfl rfl rfl (Nat.le_of_ble_eq_true rfl) dX5_copy_75 (fun r19 σ18 H locs hf hI => ?_)
            refine lv_if_eq (tgt := 93) (pc := 78) hx hb dX5_copy_78 (by decide) (fun c20 => ?_) (fun c20 => ?_)
            · have hf := hf.1 c20
              refine lv_bipush (v := (-12)) (pc := 93) hx hb dX5_copy_93 rfl ?_
              exact rI (pc := 95) E hr hlk hI hf dX5_copy_95
            · have hf := hf.2 c20
              refine lv_aload (pc := 81) hx hb dX5_copy_81 (lv_at hl 0 rfl) ?_
              refine lv_iload (pc := 83) hx hb dX5_copy_83 (lv_at hl 6 rfl) ?_
              refine lv_iload (pc := 85) hx hb dX5_copy_85 (lv_at hl 7 rfl) ?_
              refine callVI (G := (D, tysC cy, SF z)) (L := LC ad cy Rr) (pc := 87) (As := [.int p4, .int p5]) (rest := []) stabSF E cs0 hl hI (tX2_hasRow ho10 hf) mwX5_227 (fitD (by decide)) (at2 ho10) rfl rfl rfl rfl (Nat.le_of_ble_eq_true rfl) dX5_copy_87 (fun r22 σ21 H locs hf hI => ?_)
              refine lv_if_ne (tgt := 96) (pc := 90) hx hb dX5_copy_90 (by decide) (fun c23 => ?_) (fun c23 => ?_)
              · have hf := hf.1 c23
                refine lv_aload (pc := 96) hx hb dX5_copy_96 (lv_at hl 1 rfl) ?_
                refine g2_0 (pc := 98) E hI ho8 lkX5_230 dX5_copy_98 ?_
                refine lv_iload_n (pc := 101) hx hb dX5_copy_101 rfl (lv_at hl 4 rfl) ?_
                refine lv_aload (pc := 102) hx hb dX5_copy_102 (lv_at hl 0 rfl) ?_
                refine g2_0 (pc := 104) E hI ho10 lkX5_230 dX5_copy_104 ?_
                refine lv_iload (pc := 107) hx hb dX5_copy_107 (lv_at hl 6 rfl) ?_
                refine lv_iload (pc := 109) hx hb dX5_copy_109 (lv_at hl 7 rfl) ?_
                have g24 := hf.1
                have hf := hf.2
                refine rCopy (pc := 111) E hl hI ho8 ho10 g24 (fitD (by decide)) (Nat.le_of_ble_eq_true rfl) dX5_copy_111 (fun H locs σ25 eσ25 hI => ?_)
                have hf := hf σ25 eσ25
                refine lv_iload (pc := 114) hx hb dX5_copy_114 (lv_at hl 7 rfl) ?_
                exact rI (pc := 116) E hr hlk hI hf dX5_copy_116
              · have hf := hf.2 c23
                refine lv_bipush (v := (-12)) (pc := 93) hx hb dX5_copy_93 rfl ?_
                exact rI (pc := 95) E hr hlk hI hf dX5_copy_95
          · have hf := hf.2 c17
            refine lv_bipush (v := (-13)) (pc := 67) hx hb dX5_copy_67 rfl ?_
            exact rI (pc := 69) E hr hlk hI hf dX5_copy_69
        · have hf := hf.2 c16
          refine lv_bipush (v := (-11)) (pc := 51) hx hb dX5_copy_51 rfl ?_
          exact rI (pc := 53) E hr hlk hI hf dX5_copy_53
    · have hf := hf.2 c6
      refine lv_bipush (v := (-2)) (pc := 16) hx hb dX5_copy_16 rfl ?_
      exact rI (pc := 18) E hr hlk hI hf dX5_copy_18
theorem tX5_copy {l : Launch} {D : va_G} {z : Nat → Nat} {σ : St} {ad : Nat → Nat → Nat} {cy : Nat → ClassId} {Rr : va_W} {Q : Int32 → St → Prop} {p1 : Int32} {p2 : Int32} {p3 : Int32} {p4 : Int32} {p5 : Int32} (hf : wX5_copy p1 p2 p3 p4 p5 σ Q) : CtI l yX5_copy cX5_copy 8 .int 2 (D, tysC cy, SF z) (LC ad cy Rr) [.ref (ad 0 99), .int p1, .int p2, .int p3, .int p4, .int p5] σ Q := mkI (by decide) (Nat.le_of_ble_eq_true rfl) (fun p e s m below meth c A E hr hlk hI ls hl => bX5_copy E hr hlk hf hI hl)
