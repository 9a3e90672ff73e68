/-! texts: length, charAt -/
set_option maxRecDepth 100000 in
theorem lkV : Cond.fieldLink RJ0 9 "java/lang/String" "value" "[B" ∈ TB := inT6 (List.mem_of_getElem? (i := 10) rfl) rfl
set_option maxRecDepth 100000 in
theorem lkCo : Cond.fieldLink RJ0 15 "java/lang/String" "coder" "B" ∈ TB := inT6 (List.mem_of_getElem? (i := 11) rfl) rfl
set_option maxRecDepth 100000 in
theorem lkCS : Cond.fieldLink RJ0 38 "java/lang/String" "COMPACT_STRINGS" "Z" ∈ TB := inT1 (List.mem_of_getElem? (i := 176) rfl) rfl
set_option maxRecDepth 100000 in
theorem lkSI : Cond.fieldLink RJ0 1053 "jdk/internal/util/Preconditions" "SIOOBE_FORMATTER" "Ljava/util/function/BiFunction;" ∈ TB := inT1 (List.mem_of_getElem? (i := 192) rfl) rfl
def strLn (i : Nat) : Int32 := Int32.ofNat (strL.getD i 0)
def strAt (i j : Nat) : Int32 := (strB.getD i []).getD j 0
theorem str_all : ∀ i, i < 13 → ∀ j, j < strL.getD i 0 → ((strAt i j &&& 255).toUInt32 % 65536).toInt32 = strAt i j ∧ narrow .char (.int (strAt i j)) = .int (strAt i j) := by decide +kernel
theorem str_shr : ∀ i, i < 13 → strLn i >>> ((0 : Int32) &&& 31) = strLn i := by decide +kernel
theorem str_len : ∀ i, i < 13 → strL.getD i 0 < 100 := by decide +kernel
theorem lt_ofNat {j : Int32} {n : Nat} (h0 : ¬ j < 0) (h1 : j.toNatClampNeg < n) (hn : n < 2 ^ 31) : j < Int32.ofNat n := by
  rw [Int32.lt_iff_toInt_lt] at h0 ⊢
  have e1 : (0 : Int32).toInt = 0 := rfl
  have e2 : (Int32.ofNat n).toInt = n := by
    rw [Int32.toInt_ofNat']
    have e4 : Int32.size = 4294967296 := rfl
    exact Int.bmod_eq_of_le (by omega) (by omega)
  have e3 : j.toNatClampNeg = j.toInt.toNat := rfl
  omega
section Str
variable {p : Program} {l : Launch} {e : Env} {R : Room} {s : State} {m : MethodId} {args : Array Value} {below : List Frame} {meth : Method} {c : Code} {H : Heap} {locs : List Loc} {cells slots : Nat} {Q : State → Prop} {cc : ByteArray} {nL pc : Nat} {ls : Array Slot} {rest : List Value} {D : va_G} {z : Nat → Nat} {A : Nat → Prop} {own : String} {L : St → va_W} {σ : St} {G : GG}
theorem rN {Q : Int32 → St → Prop} {v : Int32} {ty : FieldType} (E : CallFix p m c cc nL s args TB own) (hr : meth.sig.returnType = some ty) (hlk : meth.locks = false) (hI : In G (L σ) A s H locs) (hn : narrow ty (.int v) = .int v) (hf : Q v σ) (hd : decode cc pc = .ok (.ireturn, 1)) : W p l e R s m args below meth c H locs 0 0 (PI below args s G A L Q) (F0 m pc ls [.int v]) :=
  W.zret (v := v) (ty := ty) E.1 E.2.1 hr hn (fun t ht hW => ⟨⟨v, σ, rfl, hf, by rw [ht]; exact hI.1, va_K.moved hW.alike hI.2.2.2.1, hI.2.1⟩, hI.2.2.1.F ht⟩) hI.2.2.1.2.2 hd hlk
theorem callVIr {d' index n nL' : Nat} {y : MethodName} {cc' : ByteArray} {ty : FieldType} {C : String} {b : Nat} {As st : List Value} {Q' : Int32 → St → Prop} {lv0 : List (Nat × Value)} (hF : Stab G.2.2) (E : CallFix p m c cc nL s args TB own) (hcs : cells ≤ R.cells ∧ slots ≤ R.slots) (hls : lv_has ls nL lv0) (hI : In G (L σ) A s H locs) (hM : CtI l y cc' nL' ty d' G L (.ref b :: As) σ Q') (hw : MwV own C index y cc' nL' (some ty) n) (hd : fitR d' R) (hrec : ∃ cell : Cell, H[b]? = some cell ∧ cell.vm.isStatics = false ∧ s.vm.findClass C = some cell.cls) (hn : As.length = n) (hst : st = As.reverse ++ .ref b :: rest) (hW : (rest.map fun v => v.category).sum ≤ 8) (hdg : decode cc pc = .ok (.invokevirtual index, 3))
    (kk : ∀ (r : Int32) (σ' : St) (H1 : Heap) (locs1 : List Loc), Q' r σ' → In G (L σ') A s H1 locs1 → W p l e R s m args below meth c H1 locs1 cells slots Q (F0 m (pc + 3) ls (.int r :: rest))) : W p l e R s m args below meth c H locs cells slots Q (F0 m pc ls st) := by
  refine va_calli (va_runV (As := As) (rest := rest) (g := F0 m pc ls st) E (hM H.size) (cwV n E.2.2.2.2 (goodV hw) rfl rfl rfl hw.2.1 (fits8 hd hw.2.2)) ⟨blind0 hF _, hrec, pre0 hF hI⟩ rfl hn hls.1 hst (lv_room hW) hdg hcs) hI.2.2.1 (fun q _ h => hI.kept q h) hI.kept (fun r u t H1 locs1 ht hvm hw' hB hz1 hk1 hS => ?_)
  exact kk r u H1 locs1 hw' (behind hI ht hvm hB hS)
end Str
set_option maxRecDepth 100000 in
set_option maxHeartbeats 4000000 in
theorem tCoder {l : Launch} {D : va_G} {z : Nat → Nat} {σ : St} {L : St → va_W} {ty0 : List (ClassId × FieldType)} {Q : Int32 → St → Prop} {i : Nat} (hi : i < 13) (hf : Q 0 σ) : CtI l yJ0_coder_7d493 cJ0_coder_7d493 1 .byte 0 (D, ty0, SF z) L [.ref (z (10 + i))] σ Q := by
  refine mkI (by decide +kernel) (Nat.le_of_ble_eq_true rfl) (fun p e s m below meth c A E hr hlk hI ls hl => ?_)
  have hx := E.1
  have hb := E.2.1
  have hl : lv_has ls 1 [(0, .ref (z (10 + i)))] := hl
  refine va_gets (pc := 0) hx hb hI.2.2.2.2.2.2.2.2.1 hI.2.2.1 E.2.2.2.1 (E.2.2.2.2 _ lkCS) (fun _ h => h) dJ0_coder_7d493_0 ?_
  refine lv_if_eq (tgt := 13) (pc := 3) hx hb dJ0_coder_7d493_3 (by decide) (fun c1 => absurd c1 (by decide)) (fun _ => ?_)
  refine lv_aload_n (pc := 6) hx hb dJ0_coder_7d493_6 rfl (lv_at hl 0 rfl) ?_
  refine vk_getf (pc := 7) hx hb (hI.2.2.2.2.2.2.2.2.2.2.1.1 i hi).2.1 hI.2.2.1 E.2.2.2.1 (E.2.2.2.2 _ lkCo) (fun _ h => h) dJ0_coder_7d493_7 ?_
  refine lv_goto (tgt := 14) (pc := 10) hx hb dJ0_coder_7d493_10 (by decide) ?_
  exact rN (pc := 14) E hr hlk hI rfl hf dJ0_coder_7d493_14
set_option maxRecDepth 100000 in
set_option maxHeartbeats 4000000 in
theorem tIsLatin1 {l : Launch} {D : va_G} {z : Nat → Nat} {σ : St} {L : St → va_W} {ty0 : List (ClassId × FieldType)} {Q : Int32 → St → Prop} {i : Nat} (hi : i < 13) (hf : Q 1 σ) : CtI l yJ0_isLatin1_aae02 cJ0_isLatin1_aae02 1 .boolean 0 (D, ty0, SF z) L [.ref (z (10 + i))] σ Q := by
  refine mkI (by decide +kernel) (Nat.le_of_ble_eq_true rfl) (fun p e s m below meth c A E hr hlk hI ls hl => ?_)
  have hx := E.1
  have hb := E.2.1
  have hl : lv_has ls 1 [(0, .ref (z (10 + i)))] := hl
  refine va_gets (pc := 0) hx hb hI.2.2.2.2.2.2.2.2.1 hI.2.2.1 E.2.2.2.1 (E.2.2.2.2 _ lkCS) (fun _ h => h) dJ0_isLatin1_aae02_0 ?_
  refine lv_if_eq (tgt := 17) (pc := 3) hx hb dJ0_isLatin1_aae02_3 (by decide) (fun c1 => absurd c1 (by decide)) (fun _ => ?_)
  refine lv_aload_n (pc := 6) hx hb dJ0_isLatin1_aae02_6 rfl (lv_at hl 0 rfl) ?_
  refine vk_getf (pc := 7) hx hb (hI.2.2.2.2.2.2.2.2.2.2.1.1 i hi).2.1 hI.2.2.1 E.2.2.2.1 (E.2.2.2.2 _ lkCo) (fun _ h => h) dJ0_isLatin1_aae02_7 ?_
  refine lv_if_ne (tgt := 17) (pc := 10) hx hb dJ0_isLatin1_aae02_10 (by decide) (fun c1 => absurd rfl c1) (fun _ => ?_)
  refine lv_iconst (v := 1) (pc := 13) hx hb dJ0_isLatin1_aae02_13 rfl ?_
  refine lv_goto (tgt := 18) (pc := 14) hx hb dJ0_isLatin1_aae02_14 (by decide) ?_
  exact rZ (pc := 18) E hr hlk hI (Or.inr rfl) hf dJ0_isLatin1_aae02_18
set_option maxRecDepth 100000 in
set_option maxHeartbeats 4000000 in
theorem tLen {l : Launch} {D : va_G} {z : Nat → Nat} {σ : St} {L : St → va_W} {ty0 : List (ClassId × FieldType)} {Q : Int32 → St → Prop} {i : Nat} (hi : i < 13) (hf : Q (strLn i) σ) : CtI l yJ0_length_8abf5 cJ0_length_8abf5 1 .int 1 (D, ty0, SF z) L [.ref (z (10 + i))] σ Q := by
  refine mkI (by decide +kernel) (Nat.le_of_ble_eq_true rfl) (fun p e s m below meth c A E hr hlk hI ls hl => ?_)
  have hx := E.1
  have hb := E.2.1
  have hl : lv_has ls 1 [(0, .ref (z (10 + i)))] := hl
  refine lv_aload_n (pc := 0) hx hb dJ0_length_8abf5_0 rfl (lv_at hl 0 rfl) ?_
  refine vk_getf (pc := 1) hx hb (hI.2.2.2.2.2.2.2.2.2.2.1.1 i hi).2.2.1 hI.2.2.1 E.2.2.2.1 (E.2.2.2.2 _ lkV) (fun _ h => h) dJ0_length_8abf5_1 ?_
  refine va_tlen (pc := 4) (v := strLn i) hx hb (hI.2.2.2.2.2.2.2.2.2.2.1.1 i hi).2.2.2 hI.2.2.1 rfl dJ0_length_8abf5_4 ?_
  refine lv_aload_n (pc := 5) hx hb dJ0_length_8abf5_5 rfl (lv_at hl 0 rfl) ?_
  refine callVIr (G := (D, ty0, SF z)) (L := L) (pc := 6) (As := []) (rest := [.int (strLn i)]) (Q' := fun r σ' => r = 0 ∧ σ' = σ) stabSF E cs0 hl hI (tCoder hi ⟨rfl, rfl⟩) mwJ0_335 (fitD (by decide)) (vk_recv (adK := fun i => z (10 + i)) (i := i) hI.2.2.2.2.2.2.2.2.2.2.1 hi hI.2.2.1) rfl rfl (Nat.le_of_ble_eq_true rfl) dJ0_length_8abf5_6 (fun r σ1 H locs hq hI => ?_)
  rw [hq.2] at hI
  rw [hq.1]
  refine lv_ishr (pc := 9) hx hb dJ0_length_8abf5_9 ?_
  rw [str_shr i hi]
  exact rI (pc := 10) E hr hlk hI hf dJ0_length_8abf5_10
set_option maxRecDepth 100000 in
set_option maxHeartbeats 4000000 in
theorem tChk3n {l : Launch} {D : va_G} {z : Nat → Nat} {σ : St} {L : St → va_W} {ty0 : List (ClassId × FieldType)} {Q : Int32 → St → Prop} {i n : Int32} (h0 : ¬ i < 0) (h1 : i < n) (hf : Q i σ) : CtI l yJ3_checkIndex_8e157 cJ3_checkIndex_8e157 3 .int 0 (D, ty0, SF z) L [.int i, .int n, .null] σ Q := by
  refine mkI (by decide +kernel) (Nat.le_of_ble_eq_true rfl) (fun p e s m below meth c A E hr hlk hI ls hl => ?_)
  have hx := E.1
  have hb := E.2.1
  have hl : lv_has ls 3 [(0, .int i), (1, .int n), (2, .null)] := hl
  refine lv_iload_n (pc := 0) hx hb dJ3_checkIndex_8e157_0 rfl (lv_at hl 0 rfl) ?_
  refine lv_if_lt (tgt := 9) (pc := 1) hx hb dJ3_checkIndex_8e157_1 (by decide) (fun c1 => absurd c1 h0) (fun _ => ?_)
  refine lv_iload_n (pc := 4) hx hb dJ3_checkIndex_8e157_4 rfl (lv_at hl 0 rfl) ?_
  refine lv_iload_n (pc := 5) hx hb dJ3_checkIndex_8e157_5 rfl (lv_at hl 1 rfl) ?_
  refine lv_icmp_lt (tgt := 16) (pc := 6) hx hb dJ3_checkIndex_8e157_6 (by decide) (fun _ => ?_) (fun c1 => absurd h1 c1)
  refine lv_iload_n (pc := 16) hx hb dJ3_checkIndex_8e157_16 rfl (lv_at hl 0 rfl) ?_
  exact rI (pc := 17) E hr hlk hI hf dJ3_checkIndex_8e157_17
set_option maxRecDepth 100000 in
set_option maxHeartbeats 4000000 in
theorem tChk3r {l : Launch} {D : va_G} {z : Nat → Nat} {σ : St} {L : St → va_W} {ty0 : List (ClassId × FieldType)} {Q : Int32 → St → Prop} {t : Nat} {i n : Int32} (h0 : ¬ i < 0) (h1 : i < n) (hf : Q i σ) : CtI l yJ3_checkIndex_8e157 cJ3_checkIndex_8e157 3 .int 0 (D, ty0, SF z) L [.int i, .int n, .ref t] σ Q := by
  refine mkI (by decide +kernel) (Nat.le_of_ble_eq_true rfl) (fun p e s m below meth c A E hr hlk hI ls hl => ?_)
  have hx := E.1
  have hb := E.2.1
  have hl : lv_has ls 3 [(0, .int i), (1, .int n), (2, .ref t)] := hl
  refine lv_iload_n (pc := 0) hx hb dJ3_checkIndex_8e157_0 rfl (lv_at hl 0 rfl) ?_
  refine lv_if_lt (tgt := 9) (pc := 1) hx hb dJ3_checkIndex_8e157_1 (by decide) (fun c1 => absurd c1 h0) (fun _ => ?_)
  refine lv_iload_n (pc := 4) hx hb dJ3_checkIndex_8e157_4 rfl (lv_at hl 0 rfl) ?_
  refine lv_iload_n (pc := 5) hx hb dJ3_checkIndex_8e157_5 rfl (lv_at hl 1 rfl) ?_
  refine lv_icmp_lt (tgt := 16) (pc := 6) hx hb dJ3_checkIndex_8e157_6 (by decide) (fun _ => ?_) (fun c1 => absurd h1 c1)
  refine lv_iload_n (pc := 16) hx hb dJ3_checkIndex_8e157_16 rfl (lv_at hl 0 rfl) ?_
  exact rI (pc := 17) E hr hlk hI hf dJ3_checkIndex_8e157_17
set_option maxRecDepth 100000 in
set_option maxHeartbeats 4000000 in
theorem tChk2 {l : Launch} {D : va_G} {z : Nat → Nat} {σ : St} {L : St → va_W} {ty0 : List (ClassId × FieldType)} {Q : St → Prop} {i n : Int32} (h0 : ¬ i < 0) (h1 : i < n) (hf : Q σ) : CtV l yJ0_checkIndex_df160 cJ0_checkIndex_df160 2 1 (D, ty0, SF z) L [.int i, .int n] σ Q := by
  refine mkV (by decide +kernel) (Nat.le_of_ble_eq_true rfl) (fun p e s m below meth c A E hr hlk hI ls hl => ?_)
  have hx := E.1
  have hb := E.2.1
  have hl : lv_has ls 2 [(0, .int i), (1, .int n)] := hl
  refine lv_iload_n (pc := 0) hx hb dJ0_checkIndex_df160_0 rfl (lv_at hl 0 rfl) ?_
  refine lv_iload_n (pc := 1) hx hb dJ0_checkIndex_df160_1 rfl (lv_at hl 1 rfl) ?_
  rcases hI.2.2.2.2.2.2.2.2.2.1 with hz | ⟨t, hz⟩
  · refine va_gets (pc := 2) hx hb hz hI.2.2.1 E.2.2.2.1 (E.2.2.2.2 _ lkSI) (fun _ h => h) dJ0_checkIndex_df160_2 ?_
    refine callSI (G := (D, ty0, SF z)) (L := L) (pc := 5) (As := [.int i, .int n, .null]) (rest := []) (Q' := fun r σ' => r = i ∧ σ' = σ) stabSF E cs0 hl hI (tChk3n h0 h1 ⟨rfl, rfl⟩) mwJ0_1059 (fitD (by decide)) rfl rfl (Nat.le_of_ble_eq_true rfl) dJ0_checkIndex_df160_5 (fun r σ1 H locs hq hI => ?_)
    rw [hq.2] at hI
    rw [hq.1]
    refine lv_pop (pc := 8) hx hb dJ0_checkIndex_df160_8 rfl ?_
    exact rV (pc := 9) E hr hlk hI hf dJ0_checkIndex_df160_9
  · refine va_gets (pc := 2) hx hb hz hI.2.2.1 E.2.2.2.1 (E.2.2.2.2 _ lkSI) (fun _ h => h) dJ0_checkIndex_df160_2 ?_
    refine callSI (G := (D, ty0, SF z)) (L := L) (pc := 5) (As := [.int i, .int n, .ref t]) (rest := []) (Q' := fun r σ' => r = i ∧ σ' = σ) stabSF E cs0 hl hI (tChk3r h0 h1 ⟨rfl, rfl⟩) mwJ0_1059 (fitD (by decide)) rfl rfl (Nat.le_of_ble_eq_true rfl) dJ0_checkIndex_df160_5 (fun r σ1 H locs hq hI => ?_)
    rw [hq.2] at hI
    rw [hq.1]
    refine lv_pop (pc := 8) hx hb dJ0_checkIndex_df160_8 rfl ?_
    exact rV (pc := 9) E hr hlk hI hf dJ0_checkIndex_df160_9
set_option maxRecDepth 100000 in
set_option maxHeartbeats 4000000 in
theorem tL1At {l : Launch} {D : va_G} {z : Nat → Nat} {σ : St} {L : St → va_W} {ty0 : List (ClassId × FieldType)} {Q : Int32 → St → Prop} {i : Nat} {j : Int32} (hi : i < 13) (hj : vp_in j (strL.getD i 0)) (hf : Q (strAt i j.toNatClampNeg) σ) : CtI l yJ1_charAt_3b067 cJ1_charAt_3b067 2 .char 2 (D, ty0, SF z) L [.ref (z (30 + i)), .int j] σ Q := by
  refine mkI (by decide +kernel) (Nat.le_of_ble_eq_true rfl) (fun p e s m below meth c A E hr hlk hI ls hl => ?_)
  have hx := E.1
  have hb := E.2.1
  have hl : lv_has ls 2 [(0, .ref (z (30 + i))), (1, .int j)] := hl
  have hs := str_all i hi _ (vp_lt hj)
  have h0 : ¬ j < 0 := fun q => hj (Or.inl q)
  have h1 : j < strLn i := by
    have a1 := vp_lt hj
    have a2 := str_len i hi
    exact lt_ofNat h0 a1 (by omega)
  refine lv_iload_n (pc := 0) hx hb dJ1_charAt_3b067_0 rfl (lv_at hl 1 rfl) ?_
  refine lv_aload_n (pc := 1) hx hb dJ1_charAt_3b067_1 rfl (lv_at hl 0 rfl) ?_
  refine va_tlen (pc := 2) (v := strLn i) hx hb (hI.2.2.2.2.2.2.2.2.2.2.1.1 i hi).2.2.2 hI.2.2.1 rfl dJ1_charAt_3b067_2 ?_
  refine callSV (G := (D, ty0, SF z)) (L := L) (pc := 3) (As := [.int j, .int (strLn i)]) (rest := []) (Q' := fun σ' => σ' = σ) stabSF E cs0 hl hI (tChk2 h0 h1 rfl) mwJ1_9 (fitD (by decide)) rfl rfl (Nat.le_of_ble_eq_true rfl) dJ1_charAt_3b067_3 (fun σ1 H locs hq hI => ?_)
  rw [hq] at hI
  refine lv_aload_n (pc := 6) hx hb dJ1_charAt_3b067_6 rfl (lv_at hl 0 rfl) ?_
  refine lv_iload_n (pc := 7) hx hb dJ1_charAt_3b067_7 rfl (lv_at hl 1 rfl) ?_
  refine va_tb (pc := 8) (v := .int (strAt i j.toNatClampNeg)) hx hb (hI.2.2.2.2.2.2.2.2.2.2.1.1 i hi).2.2.2 hI.2.2.1 hj rfl dJ1_charAt_3b067_8 ?_
  refine lv_sipush (v := 255) (pc := 9) hx hb dJ1_charAt_3b067_9 rfl ?_
  refine lv_iand (pc := 12) hx hb dJ1_charAt_3b067_12 ?_
  refine lv_i2c (v := strAt i j.toNatClampNeg) (pc := 13) hx hb dJ1_charAt_3b067_13 hs.1 ?_
  exact rN (pc := 14) E hr hlk hI hs.2 hf dJ1_charAt_3b067_14
set_option maxRecDepth 100000 in
set_option maxHeartbeats 4000000 in
theorem tAt {l : Launch} {D : va_G} {z : Nat → Nat} {σ : St} {L : St → va_W} {ty0 : List (ClassId × FieldType)} {Q : Int32 → St → Prop} {i : Nat} {j : Int32} (hi : i < 13) (hj : vp_in j (strL.getD i 0)) (hf : Q (strAt i j.toNatClampNeg) σ) : CtI l yJ0_charAt_5068e cJ0_charAt_5068e 2 .char 3 (D, ty0, SF z) L [.ref (z (10 + i)), .int j] σ Q := by
  refine mkI (by decide +kernel) (Nat.le_of_ble_eq_true rfl) (fun p e s m below meth c A E hr hlk hI ls hl => ?_)
  have hx := E.1
  have hb := E.2.1
  have hl : lv_has ls 2 [(0, .ref (z (10 + i))), (1, .int j)] := hl
  have hs := str_all i hi _ (vp_lt hj)
  refine lv_aload_n (pc := 0) hx hb dJ0_charAt_5068e_0 rfl (lv_at hl 0 rfl) ?_
  refine callVIr (G := (D, ty0, SF z)) (L := L) (pc := 1) (As := []) (rest := []) (Q' := fun r σ' => r = 1 ∧ σ' = σ) stabSF E cs0 hl hI (tIsLatin1 hi ⟨rfl, rfl⟩) mwJ0_492 (fitD (by decide)) (vk_recv (adK := fun i => z (10 + i)) (i := i) hI.2.2.2.2.2.2.2.2.2.2.1 hi hI.2.2.1) rfl rfl (Nat.le_of_ble_eq_true rfl) dJ0_charAt_5068e_1 (fun r σ1 H locs hq hI => ?_)
  rw [hq.2] at hI
  rw [hq.1]
  refine lv_if_eq (tgt := 16) (pc := 4) hx hb dJ0_charAt_5068e_4 (by decide) (fun c1 => absurd c1 (by decide)) (fun _ => ?_)
  refine lv_aload_n (pc := 7) hx hb dJ0_charAt_5068e_7 rfl (lv_at hl 0 rfl) ?_
  refine vk_getf (pc := 8) hx hb (hI.2.2.2.2.2.2.2.2.2.2.1.1 i hi).2.2.1 hI.2.2.1 E.2.2.2.1 (E.2.2.2.2 _ lkV) (fun _ h => h) dJ0_charAt_5068e_8 ?_
  refine lv_iload_n (pc := 11) hx hb dJ0_charAt_5068e_11 rfl (lv_at hl 1 rfl) ?_
  refine callSI (G := (D, ty0, SF z)) (L := L) (pc := 12) (As := [.ref (z (30 + i)), .int j]) (rest := []) (Q' := fun r σ' => r = strAt i j.toNatClampNeg ∧ σ' = σ) stabSF E cs0 hl hI (tL1At hi hj ⟨rfl, rfl⟩) mwJ0_495 (fitD (by decide)) rfl rfl (Nat.le_of_ble_eq_true rfl) dJ0_charAt_5068e_12 (fun r σ1 H locs hq hI => ?_)
  rw [hq.2] at hI
  rw [hq.1]
  exact rN (pc := 15) E hr hlk hI hs.2 hf dJ0_charAt_5068e_15
section Str2
variable {p : Program} {l : Launch} {e : Env} {R : Room} {s : State} {m : MethodId} {args : Array Value} {below : List Frame} {meth : Method} {c : Code} {H : Heap} {locs : List Loc} {cells slots : Nat} {Q : State → Prop} {cc : ByteArray} {nL pc : Nat} {ls : Array Slot} {rest : List Value} {D : va_G} {z : Nat → Nat} {A : Nat → Prop} {own : String} {L : St → va_W} {σ : St} {ty0 : List (ClassId × FieldType)} {lv0 : List (Nat × Value)}
theorem rStrLen {i index : Nat} (E : CallFix p m c cc nL s args TB own) (hcs : cells ≤ R.cells ∧ slots ≤ R.slots) (hls : lv_has ls nL lv0) (hI : In (D, ty0, SF z) (L σ) A s H locs) (hi : i < 13) (hw : MwV own RJ0 index yJ0_length_8abf5 cJ0_length_8abf5 1 (some .int) 0) (hd : fitR 1 R) (hW : (rest.map fun v => v.category).sum ≤ 8) (hdg : decode cc pc = .ok (.invokevirtual index, 3)) (kk : ∀ (H1 : Heap) (locs1 : List Loc), In (D, ty0, SF z) (L σ) A s H1 locs1 → W p l e R s m args below meth c H1 locs1 cells slots Q (F0 m (pc + 3) ls (.int (strLn i) :: rest))) : W p l e R s m args below meth c H locs cells slots Q (F0 m pc ls (.ref (z (10 + i)) :: rest)) :=
  callVIr (G := (D, ty0, SF z)) (L := L) (As := []) (rest := rest) (Q' := fun r σ' => r = strLn i ∧ σ' = σ) stabSF E hcs hls hI (tLen hi ⟨rfl, rfl⟩) hw hd (vk_recv (adK := fun i => z (10 + i)) (i := i) hI.2.2.2.2.2.2.2.2.2.2.1 hi hI.2.2.1) rfl rfl hW hdg (fun r σ1 H1 locs1 hq hI1 => by obtain ⟨rfl, rfl⟩ := hq; exact kk H1 locs1 hI1)
theorem rStrAt {i index : Nat} {j : Int32} (E : CallFix p m c cc nL s args TB own) (hcs : cells ≤ R.cells ∧ slots ≤ R.slots) (hls : lv_has ls nL lv0) (hI : In (D, ty0, SF z) (L σ) A s H locs) (hi : i < 13) (hj : vp_in j (strL.getD i 0)) (hw : MwV own RJ0 index yJ0_charAt_5068e cJ0_charAt_5068e 2 (some .char) 1) (hd : fitR 3 R) (hW : (rest.map fun v => v.category).sum ≤ 8) (hdg : decode cc pc = .ok (.invokevirtual index, 3)) (kk : ∀ (H1 : Heap) (locs1 : List Loc), In (D, ty0, SF z) (L σ) A s H1 locs1 → W p l e R s m args below meth c H1 locs1 cells slots Q (F0 m (pc + 3) ls (.int (strAt i j.toNatClampNeg) :: rest))) : W p l e R s m args below meth c H locs cells slots Q (F0 m pc ls (.int j :: .ref (z (10 + i)) :: rest)) :=
  callVIr (G := (D, ty0, SF z)) (L := L) (As := [.int j]) (rest := rest) (Q' := fun r σ' => r = strAt i j.toNatClampNeg ∧ σ' = σ) stabSF E hcs hls hI (tAt hi hj ⟨rfl, rfl⟩) hw hd (vk_recv (adK := fun i => z (10 + i)) (i := i) hI.2.2.2.2.2.2.2.2.2.2.1 hi hI.2.2.1) rfl rfl hW hdg (fun r σ1 H1 locs1 hq hI1 => by obtain ⟨rfl, rfl⟩ := hq; exact kk H1 locs1 hI1)
theorem rLdS {i index : Nat} (E : CallFix p m c cc nL s args TB own) (hI : In (D, ty0, SF z) (L σ) A s H locs) (hi : i < 13) (ho : strO i = own) (hx : strI i = index) (hdg : decode cc pc = .ok (.ldc index, 2)) (kk : W p l e R s m args below meth c H locs cells slots Q (F0 m (pc + 2) ls (.ref (z (10 + i)) :: rest))) : W p l e R s m args below meth c H locs cells slots Q (F0 m pc ls rest) := by
  have h := hI.2.2.2.2.2.2.2.2.2.2.2 i hi
  rw [ho, hx] at h
  exact va_ldcS E.1 E.2.1 E.2.2.2.1 h hdg kk
end Str2
/-- a text is answered: its number -/
def CtS (l : Launch) (y : MethodName) (cc : ByteArray) (nL : Nat) (z : Nat → Nat) (d : Nat) (G : GG) (L : St → va_W) (av : List Value) (σ : St) (Q : Nat → St → Prop) : Prop :=
  ∀ sz : Nat, Met l y (.code y cc nL (some (.object "java/lang/String")) :: TB) (rmD d) (va_Pc av (Pre0 G (L σ) sz)) (va_Qr (fun u : Nat × St => u.1 < 13 ∧ Q u.1 u.2) (fun u a t => a = z (10 + u.1) ∧ BB G (va_A (L σ) sz) (L u.2) t) (va_A (L σ) sz)) 0 0 (va_A (L σ) sz)
def PS (z : Nat → Nat) (below : List Frame) (args : Array Value) (s : State) (G : GG) (A : Nat → Prop) (L : St → va_W) (Q : Nat → St → Prop) : State → Prop := MQ below (va_Qr (fun u : Nat × St => u.1 < 13 ∧ Q u.1 u.2) (fun u a t => a = z (10 + u.1) ∧ BB G A (L u.2) t) A) args s 0 0 A
section Str3
variable {p : Program} {l : Launch} {e : Env} {R : Room} {s : State} {m : MethodId} {args : Array Value} {below : List Frame} {meth : Method} {c : Code} {H : Heap} {locs : List Loc} {cells slots : Nat} {Q : State → Prop} {cc : ByteArray} {nL pc : Nat} {ls : Array Slot} {rest : List Value} {z : Nat → Nat} {A : Nat → Prop} {own : String} {L : St → va_W} {σ : St} {G : GG}
theorem mkS {y : MethodName} {d : Nat} {av : List Value} {Q : Nat → St → Prop} (hy : plainName y.cls = true) (hle : (lg_sl av).length ≤ nL)
    (body : ∀ (p : Program) (e : Env) (s : State) (m : MethodId) (below : List Frame) (meth : Method) (c : Code) (A : Nat → Prop), CallFix p m c cc nL s av.toArray TB y.cls → meth.sig.returnType = some (.object "java/lang/String") → meth.locks = false → In G (L σ) A s s.heap [] → ∀ ls : Array Slot, lv_has ls nL (lv_args 0 av) → W p l e (rmD d) s m av.toArray below meth c s.heap [] 0 0 (PS z below av.toArray s G A L Q) (F0 m 0 ls [])) :
    CtS l y cc nL z d G L av σ Q := by
  intro sz
  refine Met.ofW (cc := cc) (maxL := nL) (ret := some (.object "java/lang/String")) hy rfl ?_
  intro p e s m args below meth c s₁ B hml hv
  obtain ⟨rfl, hsz, ⟨hP, hK, hD0⟩, hF⟩ := hv
  subst hsz
  have hts := atoms_spec (ws := .code y cc nL (some (.object "java/lang/String")) :: TB) B.pre
  have hl := lv_entry av (n := nL) hle
  rw [lg_entry_eq]
  exact body p e s m below meth c _ ⟨B.exec, B.bytes, hml, findClass_of_methodNamed B.named, fun w hw => hts w (List.mem_cons_of_mem _ hw)⟩ B.returns B.notSynchronized ⟨hP, hD0.self, va_S.rf, hK, fun q h => Or.inr h, hF⟩ _ hl
theorem rS {Q : Nat → St → Prop} {i : Nat} (E : CallFix p m c cc nL s args TB own) (hr : meth.sig.returnType = some (.object "java/lang/String")) (hlk : meth.locks = false) (hI : In G (L σ) A s H locs) (hi : i < 13) (hf : Q i σ) (hd : decode cc pc = .ok (.areturn, 1)) : W p l e R s m args below meth c H locs 0 0 (PS z below args s G A L Q) (F0 m pc ls [.ref (z (10 + i))]) :=
  W.aret (v := .ref (z (10 + i))) E.1 E.2.1 hr (Or.inl ⟨_, rfl⟩) (Or.inr ⟨_, rfl⟩) (fun t ht hW => ⟨⟨(i, σ), z (10 + i), rfl, ⟨hi, hf⟩, rfl, by rw [ht]; exact hI.1, va_K.moved hW.alike hI.2.2.2.1, hI.2.1⟩, hI.2.2.1.F ht⟩) hI.2.2.1.2.2 hd hlk
theorem callSS {d' index n nL' : Nat} {y : MethodName} {cc' : ByteArray} {As st : List Value} {Q' : Nat → St → Prop} {lv0 : List (Nat × Value)} (hF : Stab G.2.2) (E : CallFix p m c cc nL s args TB own) (hcs : cells ≤ R.cells ∧ slots ≤ R.slots) (hls : lv_has ls nL lv0) (hI : In G (L σ) A s H locs) (hM : CtS l y cc' nL' z d' G L As σ Q') (hw : MwS own index y cc' nL' (some (.object "java/lang/String")) n) (hd : fitR d' R) (hn : As.length = n) (hst : st = As.reverse ++ rest) (hW : (rest.map fun v => v.category).sum ≤ 8) (hdg : decode cc pc = .ok (.invokestatic index, 3))
    (kk : ∀ (i : Nat) (σ' : St) (H1 : Heap) (locs1 : List Loc), i < 13 → Q' i σ' → In G (L σ') A s H1 locs1 → W p l e R s m args below meth c H1 locs1 cells slots Q (F0 m (pc + 3) ls (.ref (z (10 + i)) :: rest))) : W p l e R s m args below meth c H locs cells slots Q (F0 m pc ls st) := by
  refine va_callr (va_runS (As := As) (rest := rest) (g := F0 m pc ls st) E (hM H.size) (va_cwS n E.2.2.2.2 (goodS hw) rfl rfl rfl hw.2.1 (fits8 hd hw.2.2)) ⟨blind0 hF _, pre0 hF hI⟩ rfl hn hls.1 hst (lv_room hW) hdg hcs) hI.2.2.1 (fun q _ h => hI.kept q h) hI.kept (fun u ra t H1 locs1 ht hvm hw' hB hz1 hk1 hS => ?_)
  obtain ⟨rfl, hB⟩ := hB
  exact kk u.1 u.2 H1 locs1 hw'.1 hw'.2 (behind hI ht hvm hB hS)
end Str3
