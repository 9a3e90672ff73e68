def Sim0 (Rel : St → St → Prop) : Prop := ∀ (X S : St) (a0 a1 a2 : Int32), Rel X S → wX5_set a0 a1 a2 X (fun r X1 => wX6_set a0 a1 a2 S (fun r1 S1 => r = r1 ∧ Rel X1 S1))
def Sim1 (Rel : St → St → Prop) : Prop := ∀ (X S : St) (a0 a1 a2 : Int32), Rel X S → wX5_person a0 a1 a2 X (fun r X1 => wX6_person a0 a1 a2 S (fun r1 S1 => r = r1 ∧ Rel X1 S1))
def Sim2 (Rel : St → St → Prop) : Prop := ∀ (X S : St) (a0 a1 : Int32), Rel X S → wX5_told a0 a1 X (fun r X1 => wX6_told a0 a1 S (fun r1 S1 => r = r1 ∧ Rel X1 S1))
def Sim3 (Rel : St → St → Prop) : Prop := ∀ (X S : St) (a0 : Int32), Rel X S → wX5_picture a0 X (fun r X1 => wX6_picture a0 S (fun r1 S1 => r = r1 ∧ Rel X1 S1))
def Sim4 (Rel : St → St → Prop) : Prop := ∀ (X S : St) (a0 : Int32), Rel X S → wX5_feed a0 X (fun r X1 => wX6_feed a0 S (fun r1 S1 => r = r1 ∧ Rel X1 S1))
def Sim5 (Rel : St → St → Prop) : Prop := ∀ (X S : St), Rel X S → wX5_text X (fun r X1 => wX6_text S (fun r1 S1 => r = r1 ∧ Rel X1 S1))
def Sim6 (Rel : St → St → Prop) : Prop := ∀ (X S : St) (a0 : Int32), Rel X S → wX5_force a0 X (fun r X1 => wX6_force a0 S (fun r1 S1 => r = r1 ∧ Rel X1 S1))
def Sim7 (Rel : St → St → Prop) : Prop := ∀ (X S : St), Rel X S → wX5_day X (fun r X1 => wX6_day S (fun r1 S1 => r = r1 ∧ Rel X1 S1))
def Sim8 (Rel : St → St → Prop) : Prop := ∀ (X S : St) (a0 a1 a2 : Int32), Rel X S → wX5_run a0 a1 a2 X (fun r X1 => wX6_run a0 a1 a2 S (fun r1 S1 => r = r1 ∧ Rel X1 S1))
def Sim9 (Rel : St → St → Prop) : Prop := ∀ (X S : St) (a0 : Int32), Rel X S → wX5_later a0 X (fun r X1 => wX6_later a0 S (fun r1 S1 => r = r1 ∧ Rel X1 S1))
def Sim10 (Rel : St → St → Prop) : Prop := ∀ (X S : St), Rel X S → wX5_ends X (fun r X1 => wX6_ends S (fun r1 S1 => r = r1 ∧ Rel X1 S1))
def Sim11 (Rel : St → St → Prop) : Prop := ∀ (X S : St) (a0 a1 a2 : Int32), Rel X S → wX5_atWhat a0 a1 a2 X (fun r X1 => wX6_atWhat a0 a1 a2 S (fun r1 S1 => r = r1 ∧ Rel X1 S1))
def Sim12 (Rel : St → St → Prop) : Prop := ∀ (X S : St) (a0 a1 : Int32), Rel X S → wX5_want a0 a1 X (fun r X1 => wX6_want a0 a1 S (fun r1 S1 => r = r1 ∧ Rel X1 S1))
def Sim13 (Rel : St → St → Prop) : Prop := ∀ (X S : St) (a0 : Int32), Rel X S → wX5_idle a0 X (fun r X1 => wX6_idle a0 S (fun r1 S1 => r = r1 ∧ Rel X1 S1))
def Sim14 (Rel : St → St → Prop) : Prop := ∀ (X S : St) (a0 : Int32), Rel X S → wX5_gap a0 X (fun r X1 => wX6_gap a0 S (fun r1 S1 => r = r1 ∧ Rel X1 S1))
def Sim15 (Rel : St → St → Prop) : Prop := ∀ (X S : St) (a0 : Int32), Rel X S → wX5_share a0 X (fun r X1 => wX6_share a0 S (fun r1 S1 => r = r1 ∧ Rel X1 S1))
def Sim16 (Rel : St → St → Prop) : Prop := ∀ (X S : St) (a0 a1 a2 : Int32), Rel X S → wX5_tells a0 a1 a2 X (fun r X1 => wX6_tells a0 a1 a2 S (fun r1 S1 => r = r1 ∧ Rel X1 S1))
def Sim17 (Rel : St → St → Prop) : Prop := ∀ (X S : St) (a0 a1 : Int32), Rel X S → wX5_film a0 a1 X (fun r X1 => wX6_film a0 a1 S (fun r1 S1 => r = r1 ∧ Rel X1 S1))
def Sim18 (Rel : St → St → Prop) : Prop := ∀ (X S : St) (a0 a1 : Int32), Rel X S → wX5_drawn a0 a1 X (fun r X1 => wX6_drawn a0 a1 S (fun r1 S1 => r = r1 ∧ Rel X1 S1))
def Sim19 (Rel : St → St → Prop) : Prop := ∀ (X S : St) (a0 a1 a2 a3 : Int32), Rel X S → wX5_chance a0 a1 a2 a3 X (fun r X1 => wX6_chance a0 a1 a2 a3 S (fun r1 S1 => r = r1 ∧ Rel X1 S1))
def Sim20 (Rel : St → St → Prop) : Prop := ∀ (X S : St), Rel X S → wX5_image X (fun r X1 => wX6_image S (fun r1 S1 => r = r1 ∧ Rel X1 S1))
def Sim21 (Rel : St → St → Prop) : Prop := ∀ (X S : St), Rel X S → wX5_back X (fun r X1 => wX6_back S (fun r1 S1 => r = r1 ∧ Rel X1 S1))
def Sim22 (Rel : St → St → Prop) : Prop := ∀ (X S : St) (a0 : Int32), Rel X S → wX5_count a0 X (fun r X1 => wX6_count a0 S (fun r1 S1 => r = r1 ∧ Rel X1 S1))
def Sim23 (Rel : St → St → Prop) : Prop := ∀ (X S : St) (a0 a1 a2 : Int32), Rel X S → wX5_sheet a0 a1 a2 X (fun r X1 => wX6_sheet a0 a1 a2 S (fun r1 S1 => r = r1 ∧ Rel X1 S1))
def Sim24 (Rel : St → St → Prop) : Prop := ∀ (X S : St) (a0 a1 a2 : Int32), Rel X S → wX5_cell a0 a1 a2 X (fun r X1 => wX6_cell a0 a1 a2 S (fun r1 S1 => r = r1 ∧ Rel X1 S1))
def Sim25 (Rel : St → St → Prop) : Prop := ∀ (X S : St) (a0 a1 a2 a3 a4 : Int32), Rel X S → wX5_copy a0 a1 a2 a3 a4 X (fun r X1 => wX6_copy a0 a1 a2 a3 a4 S (fun r1 S1 => r = r1 ∧ Rel X1 S1))
def Sim26 (Rel : St → St → Prop) : Prop := ∀ (X S : St) (a0 a1 a2 a3 : Int32), Rel X S → wX5_exarchate a0 a1 a2 a3 X (fun r X1 => wX6_exarchate a0 a1 a2 a3 S (fun r1 S1 => r = r1 ∧ Rel X1 S1))
def Sim27 (Rel : St → St → Prop) : Prop := ∀ (X S : St) (a0 a1 : Int32), Rel X S → wX5_taken a0 a1 X (fun r X1 => wX6_taken a0 a1 S (fun r1 S1 => r = r1 ∧ Rel X1 S1))
def SimAll (Rel : St → St → Prop) : Prop := Sim0 Rel ∧ Sim1 Rel ∧ Sim2 Rel ∧ Sim3 Rel ∧ Sim4 Rel ∧ Sim5 Rel ∧ Sim6 Rel ∧ Sim7 Rel ∧ Sim8 Rel ∧ Sim9 Rel ∧ Sim10 Rel ∧ Sim11 Rel ∧ Sim12 Rel ∧ Sim13 Rel ∧ Sim14 Rel ∧ Sim15 Rel ∧ Sim16 Rel ∧ Sim17 Rel ∧ Sim18 Rel ∧ Sim19 Rel ∧ Sim20 Rel ∧ Sim21 Rel ∧ Sim22 Rel ∧ Sim23 Rel ∧ Sim24 Rel ∧ Sim25 Rel ∧ Sim26 Rel ∧ Sim27 Rel
theorem lgc {r r1 : Int64} (h : r = r1) : lg_cmp r r1 = 0 := by
  subst h
  unfold lg_cmp
  rw [if_neg (Int64.lt_irrefl), if_pos rfl]
theorem nI_tI {k : Nat} (h : k < 2 ^ 31) : (nI k).toInt = k := by
  unfold nI
  rw [Int32.toInt_ofNat']
  have e4 : Int32.size = 4294967296 := rfl
  exact Int.bmod_eq_of_le (by omega) (by omega)
theorem nI_addI {k j : Nat} {c : Int32} (e : c = nI j) : nI k + c = nI (k + j) := by
  subst e
  unfold nI
  exact (Int32.ofNat_add k j).symm
theorem vpn {k j L : Nat} {c : Int32} (h : k + j < L) (hL : L ≤ 3072) (e : c = nI j) : vp_in (nI k + c) L := by
  rw [nI_addI e]
  have h1 := nI_tI (k := k + j) (by omega)
  intro q
  rcases q with q | q
  · rw [Int32.lt_iff_toInt_lt, h1] at q
    have e0 : (0 : Int32).toInt = 0 := rfl
    omega
  · have e3 : (nI (k + j)).toNatClampNeg = (nI (k + j)).toInt.toNat := rfl
    rw [e3, h1] at q
    omega
theorem fitL {d : Nat} (h : d ≤ 800) : fitR d room_1 := by
  have e1 : room_1.frames = 2048 := rfl
  have e2 : room_1.locals = 84000 := rfl
  simp only [fitR, e1, e2]; omega
theorem LC_app {ad : Nat → Nat → Nat} {cy : Nat → ClassId} {Rr : va_W} {X : St} : LC ad cy Rr X = LC ad cy [] X ++ Rr := by
  unfold LC
  simp only [List.append_assoc, List.append_nil, List.nil_append]
theorem LM_app {ad : Nat → Nat → Nat} {cy : Nat → ClassId} {Rr : va_W} {X : St} : LM ad cy Rr X = LM ad cy [] X ++ Rr := by
  unfold LM
  simp only [List.append_assoc, List.append_nil, List.nil_append]
theorem lcm1 {D : va_G} {cy : Nat → ClassId} {F : (Nat → Prop) → State → Prop} {ad ad2 : Nat → Nat → Nat} {X S : St} {A : Nat → Prop} {s : State} {H : Heap} {locs : List Loc} (hI : In (D, tysC cy, F) (LC ad cy (LM ad2 cy [] S) X) A s H locs) (hK : va_K D vwCl (tysM cy) s) : In (D, tysM cy, F) (LM ad2 cy (LC ad cy [] X) S) A s H locs := by
  rw [LC_app] at hI
  have h2 := swX hI
  rw [← LM_app] at h2
  exact ⟨h2.1, h2.2.1, h2.2.2.1, hK, h2.2.2.2.2⟩
theorem lcm2 {D : va_G} {cy : Nat → ClassId} {F : (Nat → Prop) → State → Prop} {ad ad2 : Nat → Nat → Nat} {X S : St} {A : Nat → Prop} {s : State} {H : Heap} {locs : List Loc} (hI : In (D, tysM cy, F) (LM ad2 cy (LC ad cy [] X) S) A s H locs) (hK : va_K D vwCl (tysC cy) s) : In (D, tysC cy, F) (LC ad cy (LM ad2 cy [] S) X) A s H locs := by
  rw [LM_app] at hI
  have h2 := swX hI
  rw [← LC_app] at h2
  exact ⟨h2.1, h2.2.1, h2.2.2.1, hK, h2.2.2.2.2⟩
set_option maxRecDepth 100000 in
set_option maxHeartbeats 8000000 in
theorem law_loop {p : Program} {l : Launch} {e : Env} {s : State} {m : MethodId} {below : List Frame} {meth : Method} {c : Code} {D : va_G} {cy : Nat → ClassId} {z : Nat → Nat} {ad ad2 : Nat → Nat → Nat} {b L : Nat} {xs : Nat → Int32} {A : Nat → Prop} {QE : State → Prop} {Rel : St → St → Prop} (hS : SimAll Rel) (hL : L ≤ 3072) (E : CallFix p m c cL_law 4 s #[Value.ref b] TB RL) (hX : va_X b L xs s s.heap) (hbl : b < s.heap.size) (hbA : ¬ A b) (hKM : va_K D vwCl (tysM cy) s) (hKC : va_K D vwCl (tysC cy) s) (hcsL : 73 ≤ room_1.cells ∧ 3267 ≤ room_1.slots)
    (hend : ∀ (H : Heap) (locs : List Loc) (ls : Array Slot) (X S : St), In (D, tysC cy, SF z) (LC ad cy (LM ad2 cy [] S) X) A s H locs → W p l e room_1 s m #[Value.ref b] below meth c H locs 73 3267 QE (F0 m 1054 ls [])) :
    ∀ (n k : Nat) {X S : St} {H : Heap} {locs : List Loc} {ls : Array Slot}, L < k + 6 * n → k ≤ L → Rel X S → In (D, tysC cy, SF z) (LC ad cy (LM ad2 cy [] S) X) A s H locs → lv_has ls 4 [(0, .ref b), (1, .ref (ad 0 99)), (2, .ref (ad2 16 99)), (3, .int (nI k))] → W p l e room_1 s m #[Value.ref b] below meth c H locs 73 3267 QE (F0 m 18 ls []) := by
  have hx := E.1
  have hb := E.2.1
  obtain ⟨hh0, hh1, hh2, hh3, hh4, hh5, hh6, hh7, hh8, hh9, hh10, hh11, hh12, hh13, hh14, hh15, hh16, hh17, hh18, hh19, hh20, hh21, hh22, hh23, hh24, hh25, hh26, hh27⟩ := hS
  intro n
  induction n with
  | zero => intro k X S H locs ls h1 h2; exact absurd h1 (by omega)
  | succ n ih =>
    intro k X S H locs ls h1 h2 hRel hI hl
    refine lv_iload_n (pc := 18) hx hb dL_law_18 rfl (lv_at hl 3 rfl) ?_
    refine lv_aload_n (pc := 19) hx hb dL_law_19 rfl (lv_at hl 0 rfl) ?_
    refine va_slen (pc := 20) hx hb hX hbl hbA hI.2.2.1 dL_law_20 ?_
    refine lv_bipush (v := 6) (pc := 21) hx hb dL_law_21 rfl ?_
    refine lv_isub (pc := 23) hx hb dL_law_23 ?_
    refine lv_icmp_gt (tgt := 1054) (pc := 24) hx hb dL_law_24 (by decide) (fun _ => ?_) (fun c9 => ?_)
    · exact hend H locs ls X S hI
    have hk : k + 6 ≤ L := by
      rw [Int32.lt_iff_toInt_lt] at c9
      rcases Nat.lt_or_ge L 6 with h6 | h6
      · exfalso
        apply c9
        have e5 : (nI L - 6 : Int32).toInt = (L : Int) - 6 := by
          rcases (by omega : L = 0 ∨ L = 1 ∨ L = 2 ∨ L = 3 ∨ L = 4 ∨ L = 5) with rfl | rfl | rfl | rfl | rfl | rfl <;> decide
        have e6 := nI_tI (k := k) (by omega)
        have e7 : (nI L - 6 : Int32).toInt < (nI k).toInt := by omega
        exact e7
      · have e5 : (nI L - 6 : Int32) = nI (L - 6) := by
          have e8 := nI_addI (k := L - 6) (j := 6) (c := 6) rfl
          rw [show L - 6 + 6 = L by omega] at e8
          rw [← e8]
          exact Int32.add_sub_cancel _ _
        have e9 : ¬ (nI (L - 6)).toInt < (nI k).toInt := by rw [← e5]; exact c9
        rw [nI_tI (by omega), nI_tI (by omega)] at e9
        omega
    have hnext : ∀ (X1 S1 : St), Rel X1 S1 → ∀ {H : Heap} {locs : List Loc} {ls : Array Slot}, In (D, tysC cy, SF z) (LC ad cy (LM ad2 cy [] S1) X1) A s H locs → lv_has ls 4 [(0, .ref b), (1, .ref (ad 0 99)), (2, .ref (ad2 16 99)), (3, .int (nI k))] → W p l e room_1 s m #[Value.ref b] below meth c H locs 73 3267 QE (F0 m 1048 ls []) := by
      intro X1 S1 hr1 H locs ls hI hl
      refine lv_iinc (v := nI (k + 6)) (lv' := [(3, .int (nI (k + 6))), (0, .ref b), (1, .ref (ad 0 99)), (2, .ref (ad2 16 99))]) (pc := 1048) hx hb dL_law_1048 hl (k := 3) rfl (nI_addI rfl) (by decide) rfl (fun ls hl => ?_)
      refine lv_goto (tgt := 18) (pc := 1051) hx hb dL_law_1051 (by decide) ?_
      exact ih (k + 6) (by omega) (by omega) hr1 hI (lv_sub hl [1, 2, 3, 0] rfl)
    refine lv_aload_n (pc := 27) hx hb dL_law_27 rfl (lv_at hl 0 rfl) ?_
    refine lv_iload_n (pc := 28) hx hb dL_law_28 rfl (lv_at hl 3 rfl) ?_
    refine va_sld (pc := 29) hx hb hX hbl hbA hI.2.2.1 (by have h := vpn (k := k) (j := 0) (L := L) (c := 0) (by omega) hL rfl; rw [nI_addI (j := 0) (c := 0) rfl] at h; exact h) dL_law_29 ?_
    refine lv_bipush (v := 31) (pc := 30) hx hb dL_law_30 rfl ?_
    refine lv_iand (pc := 32) hx hb dL_law_32 ?_
    refine lv_topi (fun x ex => ?_)
    by_cases c0 : x = 0
    · refine lv_tableIn (tgt := 160) (pc := 33) hx hb dL_law_33 (by rw [c0]; decide) (by rw [c0]; decide) (by rw [c0]; rfl) (by decide) ?_
      refine lv_aload_n (pc := 160) hx hb dL_law_160 rfl (lv_at hl 1 rfl) ?_
      refine lv_aload_n (pc := 161) hx hb dL_law_161 rfl (lv_at hl 0 rfl) ?_
      refine lv_iload_n (pc := 162) hx hb dL_law_162 rfl (lv_at hl 3 rfl) ?_
      refine lv_iconst (v := 1) (pc := 163) hx hb dL_law_163 rfl ?_
      refine lv_iadd (pc := 164) hx hb dL_law_164 ?_
      refine va_sld (pc := 165) hx hb hX hbl hbA hI.2.2.1 (vpn (j := 1) (by omega) hL rfl) dL_law_165 ?_
      refine lv_aload_n (pc := 166) hx hb dL_law_166 rfl (lv_at hl 0 rfl) ?_
      refine lv_iload_n (pc := 167) hx hb dL_law_167 rfl (lv_at hl 3 rfl) ?_
      refine lv_iconst (v := 2) (pc := 168) hx hb dL_law_168 rfl ?_
      refine lv_iadd (pc := 169) hx hb dL_law_169 ?_
      refine va_sld (pc := 170) hx hb hX hbl hbA hI.2.2.1 (vpn (j := 2) (by omega) hL rfl) dL_law_170 ?_
      refine lv_aload_n (pc := 171) hx hb dL_law_171 rfl (lv_at hl 0 rfl) ?_
      refine lv_iload_n (pc := 172) hx hb dL_law_172 rfl (lv_at hl 3 rfl) ?_
      refine lv_iconst (v := 3) (pc := 173) hx hb dL_law_173 rfl ?_
      refine lv_iadd (pc := 174) hx hb dL_law_174 ?_
      refine va_sld (pc := 175) hx hb hX hbl hbA hI.2.2.1 (vpn (j := 3) (by omega) hL rfl) dL_law_175 ?_
      refine callVI (G := (D, tysC cy, SF z)) (L := LC ad cy (LM ad2 cy [] S)) (pc := 176) (As := [.int (xs (nI k + 1).toNatClampNeg), .int (xs (nI k + 2).toNatClampNeg), .int (xs (nI k + 3).toNatClampNeg)]) (rest := []) stabSF E hcsL hl hI (tX5_set (hh0 X S _ _ _ hRel)) mwL_13 (fitL (by decide)) (at5 rfl) rfl rfl rfl rfl (Nat.le_of_ble_eq_true rfl) dL_law_176 (fun r X1 H locs hf hI => ?_)
      have hI := lcm1 hI hKM
      refine lv_aload_n (pc := 179) hx hb dL_law_179 rfl (lv_at hl 2 rfl) ?_
      refine lv_aload_n (pc := 180) hx hb dL_law_180 rfl (lv_at hl 0 rfl) ?_
      refine lv_iload_n (pc := 181) hx hb dL_law_181 rfl (lv_at hl 3 rfl) ?_
      refine lv_iconst (v := 1) (pc := 182) hx hb dL_law_182 rfl ?_
      refine lv_iadd (pc := 183) hx hb dL_law_183 ?_
      refine va_sld (pc := 184) hx hb hX hbl hbA hI.2.2.1 (vpn (j := 1) (by omega) hL rfl) dL_law_184 ?_
      refine lv_aload_n (pc := 185) hx hb dL_law_185 rfl (lv_at hl 0 rfl) ?_
      refine lv_iload_n (pc := 186) hx hb dL_law_186 rfl (lv_at hl 3 rfl) ?_
      refine lv_iconst (v := 2) (pc := 187) hx hb dL_law_187 rfl ?_
      refine lv_iadd (pc := 188) hx hb dL_law_188 ?_
      refine va_sld (pc := 189) hx hb hX hbl hbA hI.2.2.1 (vpn (j := 2) (by omega) hL rfl) dL_law_189 ?_
      refine lv_aload_n (pc := 190) hx hb dL_law_190 rfl (lv_at hl 0 rfl) ?_
      refine lv_iload_n (pc := 191) hx hb dL_law_191 rfl (lv_at hl 3 rfl) ?_
      refine lv_iconst (v := 3) (pc := 192) hx hb dL_law_192 rfl ?_
      refine lv_iadd (pc := 193) hx hb dL_law_193 ?_
      refine va_sld (pc := 194) hx hb hX hbl hbA hI.2.2.1 (vpn (j := 3) (by omega) hL rfl) dL_law_194 ?_
      refine callVI (G := (D, tysM cy, SF z)) (L := LM ad2 cy (LC ad cy [] X1)) (pc := 195) (As := [.int (xs (nI k + 1).toNatClampNeg), .int (xs (nI k + 2).toNatClampNeg), .int (xs (nI k + 3).toNatClampNeg)]) (rest := [.int r]) stabSF E hcsL hl hI (tX6_set stabSF hf) mwL_17 (fitL (by decide)) at6 rfl rfl rfl rfl (Nat.le_of_ble_eq_true rfl) dL_law_195 (fun r1 S1 H locs hf hI => ?_)
      have hI := lcm2 hI hKC
      refine lv_icmp_eq (tgt := 1048) (pc := 198) hx hb dL_law_198 (by decide) (fun _ => ?_) (fun c9 => absurd hf.1 c9)
      exact hnext X1 S1 hf.2 hI hl
    by_cases c1 : x = 1
    · refine lv_tableIn (tgt := 203) (pc := 33) hx hb dL_law_33 (by rw [c1]; decide) (by rw [c1]; decide) (by rw [c1]; rfl) (by decide) ?_
      refine lv_aload_n (pc := 203) hx hb dL_law_203 rfl (lv_at hl 1 rfl) ?_
      refine lv_aload_n (pc := 204) hx hb dL_law_204 rfl (lv_at hl 0 rfl) ?_
      refine lv_iload_n (pc := 205) hx hb dL_law_205 rfl (lv_at hl 3 rfl) ?_
      refine lv_iconst (v := 1) (pc := 206) hx hb dL_law_206 rfl ?_
      refine lv_iadd (pc := 207) hx hb dL_law_207 ?_
      refine va_sld (pc := 208) hx hb hX hbl hbA hI.2.2.1 (vpn (j := 1) (by omega) hL rfl) dL_law_208 ?_
      refine lv_aload_n (pc := 209) hx hb dL_law_209 rfl (lv_at hl 0 rfl) ?_
      refine lv_iload_n (pc := 210) hx hb dL_law_210 rfl (lv_at hl 3 rfl) ?_
      refine lv_iconst (v := 2) (pc := 211) hx hb dL_law_211 rfl ?_
      refine lv_iadd (pc := 212) hx hb dL_law_212 ?_
      refine va_sld (pc := 213) hx hb hX hbl hbA hI.2.2.1 (vpn (j := 2) (by omega) hL rfl) dL_law_213 ?_
      refine lv_aload_n (pc := 214) hx hb dL_law_214 rfl (lv_at hl 0 rfl) ?_
      refine lv_iload_n (pc := 215) hx hb dL_law_215 rfl (lv_at hl 3 rfl) ?_
      refine lv_iconst (v := 3) (pc := 216) hx hb dL_law_216 rfl ?_
      refine lv_iadd (pc := 217) hx hb dL_law_217 ?_
      refine va_sld (pc := 218) hx hb hX hbl hbA hI.2.2.1 (vpn (j := 3) (by omega) hL rfl) dL_law_218 ?_
      refine callVI (G := (D, tysC cy, SF z)) (L := LC ad cy (LM ad2 cy [] S)) (pc := 219) (As := [.int (xs (nI k + 1).toNatClampNeg), .int (xs (nI k + 2).toNatClampNeg), .int (xs (nI k + 3).toNatClampNeg)]) (rest := []) stabSF E hcsL hl hI (tX5_person (hh1 X S _ _ _ hRel)) mwL_18 (fitL (by decide)) (at5 rfl) rfl rfl rfl rfl (Nat.le_of_ble_eq_true rfl) dL_law_219 (fun r X1 H locs hf hI => ?_)
      have hI := lcm1 hI hKM
      refine lv_aload_n (pc := 222) hx hb dL_law_222 rfl (lv_at hl 2 rfl) ?_
      refine lv_aload_n (pc := 223) hx hb dL_law_223 rfl (lv_at hl 0 rfl) ?_
      refine lv_iload_n (pc := 224) hx hb dL_law_224 rfl (lv_at hl 3 rfl) ?_
      refine lv_iconst (v := 1) (pc := 225) hx hb dL_law_225 rfl ?_
      refine lv_iadd (pc := 226) hx hb dL_law_226 ?_
      refine va_sld (pc := 227) hx hb hX hbl hbA hI.2.2.1 (vpn (j := 1) (by omega) hL rfl) dL_law_227 ?_
      refine lv_aload_n (pc := 228) hx hb dL_law_228 rfl (lv_at hl 0 rfl) ?_
      refine lv_iload_n (pc := 229) hx hb dL_law_229 rfl (lv_at hl 3 rfl) ?_
      refine lv_iconst (v := 2) (pc := 230) hx hb dL_law_230 rfl ?_
      refine lv_iadd (pc := 231) hx hb dL_law_231 ?_
      refine va_sld (pc := 232) hx hb hX hbl hbA hI.2.2.1 (vpn (j := 2) (by omega) hL rfl) dL_law_232 ?_
      refine lv_aload_n (pc := 233) hx hb dL_law_233 rfl (lv_at hl 0 rfl) ?_
      refine lv_iload_n (pc := 234) hx hb dL_law_234 rfl (lv_at hl 3 rfl) ?_
      refine lv_iconst (v := 3) (pc := 235) hx hb dL_law_235 rfl ?_
      refine lv_iadd (pc := 236) hx hb dL_law_236 ?_
      refine va_sld (pc := 237) hx hb hX hbl hbA hI.2.2.1 (vpn (j := 3) (by omega) hL rfl) dL_law_237 ?_
      refine callVI (G := (D, tysM cy, SF z)) (L := LM ad2 cy (LC ad cy [] X1)) (pc := 238) (As := [.int (xs (nI k + 1).toNatClampNeg), .int (xs (nI k + 2).toNatClampNeg), .int (xs (nI k + 3).toNatClampNeg)]) (rest := [.int r]) stabSF E hcsL hl hI (tX6_person stabSF hf) mwL_21 (fitL (by decide)) at6 rfl rfl rfl rfl (Nat.le_of_ble_eq_true rfl) dL_law_238 (fun r1 S1 H locs hf hI => ?_)
      have hI := lcm2 hI hKC
      refine lv_icmp_eq (tgt := 1048) (pc := 241) hx hb dL_law_241 (by decide) (fun _ => ?_) (fun c9 => absurd hf.1 c9)
      exact hnext X1 S1 hf.2 hI hl
    by_cases c2 : x = 2
    · refine lv_tableIn (tgt := 246) (pc := 33) hx hb dL_law_33 (by rw [c2]; decide) (by rw [c2]; decide) (by rw [c2]; rfl) (by decide) ?_
      refine lv_aload_n (pc := 246) hx hb dL_law_246 rfl (lv_at hl 1 rfl) ?_
      refine lv_aload_n (pc := 247) hx hb dL_law_247 rfl (lv_at hl 0 rfl) ?_
      refine lv_iload_n (pc := 248) hx hb dL_law_248 rfl (lv_at hl 3 rfl) ?_
      refine lv_iconst (v := 1) (pc := 249) hx hb dL_law_249 rfl ?_
      refine lv_iadd (pc := 250) hx hb dL_law_250 ?_
      refine va_sld (pc := 251) hx hb hX hbl hbA hI.2.2.1 (vpn (j := 1) (by omega) hL rfl) dL_law_251 ?_
      refine lv_aload_n (pc := 252) hx hb dL_law_252 rfl (lv_at hl 0 rfl) ?_
      refine lv_iload_n (pc := 253) hx hb dL_law_253 rfl (lv_at hl 3 rfl) ?_
      refine lv_iconst (v := 2) (pc := 254) hx hb dL_law_254 rfl ?_
      refine lv_iadd (pc := 255) hx hb dL_law_255 ?_
      refine va_sld (pc := 256) hx hb hX hbl hbA hI.2.2.1 (vpn (j := 2) (by omega) hL rfl) dL_law_256 ?_
      refine callVI (G := (D, tysC cy, SF z)) (L := LC ad cy (LM ad2 cy [] S)) (pc := 257) (As := [.int (xs (nI k + 1).toNatClampNeg), .int (xs (nI k + 2).toNatClampNeg)]) (rest := []) stabSF E hcsL hl hI (tX5_told (hh2 X S _ _ hRel)) mwL_22 (fitL (by decide)) (at5 rfl) rfl rfl rfl rfl (Nat.le_of_ble_eq_true rfl) dL_law_257 (fun r X1 H locs hf hI => ?_)
      have hI := lcm1 hI hKM
      refine lv_aload_n (pc := 260) hx hb dL_law_260 rfl (lv_at hl 2 rfl) ?_
      refine lv_aload_n (pc := 261) hx hb dL_law_261 rfl (lv_at hl 0 rfl) ?_
      refine lv_iload_n (pc := 262) hx hb dL_law_262 rfl (lv_at hl 3 rfl) ?_
      refine lv_iconst (v := 1) (pc := 263) hx hb dL_law_263 rfl ?_
      refine lv_iadd (pc := 264) hx hb dL_law_264 ?_
      refine va_sld (pc := 265) hx hb hX hbl hbA hI.2.2.1 (vpn (j := 1) (by omega) hL rfl) dL_law_265 ?_
      refine lv_aload_n (pc := 266) hx hb dL_law_266 rfl (lv_at hl 0 rfl) ?_
      refine lv_iload_n (pc := 267) hx hb dL_law_267 rfl (lv_at hl 3 rfl) ?_
      refine lv_iconst (v := 2) (pc := 268) hx hb dL_law_268 rfl ?_
      refine lv_iadd (pc := 269) hx hb dL_law_269 ?_
      refine va_sld (pc := 270) hx hb hX hbl hbA hI.2.2.1 (vpn (j := 2) (by omega) hL rfl) dL_law_270 ?_
      refine callVI (G := (D, tysM cy, SF z)) (L := LM ad2 cy (LC ad cy [] X1)) (pc := 271) (As := [.int (xs (nI k + 1).toNatClampNeg), .int (xs (nI k + 2).toNatClampNeg)]) (rest := [.int r]) stabSF E hcsL hl hI (tX6_told stabSF hf) mwL_26 (fitL (by decide)) at6 rfl rfl rfl rfl (Nat.le_of_ble_eq_true rfl) dL_law_271 (fun r1 S1 H locs hf hI => ?_)
      have hI := lcm2 hI hKC
      refine lv_icmp_eq (tgt := 1048) (pc := 274) hx hb dL_law_274 (by decide) (fun _ => ?_) (fun c9 => absurd hf.1 c9)
      exact hnext X1 S1 hf.2 hI hl
    by_cases c3 : x = 3
    · refine lv_tableIn (tgt := 279) (pc := 33) hx hb dL_law_33 (by rw [c3]; decide) (by rw [c3]; decide) (by rw [c3]; rfl) (by decide) ?_
      refine lv_aload_n (pc := 279) hx hb dL_law_279 rfl (lv_at hl 1 rfl) ?_
      refine lv_aload_n (pc := 280) hx hb dL_law_280 rfl (lv_at hl 0 rfl) ?_
      refine lv_iload_n (pc := 281) hx hb dL_law_281 rfl (lv_at hl 3 rfl) ?_
      refine lv_iconst (v := 1) (pc := 282) hx hb dL_law_282 rfl ?_
      refine lv_iadd (pc := 283) hx hb dL_law_283 ?_
      refine va_sld (pc := 284) hx hb hX hbl hbA hI.2.2.1 (vpn (j := 1) (by omega) hL rfl) dL_law_284 ?_
      refine callVJ (G := (D, tysC cy, SF z)) (L := LC ad cy (LM ad2 cy [] S)) (pc := 285) (As := [.int (xs (nI k + 1).toNatClampNeg)]) (rest := []) stabSF E hcsL hl hI (tX5_picture (hh3 X S _ hRel)) mwL_27 (fitL (by decide)) (at5 rfl) rfl rfl rfl rfl (Nat.le_of_ble_eq_true rfl) dL_law_285 (fun r X1 H locs hf hI => ?_)
      have hI := lcm1 hI hKM
      refine lv_aload_n (pc := 288) hx hb dL_law_288 rfl (lv_at hl 2 rfl) ?_
      refine lv_aload_n (pc := 289) hx hb dL_law_289 rfl (lv_at hl 0 rfl) ?_
      refine lv_iload_n (pc := 290) hx hb dL_law_290 rfl (lv_at hl 3 rfl) ?_
      refine lv_iconst (v := 1) (pc := 291) hx hb dL_law_291 rfl ?_
      refine lv_iadd (pc := 292) hx hb dL_law_292 ?_
      refine va_sld (pc := 293) hx hb hX hbl hbA hI.2.2.1 (vpn (j := 1) (by omega) hL rfl) dL_law_293 ?_
      refine callVJ (G := (D, tysM cy, SF z)) (L := LM ad2 cy (LC ad cy [] X1)) (pc := 294) (As := [.int (xs (nI k + 1).toNatClampNeg)]) (rest := [.long r]) stabSF E hcsL hl hI (tX6_picture stabSF hf) mwL_31 (fitL (by decide)) at6 rfl rfl rfl rfl (Nat.le_of_ble_eq_true rfl) dL_law_294 (fun r1 S1 H locs hf hI => ?_)
      have hI := lcm2 hI hKC
      refine W.lcmp (pc := 297) hx hb dL_law_297 ?_
      refine lv_if_eq (tgt := 1048) (pc := 298) hx hb dL_law_298 (by decide) (fun _ => ?_) (fun c9 => absurd (lgc hf.1) c9)
      exact hnext X1 S1 hf.2 hI hl
    by_cases c4 : x = 4
    · refine lv_tableIn (tgt := 303) (pc := 33) hx hb dL_law_33 (by rw [c4]; decide) (by rw [c4]; decide) (by rw [c4]; rfl) (by decide) ?_
      refine lv_aload_n (pc := 303) hx hb dL_law_303 rfl (lv_at hl 1 rfl) ?_
      refine lv_aload_n (pc := 304) hx hb dL_law_304 rfl (lv_at hl 0 rfl) ?_
      refine lv_iload_n (pc := 305) hx hb dL_law_305 rfl (lv_at hl 3 rfl) ?_
      refine lv_iconst (v := 1) (pc := 306) hx hb dL_law_306 rfl ?_
      refine lv_iadd (pc := 307) hx hb dL_law_307 ?_
      refine va_sld (pc := 308) hx hb hX hbl hbA hI.2.2.1 (vpn (j := 1) (by omega) hL rfl) dL_law_308 ?_
      refine callVI (G := (D, tysC cy, SF z)) (L := LC ad cy (LM ad2 cy [] S)) (pc := 309) (As := [.int (xs (nI k + 1).toNatClampNeg)]) (rest := []) stabSF E hcsL hl hI (tX5_feed (hh4 X S _ hRel)) mwL_32 (fitL (by decide)) (at5 rfl) rfl rfl rfl rfl (Nat.le_of_ble_eq_true rfl) dL_law_309 (fun r X1 H locs hf hI => ?_)
      have hI := lcm1 hI hKM
      refine lv_aload_n (pc := 312) hx hb dL_law_312 rfl (lv_at hl 2 rfl) ?_
      refine lv_aload_n (pc := 313) hx hb dL_law_313 rfl (lv_at hl 0 rfl) ?_
      refine lv_iload_n (pc := 314) hx hb dL_law_314 rfl (lv_at hl 3 rfl) ?_
      refine lv_iconst (v := 1) (pc := 315) hx hb dL_law_315 rfl ?_
      refine lv_iadd (pc := 316) hx hb dL_law_316 ?_
      refine va_sld (pc := 317) hx hb hX hbl hbA hI.2.2.1 (vpn (j := 1) (by omega) hL rfl) dL_law_317 ?_
      refine callVI (G := (D, tysM cy, SF z)) (L := LM ad2 cy (LC ad cy [] X1)) (pc := 318) (As := [.int (xs (nI k + 1).toNatClampNeg)]) (rest := [.int r]) stabSF E hcsL hl hI (tX6_feed stabSF hf) mwL_36 (fitL (by decide)) at6 rfl rfl rfl rfl (Nat.le_of_ble_eq_true rfl) dL_law_318 (fun r1 S1 H locs hf hI => ?_)
      have hI := lcm2 hI hKC
      refine lv_icmp_eq (tgt := 1048) (pc := 321) hx hb dL_law_321 (by decide) (fun _ => ?_) (fun c9 => absurd hf.1 c9)
      exact hnext X1 S1 hf.2 hI hl
    by_cases c5 : x = 5
    · refine lv_tableIn (tgt := 326) (pc := 33) hx hb dL_law_33 (by rw [c5]; decide) (by rw [c5]; decide) (by rw [c5]; rfl) (by decide) ?_
      refine lv_aload_n (pc := 326) hx hb dL_law_326 rfl (lv_at hl 1 rfl) ?_
      refine callVI (G := (D, tysC cy, SF z)) (L := LC ad cy (LM ad2 cy [] S)) (pc := 327) (As := []) (rest := []) stabSF E hcsL hl hI (tX5_text (hh5 X S hRel)) mwL_37 (fitL (by decide)) (at5 rfl) rfl rfl rfl rfl (Nat.le_of_ble_eq_true rfl) dL_law_327 (fun r X1 H locs hf hI => ?_)
      have hI := lcm1 hI hKM
      refine lv_aload_n (pc := 330) hx hb dL_law_330 rfl (lv_at hl 2 rfl) ?_
      refine callVI (G := (D, tysM cy, SF z)) (L := LM ad2 cy (LC ad cy [] X1)) (pc := 331) (As := []) (rest := [.int r]) stabSF E hcsL hl hI (tX6_text stabSF hf) mwL_41 (fitL (by decide)) at6 rfl rfl rfl rfl (Nat.le_of_ble_eq_true rfl) dL_law_331 (fun r1 S1 H locs hf hI => ?_)
      have hI := lcm2 hI hKC
      refine lv_icmp_eq (tgt := 1048) (pc := 334) hx hb dL_law_334 (by decide) (fun _ => ?_) (fun c9 => absurd hf.1 c9)
      exact hnext X1 S1 hf.2 hI hl
    by_cases c6 : x = 6
    · refine lv_tableIn (tgt := 339) (pc := 33) hx hb dL_law_33 (by rw [c6]; decide) (by rw [c6]; decide) (by rw [c6]; rfl) (by decide) ?_
      refine lv_aload_n (pc := 339) hx hb dL_law_339 rfl (lv_at hl 1 rfl) ?_
      refine lv_aload_n (pc := 340) hx hb dL_law_340 rfl (lv_at hl 0 rfl) ?_
      refine lv_iload_n (pc := 341) hx hb dL_law_341 rfl (lv_at hl 3 rfl) ?_
      refine lv_iconst (v := 1) (pc := 342) hx hb dL_law_342 rfl ?_
      refine lv_iadd (pc := 343) hx hb dL_law_343 ?_
      refine va_sld (pc := 344) hx hb hX hbl hbA hI.2.2.1 (vpn (j := 1) (by omega) hL rfl) dL_law_344 ?_
      refine callVI (G := (D, tysC cy, SF z)) (L := LC ad cy (LM ad2 cy [] S)) (pc := 345) (As := [.int (xs (nI k + 1).toNatClampNeg)]) (rest := []) stabSF E hcsL hl hI (tX5_force (hh6 X S _ hRel)) mwL_42 (fitL (by decide)) (at5 rfl) rfl rfl rfl rfl (Nat.le_of_ble_eq_true rfl) dL_law_345 (fun r X1 H locs hf hI => ?_)
      have hI := lcm1 hI hKM
      refine lv_aload_n (pc := 348) hx hb dL_law_348 rfl (lv_at hl 2 rfl) ?_
      refine lv_aload_n (pc := 349) hx hb dL_law_349 rfl (lv_at hl 0 rfl) ?_
      refine lv_iload_n (pc := 350) hx hb dL_law_350 rfl (lv_at hl 3 rfl) ?_
      refine lv_iconst (v := 1) (pc := 351) hx hb dL_law_351 rfl ?_
      refine lv_iadd (pc := 352) hx hb dL_law_352 ?_
      refine va_sld (pc := 353) hx hb hX hbl hbA hI.2.2.1 (vpn (j := 1) (by omega) hL rfl) dL_law_353 ?_
      refine callVI (G := (D, tysM cy, SF z)) (L := LM ad2 cy (LC ad cy [] X1)) (pc := 354) (As := [.int (xs (nI k + 1).toNatClampNeg)]) (rest := [.int r]) stabSF E hcsL hl hI (tX6_force stabSF hf) mwL_45 (fitL (by decide)) at6 rfl rfl rfl rfl (Nat.le_of_ble_eq_true rfl) dL_law_354 (fun r1 S1 H locs hf hI => ?_)
      have hI := lcm2 hI hKC
      refine lv_icmp_eq (tgt := 1048) (pc := 357) hx hb dL_law_357 (by decide) (fun _ => ?_) (fun c9 => absurd hf.1 c9)
      exact hnext X1 S1 hf.2 hI hl
    by_cases c7 : x = 7
    · refine lv_tableIn (tgt := 362) (pc := 33) hx hb dL_law_33 (by rw [c7]; decide) (by rw [c7]; decide) (by rw [c7]; rfl) (by decide) ?_
      refine lv_aload_n (pc := 362) hx hb dL_law_362 rfl (lv_at hl 1 rfl) ?_
      refine callVI (G := (D, tysC cy, SF z)) (L := LC ad cy (LM ad2 cy [] S)) (pc := 363) (As := []) (rest := []) stabSF E hcsL hl hI (tX5_day (hh7 X S hRel)) mwL_46 (fitL (by decide)) (at5 rfl) rfl rfl rfl rfl (Nat.le_of_ble_eq_true rfl) dL_law_363 (fun r X1 H locs hf hI => ?_)
      have hI := lcm1 hI hKM
      refine lv_aload_n (pc := 366) hx hb dL_law_366 rfl (lv_at hl 2 rfl) ?_
      refine callVI (G := (D, tysM cy, SF z)) (L := LM ad2 cy (LC ad cy [] X1)) (pc := 367) (As := []) (rest := [.int r]) stabSF E hcsL hl hI (tX6_day stabSF hf) mwL_49 (fitL (by decide)) at6 rfl rfl rfl rfl (Nat.le_of_ble_eq_true rfl) dL_law_367 (fun r1 S1 H locs hf hI => ?_)
      have hI := lcm2 hI hKC
      refine lv_icmp_eq (tgt := 1048) (pc := 370) hx hb dL_law_370 (by decide) (fun _ => ?_) (fun c9 => absurd hf.1 c9)
      exact hnext X1 S1 hf.2 hI hl
    by_cases c8 : x = 8
    · refine lv_tableIn (tgt := 375) (pc := 33) hx hb dL_law_33 (by rw [c8]; decide) (by rw [c8]; decide) (by rw [c8]; rfl) (by decide) ?_
      refine lv_aload_n (pc := 375) hx hb dL_law_375 rfl (lv_at hl 1 rfl) ?_
      refine lv_aload_n (pc := 376) hx hb dL_law_376 rfl (lv_at hl 0 rfl) ?_
      refine lv_iload_n (pc := 377) hx hb dL_law_377 rfl (lv_at hl 3 rfl) ?_
      refine lv_iconst (v := 1) (pc := 378) hx hb dL_law_378 rfl ?_
      refine lv_iadd (pc := 379) hx hb dL_law_379 ?_
      refine va_sld (pc := 380) hx hb hX hbl hbA hI.2.2.1 (vpn (j := 1) (by omega) hL rfl) dL_law_380 ?_
      refine lv_aload_n (pc := 381) hx hb dL_law_381 rfl (lv_at hl 0 rfl) ?_
      refine lv_iload_n (pc := 382) hx hb dL_law_382 rfl (lv_at hl 3 rfl) ?_
      refine lv_iconst (v := 2) (pc := 383) hx hb dL_law_383 rfl ?_
      refine lv_iadd (pc := 384) hx hb dL_law_384 ?_
      refine va_sld (pc := 385) hx hb hX hbl hbA hI.2.2.1 (vpn (j := 2) (by omega) hL rfl) dL_law_385 ?_
      refine lv_aload_n (pc := 386) hx hb dL_law_386 rfl (lv_at hl 0 rfl) ?_
      refine lv_iload_n (pc := 387) hx hb dL_law_387 rfl (lv_at hl 3 rfl) ?_
      refine lv_iconst (v := 3) (pc := 388) hx hb dL_law_388 rfl ?_
      refine lv_iadd (pc := 389) hx hb dL_law_389 ?_
      refine va_sld (pc := 390) hx hb hX hbl hbA hI.2.2.1 (vpn (j := 3) (by omega) hL rfl) dL_law_390 ?_
      refine callVI (G := (D, tysC cy, SF z)) (L := LC ad cy (LM ad2 cy [] S)) (pc := 391) (As := [.int (xs (nI k + 1).toNatClampNeg), .int (xs (nI k + 2).toNatClampNeg), .int (xs (nI k + 3).toNatClampNeg)]) (rest := []) stabSF E hcsL hl hI (tX5_run (hh8 X S _ _ _ hRel)) mwL_50 (fitL (by decide)) (at5 rfl) rfl rfl rfl rfl (Nat.le_of_ble_eq_true rfl) dL_law_391 (fun r X1 H locs hf hI => ?_)
      have hI := lcm1 hI hKM
      refine lv_aload_n (pc := 394) hx hb dL_law_394 rfl (lv_at hl 2 rfl) ?_
      refine lv_aload_n (pc := 395) hx hb dL_law_395 rfl (lv_at hl 0 rfl) ?_
      refine lv_iload_n (pc := 396) hx hb dL_law_396 rfl (lv_at hl 3 rfl) ?_
      refine lv_iconst (v := 1) (pc := 397) hx hb dL_law_397 rfl ?_
      refine lv_iadd (pc := 398) hx hb dL_law_398 ?_
      refine va_sld (pc := 399) hx hb hX hbl hbA hI.2.2.1 (vpn (j := 1) (by omega) hL rfl) dL_law_399 ?_
      refine lv_aload_n (pc := 400) hx hb dL_law_400 rfl (lv_at hl 0 rfl) ?_
      refine lv_iload_n (pc := 401) hx hb dL_law_401 rfl (lv_at hl 3 rfl) ?_
      refine lv_iconst (v := 2) (pc := 402) hx hb dL_law_402 rfl ?_
      refine lv_iadd (pc := 403) hx hb dL_law_403 ?_
      refine va_sld (pc := 404) hx hb hX hbl hbA hI.2.2.1 (vpn (j := 2) (by omega) hL rfl) dL_law_404 ?_
      refine lv_aload_n (pc := 405) hx hb dL_law_405 rfl (lv_at hl 0 rfl) ?_
      refine lv_iload_n (pc := 406) hx hb dL_law_406 rfl (lv_at hl 3 rfl) ?_
      refine lv_iconst (v := 3) (pc := 407) hx hb dL_law_407 rfl ?_
      refine lv_iadd (pc := 408) hx hb dL_law_408 ?_
      refine va_sld (pc := 409) hx hb hX hbl hbA hI.2.2.1 (vpn (j := 3) (by omega) hL rfl) dL_law_409 ?_
      refine callVI (G := (D, tysM cy, SF z)) (L := LM ad2 cy (LC ad cy [] X1)) (pc := 410) (As := [.int (xs (nI k + 1).toNatClampNeg), .int (xs (nI k + 2).toNatClampNeg), .int (xs (nI k + 3).toNatClampNeg)]) (rest := [.int r]) stabSF E hcsL hl hI (tX6_run stabSF hf) mwL_53 (fitL (by decide)) at6 rfl rfl rfl rfl (Nat.le_of_ble_eq_true rfl) dL_law_410 (fun r1 S1 H locs hf hI => ?_)
      have hI := lcm2 hI hKC
      refine lv_icmp_eq (tgt := 1048) (pc := 413) hx hb dL_law_413 (by decide) (fun _ => ?_) (fun c9 => absurd hf.1 c9)
      exact hnext X1 S1 hf.2 hI hl
    by_cases c9 : x = 9
    · refine lv_tableIn (tgt := 418) (pc := 33) hx hb dL_law_33 (by rw [c9]; decide) (by rw [c9]; decide) (by rw [c9]; rfl) (by decide) ?_
      refine lv_aload_n (pc := 418) hx hb dL_law_418 rfl (lv_at hl 1 rfl) ?_
      refine lv_aload_n (pc := 419) hx hb dL_law_419 rfl (lv_at hl 0 rfl) ?_
      refine lv_iload_n (pc := 420) hx hb dL_law_420 rfl (lv_at hl 3 rfl) ?_
      refine lv_iconst (v := 1) (pc := 421) hx hb dL_law_421 rfl ?_
      refine lv_iadd (pc := 422) hx hb dL_law_422 ?_
      refine va_sld (pc := 423) hx hb hX hbl hbA hI.2.2.1 (vpn (j := 1) (by omega) hL rfl) dL_law_423 ?_
      refine callVJ (G := (D, tysC cy, SF z)) (L := LC ad cy (LM ad2 cy [] S)) (pc := 424) (As := [.int (xs (nI k + 1).toNatClampNeg)]) (rest := []) stabSF E hcsL hl hI (tX5_later (hh9 X S _ hRel)) mwL_54 (fitL (by decide)) (at5 rfl) rfl rfl rfl rfl (Nat.le_of_ble_eq_true rfl) dL_law_424 (fun r X1 H locs hf hI => ?_)
      have hI := lcm1 hI hKM
      refine lv_aload_n (pc := 427) hx hb dL_law_427 rfl (lv_at hl 2 rfl) ?_
      refine lv_aload_n (pc := 428) hx hb dL_law_428 rfl (lv_at hl 0 rfl) ?_
      refine lv_iload_n (pc := 429) hx hb dL_law_429 rfl (lv_at hl 3 rfl) ?_
      refine lv_iconst (v := 1) (pc := 430) hx hb dL_law_430 rfl ?_
      refine lv_iadd (pc := 431) hx hb dL_law_431 ?_
      refine va_sld (pc := 432) hx hb hX hbl hbA hI.2.2.1 (vpn (j := 1) (by omega) hL rfl) dL_law_432 ?_
      refine callVJ (G := (D, tysM cy, SF z)) (L := LM ad2 cy (LC ad cy [] X1)) (pc := 433) (As := [.int (xs (nI k + 1).toNatClampNeg)]) (rest := [.long r]) stabSF E hcsL hl hI (tX6_later stabSF hf) mwL_57 (fitL (by decide)) at6 rfl rfl rfl rfl (Nat.le_of_ble_eq_true rfl) dL_law_433 (fun r1 S1 H locs hf hI => ?_)
      have hI := lcm2 hI hKC
      refine W.lcmp (pc := 436) hx hb dL_law_436 ?_
      refine lv_if_eq (tgt := 1048) (pc := 437) hx hb dL_law_437 (by decide) (fun _ => ?_) (fun c9 => absurd (lgc hf.1) c9)
      exact hnext X1 S1 hf.2 hI hl
    by_cases c10 : x = 10
    · refine lv_tableIn (tgt := 442) (pc := 33) hx hb dL_law_33 (by rw [c10]; decide) (by rw [c10]; decide) (by rw [c10]; rfl) (by decide) ?_
      refine lv_aload_n (pc := 442) hx hb dL_law_442 rfl (lv_at hl 1 rfl) ?_
      refine callVI (G := (D, tysC cy, SF z)) (L := LC ad cy (LM ad2 cy [] S)) (pc := 443) (As := []) (rest := []) stabSF E hcsL hl hI (tX5_ends (hh10 X S hRel)) mwL_58 (fitL (by decide)) (at5 rfl) rfl rfl rfl rfl (Nat.le_of_ble_eq_true rfl) dL_law_443 (fun r X1 H locs hf hI => ?_)
      have hI := lcm1 hI hKM
      refine lv_aload_n (pc := 446) hx hb dL_law_446 rfl (lv_at hl 2 rfl) ?_
      refine callVI (G := (D, tysM cy, SF z)) (L := LM ad2 cy (LC ad cy [] X1)) (pc := 447) (As := []) (rest := [.int r]) stabSF E hcsL hl hI (tX6_ends stabSF hf) mwL_61 (fitL (by decide)) at6 rfl rfl rfl rfl (Nat.le_of_ble_eq_true rfl) dL_law_447 (fun r1 S1 H locs hf hI => ?_)
      have hI := lcm2 hI hKC
      refine lv_icmp_eq (tgt := 1048) (pc := 450) hx hb dL_law_450 (by decide) (fun _ => ?_) (fun c9 => absurd hf.1 c9)
      exact hnext X1 S1 hf.2 hI hl
    by_cases c11 : x = 11
    · refine lv_tableIn (tgt := 455) (pc := 33) hx hb dL_law_33 (by rw [c11]; decide) (by rw [c11]; decide) (by rw [c11]; rfl) (by decide) ?_
      refine lv_aload_n (pc := 455) hx hb dL_law_455 rfl (lv_at hl 1 rfl) ?_
      refine lv_aload_n (pc := 456) hx hb dL_law_456 rfl (lv_at hl 0 rfl) ?_
      refine lv_iload_n (pc := 457) hx hb dL_law_457 rfl (lv_at hl 3 rfl) ?_
      refine lv_iconst (v := 1) (pc := 458) hx hb dL_law_458 rfl ?_
      refine lv_iadd (pc := 459) hx hb dL_law_459 ?_
      refine va_sld (pc := 460) hx hb hX hbl hbA hI.2.2.1 (vpn (j := 1) (by omega) hL rfl) dL_law_460 ?_
      refine lv_aload_n (pc := 461) hx hb dL_law_461 rfl (lv_at hl 0 rfl) ?_
      refine lv_iload_n (pc := 462) hx hb dL_law_462 rfl (lv_at hl 3 rfl) ?_
      refine lv_iconst (v := 2) (pc := 463) hx hb dL_law_463 rfl ?_
      refine lv_iadd (pc := 464) hx hb dL_law_464 ?_
      refine va_sld (pc := 465) hx hb hX hbl hbA hI.2.2.1 (vpn (j := 2) (by omega) hL rfl) dL_law_465 ?_
      refine lv_aload_n (pc := 466) hx hb dL_law_466 rfl (lv_at hl 0 rfl) ?_
      refine lv_iload_n (pc := 467) hx hb dL_law_467 rfl (lv_at hl 3 rfl) ?_
      refine lv_iconst (v := 3) (pc := 468) hx hb dL_law_468 rfl ?_
      refine lv_iadd (pc := 469) hx hb dL_law_469 ?_
      refine va_sld (pc := 470) hx hb hX hbl hbA hI.2.2.1 (vpn (j := 3) (by omega) hL rfl) dL_law_470 ?_
      refine callVI (G := (D, tysC cy, SF z)) (L := LC ad cy (LM ad2 cy [] S)) (pc := 471) (As := [.int (xs (nI k + 1).toNatClampNeg), .int (xs (nI k + 2).toNatClampNeg), .int (xs (nI k + 3).toNatClampNeg)]) (rest := []) stabSF E hcsL hl hI (tX5_atWhat (hh11 X S _ _ _ hRel)) mwL_62 (fitL (by decide)) (at5 rfl) rfl rfl rfl rfl (Nat.le_of_ble_eq_true rfl) dL_law_471 (fun r X1 H locs hf hI => ?_)
      have hI := lcm1 hI hKM
      refine lv_aload_n (pc := 474) hx hb dL_law_474 rfl (lv_at hl 2 rfl) ?_
      refine lv_aload_n (pc := 475) hx hb dL_law_475 rfl (lv_at hl 0 rfl) ?_
      refine lv_iload_n (pc := 476) hx hb dL_law_476 rfl (lv_at hl 3 rfl) ?_
      refine lv_iconst (v := 1) (pc := 477) hx hb dL_law_477 rfl ?_
      refine lv_iadd (pc := 478) hx hb dL_law_478 ?_
      refine va_sld (pc := 479) hx hb hX hbl hbA hI.2.2.1 (vpn (j := 1) (by omega) hL rfl) dL_law_479 ?_
      refine lv_aload_n (pc := 480) hx hb dL_law_480 rfl (lv_at hl 0 rfl) ?_
      refine lv_iload_n (pc := 481) hx hb dL_law_481 rfl (lv_at hl 3 rfl) ?_
      refine lv_iconst (v := 2) (pc := 482) hx hb dL_law_482 rfl ?_
      refine lv_iadd (pc := 483) hx hb dL_law_483 ?_
      refine va_sld (pc := 484) hx hb hX hbl hbA hI.2.2.1 (vpn (j := 2) (by omega) hL rfl) dL_law_484 ?_
      refine lv_aload_n (pc := 485) hx hb dL_law_485 rfl (lv_at hl 0 rfl) ?_
      refine lv_iload_n (pc := 486) hx hb dL_law_486 rfl (lv_at hl 3 rfl) ?_
      refine lv_iconst (v := 3) (pc := 487) hx hb dL_law_487 rfl ?_
      refine lv_iadd (pc := 488) hx hb dL_law_488 ?_
      refine va_sld (pc := 489) hx hb hX hbl hbA hI.2.2.1 (vpn (j := 3) (by omega) hL rfl) dL_law_489 ?_
      refine callVI (G := (D, tysM cy, SF z)) (L := LM ad2 cy (LC ad cy [] X1)) (pc := 490) (As := [.int (xs (nI k + 1).toNatClampNeg), .int (xs (nI k + 2).toNatClampNeg), .int (xs (nI k + 3).toNatClampNeg)]) (rest := [.int r]) stabSF E hcsL hl hI (tX6_atWhat stabSF hf) mwL_65 (fitL (by decide)) at6 rfl rfl rfl rfl (Nat.le_of_ble_eq_true rfl) dL_law_490 (fun r1 S1 H locs hf hI => ?_)
      have hI := lcm2 hI hKC
      refine lv_icmp_eq (tgt := 1048) (pc := 493) hx hb dL_law_493 (by decide) (fun _ => ?_) (fun c9 => absurd hf.1 c9)
      exact hnext X1 S1 hf.2 hI hl
    by_cases c12 : x = 12
    · refine lv_tableIn (tgt := 498) (pc := 33) hx hb dL_law_33 (by rw [c12]; decide) (by rw [c12]; decide) (by rw [c12]; rfl) (by decide) ?_
      refine lv_aload_n (pc := 498) hx hb dL_law_498 rfl (lv_at hl 1 rfl) ?_
      refine lv_aload_n (pc := 499) hx hb dL_law_499 rfl (lv_at hl 0 rfl) ?_
      refine lv_iload_n (pc := 500) hx hb dL_law_500 rfl (lv_at hl 3 rfl) ?_
      refine lv_iconst (v := 1) (pc := 501) hx hb dL_law_501 rfl ?_
      refine lv_iadd (pc := 502) hx hb dL_law_502 ?_
      refine va_sld (pc := 503) hx hb hX hbl hbA hI.2.2.1 (vpn (j := 1) (by omega) hL rfl) dL_law_503 ?_
      refine lv_aload_n (pc := 504) hx hb dL_law_504 rfl (lv_at hl 0 rfl) ?_
      refine lv_iload_n (pc := 505) hx hb dL_law_505 rfl (lv_at hl 3 rfl) ?_
      refine lv_iconst (v := 2) (pc := 506) hx hb dL_law_506 rfl ?_
      refine lv_iadd (pc := 507) hx hb dL_law_507 ?_
      refine va_sld (pc := 508) hx hb hX hbl hbA hI.2.2.1 (vpn (j := 2) (by omega) hL rfl) dL_law_508 ?_
      refine callVI (G := (D, tysC cy, SF z)) (L := LC ad cy (LM ad2 cy [] S)) (pc := 509) (As := [.int (xs (nI k + 1).toNatClampNeg), .int (xs (nI k + 2).toNatClampNeg)]) (rest := []) stabSF E hcsL hl hI (tX5_want (hh12 X S _ _ hRel)) mwL_66 (fitL (by decide)) (at5 rfl) rfl rfl rfl rfl (Nat.le_of_ble_eq_true rfl) dL_law_509 (fun r X1 H locs hf hI => ?_)
      have hI := lcm1 hI hKM
      refine lv_aload_n (pc := 512) hx hb dL_law_512 rfl (lv_at hl 2 rfl) ?_
      refine lv_aload_n (pc := 513) hx hb dL_law_513 rfl (lv_at hl 0 rfl) ?_
      refine lv_iload_n (pc := 514) hx hb dL_law_514 rfl (lv_at hl 3 rfl) ?_
      refine lv_iconst (v := 1) (pc := 515) hx hb dL_law_515 rfl ?_
      refine lv_iadd (pc := 516) hx hb dL_law_516 ?_
      refine va_sld (pc := 517) hx hb hX hbl hbA hI.2.2.1 (vpn (j := 1) (by omega) hL rfl) dL_law_517 ?_
      refine lv_aload_n (pc := 518) hx hb dL_law_518 rfl (lv_at hl 0 rfl) ?_
      refine lv_iload_n (pc := 519) hx hb dL_law_519 rfl (lv_at hl 3 rfl) ?_
      refine lv_iconst (v := 2) (pc := 520) hx hb dL_law_520 rfl ?_
      refine lv_iadd (pc := 521) hx hb dL_law_521 ?_
      refine va_sld (pc := 522) hx hb hX hbl hbA hI.2.2.1 (vpn (j := 2) (by omega) hL rfl) dL_law_522 ?_
      refine callVI (G := (D, tysM cy, SF z)) (L := LM ad2 cy (LC ad cy [] X1)) (pc := 523) (As := [.int (xs (nI k + 1).toNatClampNeg), .int (xs (nI k + 2).toNatClampNeg)]) (rest := [.int r]) stabSF E hcsL hl hI (tX6_want stabSF hf) mwL_69 (fitL (by decide)) at6 rfl rfl rfl rfl (Nat.le_of_ble_eq_true rfl) dL_law_523 (fun r1 S1 H locs hf hI => ?_)
      have hI := lcm2 hI hKC
      refine lv_icmp_eq (tgt := 1048) (pc := 526) hx hb dL_law_526 (by decide) (fun _ => ?_) (fun c9 => absurd hf.1 c9)
      exact hnext X1 S1 hf.2 hI hl
    by_cases c13 : x = 13
    · refine lv_tableIn (tgt := 531) (pc := 33) hx hb dL_law_33 (by rw [c13]; decide) (by rw [c13]; decide) (by rw [c13]; rfl) (by decide) ?_
      refine lv_aload_n (pc := 531) hx hb dL_law_531 rfl (lv_at hl 1 rfl) ?_
      refine lv_aload_n (pc := 532) hx hb dL_law_532 rfl (lv_at hl 0 rfl) ?_
      refine lv_iload_n (pc := 533) hx hb dL_law_533 rfl (lv_at hl 3 rfl) ?_
      refine lv_iconst (v := 1) (pc := 534) hx hb dL_law_534 rfl ?_
      refine lv_iadd (pc := 535) hx hb dL_law_535 ?_
      refine va_sld (pc := 536) hx hb hX hbl hbA hI.2.2.1 (vpn (j := 1) (by omega) hL rfl) dL_law_536 ?_
      refine callVI (G := (D, tysC cy, SF z)) (L := LC ad cy (LM ad2 cy [] S)) (pc := 537) (As := [.int (xs (nI k + 1).toNatClampNeg)]) (rest := []) stabSF E hcsL hl hI (tX5_idle (hh13 X S _ hRel)) mwL_70 (fitL (by decide)) (at5 rfl) rfl rfl rfl rfl (Nat.le_of_ble_eq_true rfl) dL_law_537 (fun r X1 H locs hf hI => ?_)
      have hI := lcm1 hI hKM
      refine lv_aload_n (pc := 540) hx hb dL_law_540 rfl (lv_at hl 2 rfl) ?_
      refine lv_aload_n (pc := 541) hx hb dL_law_541 rfl (lv_at hl 0 rfl) ?_
      refine lv_iload_n (pc := 542) hx hb dL_law_542 rfl (lv_at hl 3 rfl) ?_
      refine lv_iconst (v := 1) (pc := 543) hx hb dL_law_543 rfl ?_
      refine lv_iadd (pc := 544) hx hb dL_law_544 ?_
      refine va_sld (pc := 545) hx hb hX hbl hbA hI.2.2.1 (vpn (j := 1) (by omega) hL rfl) dL_law_545 ?_
      refine callVI (G := (D, tysM cy, SF z)) (L := LM ad2 cy (LC ad cy [] X1)) (pc := 546) (As := [.int (xs (nI k + 1).toNatClampNeg)]) (rest := [.int r]) stabSF E hcsL hl hI (tX6_idle stabSF hf) mwL_73 (fitL (by decide)) at6 rfl rfl rfl rfl (Nat.le_of_ble_eq_true rfl) dL_law_546 (fun r1 S1 H locs hf hI => ?_)
      have hI := lcm2 hI hKC
      refine lv_icmp_eq (tgt := 1048) (pc := 549) hx hb dL_law_549 (by decide) (fun _ => ?_) (fun c9 => absurd hf.1 c9)
      exact hnext X1 S1 hf.2 hI hl
    by_cases c14 : x = 14
    · refine lv_tableIn (tgt := 554) (pc := 33) hx hb dL_law_33 (by rw [c14]; decide) (by rw [c14]; decide) (by rw [c14]; rfl) (by decide) ?_
      refine lv_aload_n (pc := 554) hx hb dL_law_554 rfl (lv_at hl 1 rfl) ?_
      refine lv_aload_n (pc := 555) hx hb dL_law_555 rfl (lv_at hl 0 rfl) ?_
      refine lv_iload_n (pc := 556) hx hb dL_law_556 rfl (lv_at hl 3 rfl) ?_
      refine lv_iconst (v := 1) (pc := 557) hx hb dL_law_557 rfl ?_
      refine lv_iadd (pc := 558) hx hb dL_law_558 ?_
      refine va_sld (pc := 559) hx hb hX hbl hbA hI.2.2.1 (vpn (j := 1) (by omega) hL rfl) dL_law_559 ?_
      refine callVI (G := (D, tysC cy, SF z)) (L := LC ad cy (LM ad2 cy [] S)) (pc := 560) (As := [.int (xs (nI k + 1).toNatClampNeg)]) (rest := []) stabSF E hcsL hl hI (tX5_gap (hh14 X S _ hRel)) mwL_74 (fitL (by decide)) (at5 rfl) rfl rfl rfl rfl (Nat.le_of_ble_eq_true rfl) dL_law_560 (fun r X1 H locs hf hI => ?_)
      have hI := lcm1 hI hKM
      refine lv_aload_n (pc := 563) hx hb dL_law_563 rfl (lv_at hl 2 rfl) ?_
      refine lv_aload_n (pc := 564) hx hb dL_law_564 rfl (lv_at hl 0 rfl) ?_
      refine lv_iload_n (pc := 565) hx hb dL_law_565 rfl (lv_at hl 3 rfl) ?_
      refine lv_iconst (v := 1) (pc := 566) hx hb dL_law_566 rfl ?_
      refine lv_iadd (pc := 567) hx hb dL_law_567 ?_
      refine va_sld (pc := 568) hx hb hX hbl hbA hI.2.2.1 (vpn (j := 1) (by omega) hL rfl) dL_law_568 ?_
      refine callVI (G := (D, tysM cy, SF z)) (L := LM ad2 cy (LC ad cy [] X1)) (pc := 569) (As := [.int (xs (nI k + 1).toNatClampNeg)]) (rest := [.int r]) stabSF E hcsL hl hI (tX6_gap stabSF hf) mwL_77 (fitL (by decide)) at6 rfl rfl rfl rfl (Nat.le_of_ble_eq_true rfl) dL_law_569 (fun r1 S1 H locs hf hI => ?_)
      have hI := lcm2 hI hKC
      refine lv_icmp_eq (tgt := 1048) (pc := 572) hx hb dL_law_572 (by decide) (fun _ => ?_) (fun c9 => absurd hf.1 c9)
      exact hnext X1 S1 hf.2 hI hl
    by_cases c15 : x = 15
    · refine lv_tableIn (tgt := 577) (pc := 33) hx hb dL_law_33 (by rw [c15]; decide) (by rw [c15]; decide) (by rw [c15]; rfl) (by decide) ?_
      refine lv_aload_n (pc := 577) hx hb dL_law_577 rfl (lv_at hl 1 rfl) ?_
      refine lv_aload_n (pc := 578) hx hb dL_law_578 rfl (lv_at hl 0 rfl) ?_
      refine lv_iload_n (pc := 579) hx hb dL_law_579 rfl (lv_at hl 3 rfl) ?_
      refine lv_iconst (v := 1) (pc := 580) hx hb dL_law_580 rfl ?_
      refine lv_iadd (pc := 581) hx hb dL_law_581 ?_
      refine va_sld (pc := 582) hx hb hX hbl hbA hI.2.2.1 (vpn (j := 1) (by omega) hL rfl) dL_law_582 ?_
      refine callVJ (G := (D, tysC cy, SF z)) (L := LC ad cy (LM ad2 cy [] S)) (pc := 583) (As := [.int (xs (nI k + 1).toNatClampNeg)]) (rest := []) stabSF E hcsL hl hI (tX5_share (hh15 X S _ hRel)) mwL_78 (fitL (by decide)) (at5 rfl) rfl rfl rfl rfl (Nat.le_of_ble_eq_true rfl) dL_law_583 (fun r X1 H locs hf hI => ?_)
      have hI := lcm1 hI hKM
      refine lv_aload_n (pc := 586) hx hb dL_law_586 rfl (lv_at hl 2 rfl) ?_
      refine lv_aload_n (pc := 587) hx hb dL_law_587 rfl (lv_at hl 0 rfl) ?_
      refine lv_iload_n (pc := 588) hx hb dL_law_588 rfl (lv_at hl 3 rfl) ?_
      refine lv_iconst (v := 1) (pc := 589) hx hb dL_law_589 rfl ?_
      refine lv_iadd (pc := 590) hx hb dL_law_590 ?_
      refine va_sld (pc := 591) hx hb hX hbl hbA hI.2.2.1 (vpn (j := 1) (by omega) hL rfl) dL_law_591 ?_
      refine callVJ (G := (D, tysM cy, SF z)) (L := LM ad2 cy (LC ad cy [] X1)) (pc := 592) (As := [.int (xs (nI k + 1).toNatClampNeg)]) (rest := [.long r]) stabSF E hcsL hl hI (tX6_share stabSF hf) mwL_81 (fitL (by decide)) at6 rfl rfl rfl rfl (Nat.le_of_ble_eq_true rfl) dL_law_592 (fun r1 S1 H locs hf hI => ?_)
      have hI := lcm2 hI hKC
      refine W.lcmp (pc := 595) hx hb dL_law_595 ?_
      refine lv_if_eq (tgt := 1048) (pc := 596) hx hb dL_law_596 (by decide) (fun _ => ?_) (fun c9 => absurd (lgc hf.1) c9)
      exact hnext X1 S1 hf.2 hI hl
    by_cases c16 : x = 16
    · refine lv_tableIn (tgt := 601) (pc := 33) hx hb dL_law_33 (by rw [c16]; decide) (by rw [c16]; decide) (by rw [c16]; rfl) (by decide) ?_
      refine lv_aload_n (pc := 601) hx hb dL_law_601 rfl (lv_at hl 1 rfl) ?_
      refine lv_aload_n (pc := 602) hx hb dL_law_602 rfl (lv_at hl 0 rfl) ?_
      refine lv_iload_n (pc := 603) hx hb dL_law_603 rfl (lv_at hl 3 rfl) ?_
      refine lv_iconst (v := 1) (pc := 604) hx hb dL_law_604 rfl ?_
      refine lv_iadd (pc := 605) hx hb dL_law_605 ?_
      refine va_sld (pc := 606) hx hb hX hbl hbA hI.2.2.1 (vpn (j := 1) (by omega) hL rfl) dL_law_606 ?_
      refine lv_aload_n (pc := 607) hx hb dL_law_607 rfl (lv_at hl 0 rfl) ?_
      refine lv_iload_n (pc := 608) hx hb dL_law_608 rfl (lv_at hl 3 rfl) ?_
      refine lv_iconst (v := 2) (pc := 609) hx hb dL_law_609 rfl ?_
      refine lv_iadd (pc := 610) hx hb dL_law_610 ?_
      refine va_sld (pc := 611) hx hb hX hbl hbA hI.2.2.1 (vpn (j := 2) (by omega) hL rfl) dL_law_611 ?_
      refine lv_aload_n (pc := 612) hx hb dL_law_612 rfl (lv_at hl 0 rfl) ?_
      refine lv_iload_n (pc := 613) hx hb dL_law_613 rfl (lv_at hl 3 rfl) ?_
      refine lv_iconst (v := 3) (pc := 614) hx hb dL_law_614 rfl ?_
      refine lv_iadd (pc := 615) hx hb dL_law_615 ?_
      refine va_sld (pc := 616) hx hb hX hbl hbA hI.2.2.1 (vpn (j := 3) (by omega) hL rfl) dL_law_616 ?_
      refine callVI (G := (D, tysC cy, SF z)) (L := LC ad cy (LM ad2 cy [] S)) (pc := 617) (As := [.int (xs (nI k + 1).toNatClampNeg), .int (xs (nI k + 2).toNatClampNeg), .int (xs (nI k + 3).toNatClampNeg)]) (rest := []) stabSF E hcsL hl hI (tX5_tells (hh16 X S _ _ _ hRel)) mwL_82 (fitL (by decide)) (at5 rfl) rfl rfl rfl rfl (Nat.le_of_ble_eq_true rfl) dL_law_617 (fun r X1 H locs hf hI => ?_)
      have hI := lcm1 hI hKM
      refine lv_aload_n (pc := 620) hx hb dL_law_620 rfl (lv_at hl 2 rfl) ?_
      refine lv_aload_n (pc := 621) hx hb dL_law_621 rfl (lv_at hl 0 rfl) ?_
      refine lv_iload_n (pc := 622) hx hb dL_law_622 rfl (lv_at hl 3 rfl) ?_
      refine lv_iconst (v := 1) (pc := 623) hx hb dL_law_623 rfl ?_
      refine lv_iadd (pc := 624) hx hb dL_law_624 ?_
      refine va_sld (pc := 625) hx hb hX hbl hbA hI.2.2.1 (vpn (j := 1) (by omega) hL rfl) dL_law_625 ?_
      refine lv_aload_n (pc := 626) hx hb dL_law_626 rfl (lv_at hl 0 rfl) ?_
      refine lv_iload_n (pc := 627) hx hb dL_law_627 rfl (lv_at hl 3 rfl) ?_
      refine lv_iconst (v := 2) (pc := 628) hx hb dL_law_628 rfl ?_
      refine lv_iadd (pc := 629) hx hb dL_law_629 ?_
      refine va_sld (pc := 630) hx hb hX hbl hbA hI.2.2.1 (vpn (j := 2) (by omega) hL rfl) dL_law_630 ?_
      refine lv_aload_n (pc := 631) hx hb dL_law_631 rfl (lv_at hl 0 rfl) ?_
      refine lv_iload_n (pc := 632) hx hb dL_law_632 rfl (lv_at hl 3 rfl) ?_
      refine lv_iconst (v := 3) (pc := 633) hx hb dL_law_633 rfl ?_
      refine lv_iadd (pc := 634) hx hb dL_law_634 ?_
      refine va_sld (pc := 635) hx hb hX hbl hbA hI.2.2.1 (vpn (j := 3) (by omega) hL rfl) dL_law_635 ?_
      refine callVI (G := (D, tysM cy, SF z)) (L := LM ad2 cy (LC ad cy [] X1)) (pc := 636) (As := [.int (xs (nI k + 1).toNatClampNeg), .int (xs (nI k + 2).toNatClampNeg), .int (xs (nI k + 3).toNatClampNeg)]) (rest := [.int r]) stabSF E hcsL hl hI (tX6_tells stabSF hf) mwL_85 (fitL (by decide)) at6 rfl rfl rfl rfl (Nat.le_of_ble_eq_true rfl) dL_law_636 (fun r1 S1 H locs hf hI => ?_)
      have hI := lcm2 hI hKC
      refine lv_icmp_eq (tgt := 1048) (pc := 639) hx hb dL_law_639 (by decide) (fun _ => ?_) (fun c9 => absurd hf.1 c9)
      exact hnext X1 S1 hf.2 hI hl
    by_cases c17 : x = 17
    · refine lv_tableIn (tgt := 644) (pc := 33) hx hb dL_law_33 (by rw [c17]; decide) (by rw [c17]; decide) (by rw [c17]; rfl) (by decide) ?_
      refine lv_aload_n (pc := 644) hx hb dL_law_644 rfl (lv_at hl 1 rfl) ?_
      refine lv_aload_n (pc := 645) hx hb dL_law_645 rfl (lv_at hl 0 rfl) ?_
      refine lv_iload_n (pc := 646) hx hb dL_law_646 rfl (lv_at hl 3 rfl) ?_
      refine lv_iconst (v := 1) (pc := 647) hx hb dL_law_647 rfl ?_
      refine lv_iadd (pc := 648) hx hb dL_law_648 ?_
      refine va_sld (pc := 649) hx hb hX hbl hbA hI.2.2.1 (vpn (j := 1) (by omega) hL rfl) dL_law_649 ?_
      refine lv_aload_n (pc := 650) hx hb dL_law_650 rfl (lv_at hl 0 rfl) ?_
      refine lv_iload_n (pc := 651) hx hb dL_law_651 rfl (lv_at hl 3 rfl) ?_
      refine lv_iconst (v := 2) (pc := 652) hx hb dL_law_652 rfl ?_
      refine lv_iadd (pc := 653) hx hb dL_law_653 ?_
      refine va_sld (pc := 654) hx hb hX hbl hbA hI.2.2.1 (vpn (j := 2) (by omega) hL rfl) dL_law_654 ?_
      refine callVI (G := (D, tysC cy, SF z)) (L := LC ad cy (LM ad2 cy [] S)) (pc := 655) (As := [.int (xs (nI k + 1).toNatClampNeg), .int (xs (nI k + 2).toNatClampNeg)]) (rest := []) stabSF E hcsL hl hI (tX5_film (hh17 X S _ _ hRel)) mwL_86 (fitL (by decide)) (at5 rfl) rfl rfl rfl rfl (Nat.le_of_ble_eq_true rfl) dL_law_655 (fun r X1 H locs hf hI => ?_)
      have hI := lcm1 hI hKM
      refine lv_aload_n (pc := 658) hx hb dL_law_658 rfl (lv_at hl 2 rfl) ?_
      refine lv_aload_n (pc := 659) hx hb dL_law_659 rfl (lv_at hl 0 rfl) ?_
      refine lv_iload_n (pc := 660) hx hb dL_law_660 rfl (lv_at hl 3 rfl) ?_
      refine lv_iconst (v := 1) (pc := 661) hx hb dL_law_661 rfl ?_
      refine lv_iadd (pc := 662) hx hb dL_law_662 ?_
      refine va_sld (pc := 663) hx hb hX hbl hbA hI.2.2.1 (vpn (j := 1) (by omega) hL rfl) dL_law_663 ?_
      refine lv_aload_n (pc := 664) hx hb dL_law_664 rfl (lv_at hl 0 rfl) ?_
      refine lv_iload_n (pc := 665) hx hb dL_law_665 rfl (lv_at hl 3 rfl) ?_
      refine lv_iconst (v := 2) (pc := 666) hx hb dL_law_666 rfl ?_
      refine lv_iadd (pc := 667) hx hb dL_law_667 ?_
      refine va_sld (pc := 668) hx hb hX hbl hbA hI.2.2.1 (vpn (j := 2) (by omega) hL rfl) dL_law_668 ?_
      refine callVI (G := (D, tysM cy, SF z)) (L := LM ad2 cy (LC ad cy [] X1)) (pc := 669) (As := [.int (xs (nI k + 1).toNatClampNeg), .int (xs (nI k + 2).toNatClampNeg)]) (rest := [.int r]) stabSF E hcsL hl hI (tX6_film stabSF hf) mwL_89 (fitL (by decide)) at6 rfl rfl rfl rfl (Nat.le_of_ble_eq_true rfl) dL_law_669 (fun r1 S1 H locs hf hI => ?_)
      have hI := lcm2 hI hKC
      refine lv_icmp_eq (tgt := 1048) (pc := 672) hx hb dL_law_672 (by decide) (fun _ => ?_) (fun c9 => absurd hf.1 c9)
      exact hnext X1 S1 hf.2 hI hl
    by_cases c18 : x = 18
    · refine lv_tableIn (tgt := 677) (pc := 33) hx hb dL_law_33 (by rw [c18]; decide) (by rw [c18]; decide) (by rw [c18]; rfl) (by decide) ?_
      refine lv_aload_n (pc := 677) hx hb dL_law_677 rfl (lv_at hl 1 rfl) ?_
      refine lv_aload_n (pc := 678) hx hb dL_law_678 rfl (lv_at hl 0 rfl) ?_
      refine lv_iload_n (pc := 679) hx hb dL_law_679 rfl (lv_at hl 3 rfl) ?_
      refine lv_iconst (v := 1) (pc := 680) hx hb dL_law_680 rfl ?_
      refine lv_iadd (pc := 681) hx hb dL_law_681 ?_
      refine va_sld (pc := 682) hx hb hX hbl hbA hI.2.2.1 (vpn (j := 1) (by omega) hL rfl) dL_law_682 ?_
      refine lv_aload_n (pc := 683) hx hb dL_law_683 rfl (lv_at hl 0 rfl) ?_
      refine lv_iload_n (pc := 684) hx hb dL_law_684 rfl (lv_at hl 3 rfl) ?_
      refine lv_iconst (v := 2) (pc := 685) hx hb dL_law_685 rfl ?_
      refine lv_iadd (pc := 686) hx hb dL_law_686 ?_
      refine va_sld (pc := 687) hx hb hX hbl hbA hI.2.2.1 (vpn (j := 2) (by omega) hL rfl) dL_law_687 ?_
      refine callVI (G := (D, tysC cy, SF z)) (L := LC ad cy (LM ad2 cy [] S)) (pc := 688) (As := [.int (xs (nI k + 1).toNatClampNeg), .int (xs (nI k + 2).toNatClampNeg)]) (rest := []) stabSF E hcsL hl hI (tX5_drawn (hh18 X S _ _ hRel)) mwL_90 (fitL (by decide)) (at5 rfl) rfl rfl rfl rfl (Nat.le_of_ble_eq_true rfl) dL_law_688 (fun r X1 H locs hf hI => ?_)
      have hI := lcm1 hI hKM
      refine lv_aload_n (pc := 691) hx hb dL_law_691 rfl (lv_at hl 2 rfl) ?_
      refine lv_aload_n (pc := 692) hx hb dL_law_692 rfl (lv_at hl 0 rfl) ?_
      refine lv_iload_n (pc := 693) hx hb dL_law_693 rfl (lv_at hl 3 rfl) ?_
      refine lv_iconst (v := 1) (pc := 694) hx hb dL_law_694 rfl ?_
      refine lv_iadd (pc := 695) hx hb dL_law_695 ?_
      refine va_sld (pc := 696) hx hb hX hbl hbA hI.2.2.1 (vpn (j := 1) (by omega) hL rfl) dL_law_696 ?_
      refine lv_aload_n (pc := 697) hx hb dL_law_697 rfl (lv_at hl 0 rfl) ?_
      refine lv_iload_n (pc := 698) hx hb dL_law_698 rfl (lv_at hl 3 rfl) ?_
      refine lv_iconst (v := 2) (pc := 699) hx hb dL_law_699 rfl ?_
      refine lv_iadd (pc := 700) hx hb dL_law_700 ?_
      refine va_sld (pc := 701) hx hb hX hbl hbA hI.2.2.1 (vpn (j := 2) (by omega) hL rfl) dL_law_701 ?_
      refine callVI (G := (D, tysM cy, SF z)) (L := LM ad2 cy (LC ad cy [] X1)) (pc := 702) (As := [.int (xs (nI k + 1).toNatClampNeg), .int (xs (nI k + 2).toNatClampNeg)]) (rest := [.int r]) stabSF E hcsL hl hI (tX6_drawn stabSF hf) mwL_93 (fitL (by decide)) at6 rfl rfl rfl rfl (Nat.le_of_ble_eq_true rfl) dL_law_702 (fun r1 S1 H locs hf hI => ?_)
      have hI := lcm2 hI hKC
      refine lv_icmp_eq (tgt := 1048) (pc := 705) hx hb dL_law_705 (by decide) (fun _ => ?_) (fun c9 => absurd hf.1 c9)
      exact hnext X1 S1 hf.2 hI hl
    by_cases c19 : x = 19
    · refine lv_tableIn (tgt := 710) (pc := 33) hx hb dL_law_33 (by rw [c19]; decide) (by rw [c19]; decide) (by rw [c19]; rfl) (by decide) ?_
      refine lv_aload_n (pc := 710) hx hb dL_law_710 rfl (lv_at hl 1 rfl) ?_
      refine lv_aload_n (pc := 711) hx hb dL_law_711 rfl (lv_at hl 0 rfl) ?_
      refine lv_iload_n (pc := 712) hx hb dL_law_712 rfl (lv_at hl 3 rfl) ?_
      refine lv_iconst (v := 1) (pc := 713) hx hb dL_law_713 rfl ?_
      refine lv_iadd (pc := 714) hx hb dL_law_714 ?_
      refine va_sld (pc := 715) hx hb hX hbl hbA hI.2.2.1 (vpn (j := 1) (by omega) hL rfl) dL_law_715 ?_
      refine lv_aload_n (pc := 716) hx hb dL_law_716 rfl (lv_at hl 0 rfl) ?_
      refine lv_iload_n (pc := 717) hx hb dL_law_717 rfl (lv_at hl 3 rfl) ?_
      refine lv_iconst (v := 2) (pc := 718) hx hb dL_law_718 rfl ?_
      refine lv_iadd (pc := 719) hx hb dL_law_719 ?_
      refine va_sld (pc := 720) hx hb hX hbl hbA hI.2.2.1 (vpn (j := 2) (by omega) hL rfl) dL_law_720 ?_
      refine lv_aload_n (pc := 721) hx hb dL_law_721 rfl (lv_at hl 0 rfl) ?_
      refine lv_iload_n (pc := 722) hx hb dL_law_722 rfl (lv_at hl 3 rfl) ?_
      refine lv_iconst (v := 3) (pc := 723) hx hb dL_law_723 rfl ?_
      refine lv_iadd (pc := 724) hx hb dL_law_724 ?_
      refine va_sld (pc := 725) hx hb hX hbl hbA hI.2.2.1 (vpn (j := 3) (by omega) hL rfl) dL_law_725 ?_
      refine lv_aload_n (pc := 726) hx hb dL_law_726 rfl (lv_at hl 0 rfl) ?_
      refine lv_iload_n (pc := 727) hx hb dL_law_727 rfl (lv_at hl 3 rfl) ?_
      refine lv_iconst (v := 4) (pc := 728) hx hb dL_law_728 rfl ?_
      refine lv_iadd (pc := 729) hx hb dL_law_729 ?_
      refine va_sld (pc := 730) hx hb hX hbl hbA hI.2.2.1 (vpn (j := 4) (by omega) hL rfl) dL_law_730 ?_
      refine callVJ (G := (D, tysC cy, SF z)) (L := LC ad cy (LM ad2 cy [] S)) (pc := 731) (As := [.int (xs (nI k + 1).toNatClampNeg), .int (xs (nI k + 2).toNatClampNeg), .int (xs (nI k + 3).toNatClampNeg), .int (xs (nI k + 4).toNatClampNeg)]) (rest := []) stabSF E hcsL hl hI (tX5_chance (hh19 X S _ _ _ _ hRel)) mwL_94 (fitL (by decide)) (at5 rfl) rfl rfl rfl rfl (Nat.le_of_ble_eq_true rfl) dL_law_731 (fun r X1 H locs hf hI => ?_)
      have hI := lcm1 hI hKM
      refine lv_aload_n (pc := 734) hx hb dL_law_734 rfl (lv_at hl 2 rfl) ?_
      refine lv_aload_n (pc := 735) hx hb dL_law_735 rfl (lv_at hl 0 rfl) ?_
      refine lv_iload_n (pc := 736) hx hb dL_law_736 rfl (lv_at hl 3 rfl) ?_
      refine lv_iconst (v := 1) (pc := 737) hx hb dL_law_737 rfl ?_
      refine lv_iadd (pc := 738) hx hb dL_law_738 ?_
      refine va_sld (pc := 739) hx hb hX hbl hbA hI.2.2.1 (vpn (j := 1) (by omega) hL rfl) dL_law_739 ?_
      refine lv_aload_n (pc := 740) hx hb dL_law_740 rfl (lv_at hl 0 rfl) ?_
      refine lv_iload_n (pc := 741) hx hb dL_law_741 rfl (lv_at hl 3 rfl) ?_
      refine lv_iconst (v := 2) (pc := 742) hx hb dL_law_742 rfl ?_
      refine lv_iadd (pc := 743) hx hb dL_law_743 ?_
      refine va_sld (pc := 744) hx hb hX hbl hbA hI.2.2.1 (vpn (j := 2) (by omega) hL rfl) dL_law_744 ?_
      refine lv_aload_n (pc := 745) hx hb dL_law_745 rfl (lv_at hl 0 rfl) ?_
      refine lv_iload_n (pc := 746) hx hb dL_law_746 rfl (lv_at hl 3 rfl) ?_
      refine lv_iconst (v := 3) (pc := 747) hx hb dL_law_747 rfl ?_
      refine lv_iadd (pc := 748) hx hb dL_law_748 ?_
      refine va_sld (pc := 749) hx hb hX hbl hbA hI.2.2.1 (vpn (j := 3) (by omega) hL rfl) dL_law_749 ?_
      refine lv_aload_n (pc := 750) hx hb dL_law_750 rfl (lv_at hl 0 rfl) ?_
      refine lv_iload_n (pc := 751) hx hb dL_law_751 rfl (lv_at hl 3 rfl) ?_
      refine lv_iconst (v := 4) (pc := 752) hx hb dL_law_752 rfl ?_
      refine lv_iadd (pc := 753) hx hb dL_law_753 ?_
      refine va_sld (pc := 754) hx hb hX hbl hbA hI.2.2.1 (vpn (j := 4) (by omega) hL rfl) dL_law_754 ?_
      refine callVJ (G := (D, tysM cy, SF z)) (L := LM ad2 cy (LC ad cy [] X1)) (pc := 755) (As := [.int (xs (nI k + 1).toNatClampNeg), .int (xs (nI k + 2).toNatClampNeg), .int (xs (nI k + 3).toNatClampNeg), .int (xs (nI k + 4).toNatClampNeg)]) (rest := [.long r]) stabSF E hcsL hl hI (tX6_chance stabSF hf) mwL_98 (fitL (by decide)) at6 rfl rfl rfl rfl (Nat.le_of_ble_eq_true rfl) dL_law_755 (fun r1 S1 H locs hf hI => ?_)
      have hI := lcm2 hI hKC
      refine W.lcmp (pc := 758) hx hb dL_law_758 ?_
      refine lv_if_eq (tgt := 1048) (pc := 759) hx hb dL_law_759 (by decide) (fun _ => ?_) (fun c9 => absurd (lgc hf.1) c9)
      exact hnext X1 S1 hf.2 hI hl
    by_cases c20 : x = 20
    · refine lv_tableIn (tgt := 764) (pc := 33) hx hb dL_law_33 (by rw [c20]; decide) (by rw [c20]; decide) (by rw [c20]; rfl) (by decide) ?_
      refine lv_aload_n (pc := 764) hx hb dL_law_764 rfl (lv_at hl 1 rfl) ?_
      refine callVI (G := (D, tysC cy, SF z)) (L := LC ad cy (LM ad2 cy [] S)) (pc := 765) (As := []) (rest := []) stabSF E hcsL hl hI (tX5_image (hh20 X S hRel)) mwL_99 (fitL (by decide)) (at5 rfl) rfl rfl rfl rfl (Nat.le_of_ble_eq_true rfl) dL_law_765 (fun r X1 H locs hf hI => ?_)
      have hI := lcm1 hI hKM
      refine lv_aload_n (pc := 768) hx hb dL_law_768 rfl (lv_at hl 2 rfl) ?_
      refine callVI (G := (D, tysM cy, SF z)) (L := LM ad2 cy (LC ad cy [] X1)) (pc := 769) (As := []) (rest := [.int r]) stabSF E hcsL hl hI (tX6_image stabSF hf) mwL_102 (fitL (by decide)) at6 rfl rfl rfl rfl (Nat.le_of_ble_eq_true rfl) dL_law_769 (fun r1 S1 H locs hf hI => ?_)
      have hI := lcm2 hI hKC
      refine lv_icmp_eq (tgt := 1048) (pc := 772) hx hb dL_law_772 (by decide) (fun _ => ?_) (fun c9 => absurd hf.1 c9)
      exact hnext X1 S1 hf.2 hI hl
    by_cases c21 : x = 21
    · refine lv_tableIn (tgt := 777) (pc := 33) hx hb dL_law_33 (by rw [c21]; decide) (by rw [c21]; decide) (by rw [c21]; rfl) (by decide) ?_
      refine lv_aload_n (pc := 777) hx hb dL_law_777 rfl (lv_at hl 1 rfl) ?_
      refine callVI (G := (D, tysC cy, SF z)) (L := LC ad cy (LM ad2 cy [] S)) (pc := 778) (As := []) (rest := []) stabSF E hcsL hl hI (tX5_back (hh21 X S hRel)) mwL_103 (fitL (by decide)) (at5 rfl) rfl rfl rfl rfl (Nat.le_of_ble_eq_true rfl) dL_law_778 (fun r X1 H locs hf hI => ?_)
      have hI := lcm1 hI hKM
      refine lv_aload_n (pc := 781) hx hb dL_law_781 rfl (lv_at hl 2 rfl) ?_
      refine callVI (G := (D, tysM cy, SF z)) (L := LM ad2 cy (LC ad cy [] X1)) (pc := 782) (As := []) (rest := [.int r]) stabSF E hcsL hl hI (tX6_back stabSF hf) mwL_106 (fitL (by decide)) at6 rfl rfl rfl rfl (Nat.le_of_ble_eq_true rfl) dL_law_782 (fun r1 S1 H locs hf hI => ?_)
      have hI := lcm2 hI hKC
      refine lv_icmp_eq (tgt := 1048) (pc := 785) hx hb dL_law_785 (by decide) (fun _ => ?_) (fun c9 => absurd hf.1 c9)
      exact hnext X1 S1 hf.2 hI hl
    by_cases c22 : x = 22
    · refine lv_tableIn (tgt := 790) (pc := 33) hx hb dL_law_33 (by rw [c22]; decide) (by rw [c22]; decide) (by rw [c22]; rfl) (by decide) ?_
      refine lv_aload_n (pc := 790) hx hb dL_law_790 rfl (lv_at hl 1 rfl) ?_
      refine lv_aload_n (pc := 791) hx hb dL_law_791 rfl (lv_at hl 0 rfl) ?_
      refine lv_iload_n (pc := 792) hx hb dL_law_792 rfl (lv_at hl 3 rfl) ?_
      refine lv_iconst (v := 1) (pc := 793) hx hb dL_law_793 rfl ?_
      refine lv_iadd (pc := 794) hx hb dL_law_794 ?_
      refine va_sld (pc := 795) hx hb hX hbl hbA hI.2.2.1 (vpn (j := 1) (by omega) hL rfl) dL_law_795 ?_
      refine callVI (G := (D, tysC cy, SF z)) (L := LC ad cy (LM ad2 cy [] S)) (pc := 796) (As := [.int (xs (nI k + 1).toNatClampNeg)]) (rest := []) stabSF E hcsL hl hI (tX5_count (hh22 X S _ hRel)) mwL_107 (fitL (by decide)) (at5 rfl) rfl rfl rfl rfl (Nat.le_of_ble_eq_true rfl) dL_law_796 (fun r X1 H locs hf hI => ?_)
      have hI := lcm1 hI hKM
      refine lv_aload_n (pc := 799) hx hb dL_law_799 rfl (lv_at hl 2 rfl) ?_
      refine lv_aload_n (pc := 800) hx hb dL_law_800 rfl (lv_at hl 0 rfl) ?_
      refine lv_iload_n (pc := 801) hx hb dL_law_801 rfl (lv_at hl 3 rfl) ?_
      refine lv_iconst (v := 1) (pc := 802) hx hb dL_law_802 rfl ?_
      refine lv_iadd (pc := 803) hx hb dL_law_803 ?_
      refine va_sld (pc := 804) hx hb hX hbl hbA hI.2.2.1 (vpn (j := 1) (by omega) hL rfl) dL_law_804 ?_
      refine callVI (G := (D, tysM cy, SF z)) (L := LM ad2 cy (LC ad cy [] X1)) (pc := 805) (As := [.int (xs (nI k + 1).toNatClampNeg)]) (rest := [.int r]) stabSF E hcsL hl hI (tX6_count stabSF hf) mwL_110 (fitL (by decide)) at6 rfl rfl rfl rfl (Nat.le_of_ble_eq_true rfl) dL_law_805 (fun r1 S1 H locs hf hI => ?_)
      have hI := lcm2 hI hKC
      refine lv_icmp_eq (tgt := 1048) (pc := 808) hx hb dL_law_808 (by decide) (fun _ => ?_) (fun c9 => absurd hf.1 c9)
      exact hnext X1 S1 hf.2 hI hl
    by_cases c23 : x = 23
    · refine lv_tableIn (tgt := 813) (pc := 33) hx hb dL_law_33 (by rw [c23]; decide) (by rw [c23]; decide) (by rw [c23]; rfl) (by decide) ?_
      refine lv_aload_n (pc := 813) hx hb dL_law_813 rfl (lv_at hl 1 rfl) ?_
      refine lv_aload_n (pc := 814) hx hb dL_law_814 rfl (lv_at hl 0 rfl) ?_
      refine lv_iload_n (pc := 815) hx hb dL_law_815 rfl (lv_at hl 3 rfl) ?_
      refine lv_iconst (v := 1) (pc := 816) hx hb dL_law_816 rfl ?_
      refine lv_iadd (pc := 817) hx hb dL_law_817 ?_
      refine va_sld (pc := 818) hx hb hX hbl hbA hI.2.2.1 (vpn (j := 1) (by omega) hL rfl) dL_law_818 ?_
      refine lv_aload_n (pc := 819) hx hb dL_law_819 rfl (lv_at hl 0 rfl) ?_
      refine lv_iload_n (pc := 820) hx hb dL_law_820 rfl (lv_at hl 3 rfl) ?_
      refine lv_iconst (v := 2) (pc := 821) hx hb dL_law_821 rfl ?_
      refine lv_iadd (pc := 822) hx hb dL_law_822 ?_
      refine va_sld (pc := 823) hx hb hX hbl hbA hI.2.2.1 (vpn (j := 2) (by omega) hL rfl) dL_law_823 ?_
      refine lv_aload_n (pc := 824) hx hb dL_law_824 rfl (lv_at hl 0 rfl) ?_
      refine lv_iload_n (pc := 825) hx hb dL_law_825 rfl (lv_at hl 3 rfl) ?_
      refine lv_iconst (v := 3) (pc := 826) hx hb dL_law_826 rfl ?_
      refine lv_iadd (pc := 827) hx hb dL_law_827 ?_
      refine va_sld (pc := 828) hx hb hX hbl hbA hI.2.2.1 (vpn (j := 3) (by omega) hL rfl) dL_law_828 ?_
      refine callVI (G := (D, tysC cy, SF z)) (L := LC ad cy (LM ad2 cy [] S)) (pc := 829) (As := [.int (xs (nI k + 1).toNatClampNeg), .int (xs (nI k + 2).toNatClampNeg), .int (xs (nI k + 3).toNatClampNeg)]) (rest := []) stabSF E hcsL hl hI (tX5_sheet (hh23 X S _ _ _ hRel)) mwL_111 (fitL (by decide)) (at5 rfl) rfl rfl rfl rfl (Nat.le_of_ble_eq_true rfl) dL_law_829 (fun r X1 H locs hf hI => ?_)
      have hI := lcm1 hI hKM
      refine lv_aload_n (pc := 832) hx hb dL_law_832 rfl (lv_at hl 2 rfl) ?_
      refine lv_aload_n (pc := 833) hx hb dL_law_833 rfl (lv_at hl 0 rfl) ?_
      refine lv_iload_n (pc := 834) hx hb dL_law_834 rfl (lv_at hl 3 rfl) ?_
      refine lv_iconst (v := 1) (pc := 835) hx hb dL_law_835 rfl ?_
      refine lv_iadd (pc := 836) hx hb dL_law_836 ?_
      refine va_sld (pc := 837) hx hb hX hbl hbA hI.2.2.1 (vpn (j := 1) (by omega) hL rfl) dL_law_837 ?_
      refine lv_aload_n (pc := 838) hx hb dL_law_838 rfl (lv_at hl 0 rfl) ?_
      refine lv_iload_n (pc := 839) hx hb dL_law_839 rfl (lv_at hl 3 rfl) ?_
      refine lv_iconst (v := 2) (pc := 840) hx hb dL_law_840 rfl ?_
      refine lv_iadd (pc := 841) hx hb dL_law_841 ?_
      refine va_sld (pc := 842) hx hb hX hbl hbA hI.2.2.1 (vpn (j := 2) (by omega) hL rfl) dL_law_842 ?_
      refine lv_aload_n (pc := 843) hx hb dL_law_843 rfl (lv_at hl 0 rfl) ?_
      refine lv_iload_n (pc := 844) hx hb dL_law_844 rfl (lv_at hl 3 rfl) ?_
      refine lv_iconst (v := 3) (pc := 845) hx hb dL_law_845 rfl ?_
      refine lv_iadd (pc := 846) hx hb dL_law_846 ?_
      refine va_sld (pc := 847) hx hb hX hbl hbA hI.2.2.1 (vpn (j := 3) (by omega) hL rfl) dL_law_847 ?_
      refine callVI (G := (D, tysM cy, SF z)) (L := LM ad2 cy (LC ad cy [] X1)) (pc := 848) (As := [.int (xs (nI k + 1).toNatClampNeg), .int (xs (nI k + 2).toNatClampNeg), .int (xs (nI k + 3).toNatClampNeg)]) (rest := [.int r]) stabSF E hcsL hl hI (tX6_sheet stabSF hf) mwL_114 (fitL (by decide)) at6 rfl rfl rfl rfl (Nat.le_of_ble_eq_true rfl) dL_law_848 (fun r1 S1 H locs hf hI => ?_)
      have hI := lcm2 hI hKC
      refine lv_icmp_eq (tgt := 1048) (pc := 851) hx hb dL_law_851 (by decide) (fun _ => ?_) (fun c9 => absurd hf.1 c9)
      exact hnext X1 S1 hf.2 hI hl
    by_cases c24 : x = 24
    · refine lv_tableIn (tgt := 856) (pc := 33) hx hb dL_law_33 (by rw [c24]; decide) (by rw [c24]; decide) (by rw [c24]; rfl) (by decide) ?_
      refine lv_aload_n (pc := 856) hx hb dL_law_856 rfl (lv_at hl 1 rfl) ?_
      refine lv_aload_n (pc := 857) hx hb dL_law_857 rfl (lv_at hl 0 rfl) ?_
      refine lv_iload_n (pc := 858) hx hb dL_law_858 rfl (lv_at hl 3 rfl) ?_
      refine lv_iconst (v := 1) (pc := 859) hx hb dL_law_859 rfl ?_
      refine lv_iadd (pc := 860) hx hb dL_law_860 ?_
      refine va_sld (pc := 861) hx hb hX hbl hbA hI.2.2.1 (vpn (j := 1) (by omega) hL rfl) dL_law_861 ?_
      refine lv_aload_n (pc := 862) hx hb dL_law_862 rfl (lv_at hl 0 rfl) ?_
      refine lv_iload_n (pc := 863) hx hb dL_law_863 rfl (lv_at hl 3 rfl) ?_
      refine lv_iconst (v := 2) (pc := 864) hx hb dL_law_864 rfl ?_
      refine lv_iadd (pc := 865) hx hb dL_law_865 ?_
      refine va_sld (pc := 866) hx hb hX hbl hbA hI.2.2.1 (vpn (j := 2) (by omega) hL rfl) dL_law_866 ?_
      refine lv_aload_n (pc := 867) hx hb dL_law_867 rfl (lv_at hl 0 rfl) ?_
      refine lv_iload_n (pc := 868) hx hb dL_law_868 rfl (lv_at hl 3 rfl) ?_
      refine lv_iconst (v := 3) (pc := 869) hx hb dL_law_869 rfl ?_
      refine lv_iadd (pc := 870) hx hb dL_law_870 ?_
      refine va_sld (pc := 871) hx hb hX hbl hbA hI.2.2.1 (vpn (j := 3) (by omega) hL rfl) dL_law_871 ?_
      refine callVI (G := (D, tysC cy, SF z)) (L := LC ad cy (LM ad2 cy [] S)) (pc := 872) (As := [.int (xs (nI k + 1).toNatClampNeg), .int (xs (nI k + 2).toNatClampNeg), .int (xs (nI k + 3).toNatClampNeg)]) (rest := []) stabSF E hcsL hl hI (tX5_cell (hh24 X S _ _ _ hRel)) mwL_115 (fitL (by decide)) (at5 rfl) rfl rfl rfl rfl (Nat.le_of_ble_eq_true rfl) dL_law_872 (fun r X1 H locs hf hI => ?_)
      have hI := lcm1 hI hKM
      refine lv_aload_n (pc := 875) hx hb dL_law_875 rfl (lv_at hl 2 rfl) ?_
      refine lv_aload_n (pc := 876) hx hb dL_law_876 rfl (lv_at hl 0 rfl) ?_
      refine lv_iload_n (pc := 877) hx hb dL_law_877 rfl (lv_at hl 3 rfl) ?_
      refine lv_iconst (v := 1) (pc := 878) hx hb dL_law_878 rfl ?_
      refine lv_iadd (pc := 879) hx hb dL_law_879 ?_
      refine va_sld (pc := 880) hx hb hX hbl hbA hI.2.2.1 (vpn (j := 1) (by omega) hL rfl) dL_law_880 ?_
      refine lv_aload_n (pc := 881) hx hb dL_law_881 rfl (lv_at hl 0 rfl) ?_
      refine lv_iload_n (pc := 882) hx hb dL_law_882 rfl (lv_at hl 3 rfl) ?_
      refine lv_iconst (v := 2) (pc := 883) hx hb dL_law_883 rfl ?_
      refine lv_iadd (pc := 884) hx hb dL_law_884 ?_
      refine va_sld (pc := 885) hx hb hX hbl hbA hI.2.2.1 (vpn (j := 2) (by omega) hL rfl) dL_law_885 ?_
      refine lv_aload_n (pc := 886) hx hb dL_law_886 rfl (lv_at hl 0 rfl) ?_
      refine lv_iload_n (pc := 887) hx hb dL_law_887 rfl (lv_at hl 3 rfl) ?_
      refine lv_iconst (v := 3) (pc := 888) hx hb dL_law_888 rfl ?_
      refine lv_iadd (pc := 889) hx hb dL_law_889 ?_
      refine va_sld (pc := 890) hx hb hX hbl hbA hI.2.2.1 (vpn (j := 3) (by omega) hL rfl) dL_law_890 ?_
      refine callVI (G := (D, tysM cy, SF z)) (L := LM ad2 cy (LC ad cy [] X1)) (pc := 891) (As := [.int (xs (nI k + 1).toNatClampNeg), .int (xs (nI k + 2).toNatClampNeg), .int (xs (nI k + 3).toNatClampNeg)]) (rest := [.int r]) stabSF E hcsL hl hI (tX6_cell stabSF hf) mwL_118 (fitL (by decide)) at6 rfl rfl rfl rfl (Nat.le_of_ble_eq_true rfl) dL_law_891 (fun r1 S1 H locs hf hI => ?_)
      have hI := lcm2 hI hKC
      refine lv_icmp_eq (tgt := 1048) (pc := 894) hx hb dL_law_894 (by decide) (fun _ => ?_) (fun c9 => absurd hf.1 c9)
      exact hnext X1 S1 hf.2 hI hl
    by_cases c25 : x = 25
    · refine lv_tableIn (tgt := 899) (pc := 33) hx hb dL_law_33 (by rw [c25]; decide) (by rw [c25]; decide) (by rw [c25]; rfl) (by decide) ?_
      refine lv_aload_n (pc := 899) hx hb dL_law_899 rfl (lv_at hl 1 rfl) ?_
      refine lv_aload_n (pc := 900) hx hb dL_law_900 rfl (lv_at hl 0 rfl) ?_
      refine lv_iload_n (pc := 901) hx hb dL_law_901 rfl (lv_at hl 3 rfl) ?_
      refine lv_iconst (v := 1) (pc := 902) hx hb dL_law_902 rfl ?_
      refine lv_iadd (pc := 903) hx hb dL_law_903 ?_
      refine va_sld (pc := 904) hx hb hX hbl hbA hI.2.2.1 (vpn (j := 1) (by omega) hL rfl) dL_law_904 ?_
      refine lv_aload_n (pc := 905) hx hb dL_law_905 rfl (lv_at hl 0 rfl) ?_
      refine lv_iload_n (pc := 906) hx hb dL_law_906 rfl (lv_at hl 3 rfl) ?_
      refine lv_iconst (v := 2) (pc := 907) hx hb dL_law_907 rfl ?_
      refine lv_iadd (pc := 908) hx hb dL_law_908 ?_
      refine va_sld (pc := 909) hx hb hX hbl hbA hI.2.2.1 (vpn (j := 2) (by omega) hL rfl) dL_law_909 ?_
      refine lv_aload_n (pc := 910) hx hb dL_law_910 rfl (lv_at hl 0 rfl) ?_
      refine lv_iload_n (pc := 911) hx hb dL_law_911 rfl (lv_at hl 3 rfl) ?_
      refine lv_iconst (v := 3) (pc := 912) hx hb dL_law_912 rfl ?_
      refine lv_iadd (pc := 913) hx hb dL_law_913 ?_
      refine va_sld (pc := 914) hx hb hX hbl hbA hI.2.2.1 (vpn (j := 3) (by omega) hL rfl) dL_law_914 ?_
      refine lv_aload_n (pc := 915) hx hb dL_law_915 rfl (lv_at hl 0 rfl) ?_
      refine lv_iload_n (pc := 916) hx hb dL_law_916 rfl (lv_at hl 3 rfl) ?_
      refine lv_iconst (v := 4) (pc := 917) hx hb dL_law_917 rfl ?_
      refine lv_iadd (pc := 918) hx hb dL_law_918 ?_
      refine va_sld (pc := 919) hx hb hX hbl hbA hI.2.2.1 (vpn (j := 4) (by omega) hL rfl) dL_law_919 ?_
      refine lv_aload_n (pc := 920) hx hb dL_law_920 rfl (lv_at hl 0 rfl) ?_
      refine lv_iload_n (pc := 921) hx hb dL_law_921 rfl (lv_at hl 3 rfl) ?_
      refine lv_iconst (v := 5) (pc := 922) hx hb dL_law_922 rfl ?_
      refine lv_iadd (pc := 923) hx hb dL_law_923 ?_
      refine va_sld (pc := 924) hx hb hX hbl hbA hI.2.2.1 (vpn (j := 5) (by omega) hL rfl) dL_law_924 ?_
      refine callVI (G := (D, tysC cy, SF z)) (L := LC ad cy (LM ad2 cy [] S)) (pc := 925) (As := [.int (xs (nI k + 1).toNatClampNeg), .int (xs (nI k + 2).toNatClampNeg), .int (xs (nI k + 3).toNatClampNeg), .int (xs (nI k + 4).toNatClampNeg), .int (xs (nI k + 5).toNatClampNeg)]) (rest := []) stabSF E hcsL hl hI (tX5_copy (hh25 X S _ _ _ _ _ hRel)) mwL_119 (fitL (by decide)) (at5 rfl) rfl rfl rfl rfl (Nat.le_of_ble_eq_true rfl) dL_law_925 (fun r X1 H locs hf hI => ?_)
      have hI := lcm1 hI hKM
      refine lv_aload_n (pc := 928) hx hb dL_law_928 rfl (lv_at hl 2 rfl) ?_
      refine lv_aload_n (pc := 929) hx hb dL_law_929 rfl (lv_at hl 0 rfl) ?_
      refine lv_iload_n (pc := 930) hx hb dL_law_930 rfl (lv_at hl 3 rfl) ?_
      refine lv_iconst (v := 1) (pc := 931) hx hb dL_law_931 rfl ?_
      refine lv_iadd (pc := 932) hx hb dL_law_932 ?_
      refine va_sld (pc := 933) hx hb hX hbl hbA hI.2.2.1 (vpn (j := 1) (by omega) hL rfl) dL_law_933 ?_
      refine lv_aload_n (pc := 934) hx hb dL_law_934 rfl (lv_at hl 0 rfl) ?_
      refine lv_iload_n (pc := 935) hx hb dL_law_935 rfl (lv_at hl 3 rfl) ?_
      refine lv_iconst (v := 2) (pc := 936) hx hb dL_law_936 rfl ?_
      refine lv_iadd (pc := 937) hx hb dL_law_937 ?_
      refine va_sld (pc := 938) hx hb hX hbl hbA hI.2.2.1 (vpn (j := 2) (by omega) hL rfl) dL_law_938 ?_
      refine lv_aload_n (pc := 939) hx hb dL_law_939 rfl (lv_at hl 0 rfl) ?_
      refine lv_iload_n (pc := 940) hx hb dL_law_940 rfl (lv_at hl 3 rfl) ?_
      refine lv_iconst (v := 3) (pc := 941) hx hb dL_law_941 rfl ?_
      refine lv_iadd (pc := 942) hx hb dL_law_942 ?_
      refine va_sld (pc := 943) hx hb hX hbl hbA hI.2.2.1 (vpn (j := 3) (by omega) hL rfl) dL_law_943 ?_
      refine lv_aload_n (pc := 944) hx hb dL_law_944 rfl (lv_at hl 0 rfl) ?_
      refine lv_iload_n (pc := 945) hx hb dL_law_945 rfl (lv_at hl 3 rfl) ?_
      refine lv_iconst (v := 4) (pc := 946) hx hb dL_law_946 rfl ?_
      refine lv_iadd (pc := 947) hx hb dL_law_947 ?_
      refine va_sld (pc := 948) hx hb hX hbl hbA hI.2.2.1 (vpn (j := 4) (by omega) hL rfl) dL_law_948 ?_
      refine lv_aload_n (pc := 949) hx hb dL_law_949 rfl (lv_at hl 0 rfl) ?_
      refine lv_iload_n (pc := 950) hx hb dL_law_950 rfl (lv_at hl 3 rfl) ?_
      refine lv_iconst (v := 5) (pc := 951) hx hb dL_law_951 rfl ?_
      refine lv_iadd (pc := 952) hx hb dL_law_952 ?_
      refine va_sld (pc := 953) hx hb hX hbl hbA hI.2.2.1 (vpn (j := 5) (by omega) hL rfl) dL_law_953 ?_
      refine callVI (G := (D, tysM cy, SF z)) (L := LM ad2 cy (LC ad cy [] X1)) (pc := 954) (As := [.int (xs (nI k + 1).toNatClampNeg), .int (xs (nI k + 2).toNatClampNeg), .int (xs (nI k + 3).toNatClampNeg), .int (xs (nI k + 4).toNatClampNeg), .int (xs (nI k + 5).toNatClampNeg)]) (rest := [.int r]) stabSF E hcsL hl hI (tX6_copy stabSF hf) mwL_123 (fitL (by decide)) at6 rfl rfl rfl rfl (Nat.le_of_ble_eq_true rfl) dL_law_954 (fun r1 S1 H locs hf hI => ?_)
      have hI := lcm2 hI hKC
      refine lv_icmp_eq (tgt := 1048) (pc := 957) hx hb dL_law_957 (by decide) (fun _ => ?_) (fun c9 => absurd hf.1 c9)
      exact hnext X1 S1 hf.2 hI hl
    by_cases c26 : x = 26
    · refine lv_tableIn (tgt := 962) (pc := 33) hx hb dL_law_33 (by rw [c26]; decide) (by rw [c26]; decide) (by rw [c26]; rfl) (by decide) ?_
      refine lv_aload_n (pc := 962) hx hb dL_law_962 rfl (lv_at hl 1 rfl) ?_
      refine lv_aload_n (pc := 963) hx hb dL_law_963 rfl (lv_at hl 0 rfl) ?_
      refine lv_iload_n (pc := 964) hx hb dL_law_964 rfl (lv_at hl 3 rfl) ?_
      refine lv_iconst (v := 1) (pc := 965) hx hb dL_law_965 rfl ?_
      refine lv_iadd (pc := 966) hx hb dL_law_966 ?_
      refine va_sld (pc := 967) hx hb hX hbl hbA hI.2.2.1 (vpn (j := 1) (by omega) hL rfl) dL_law_967 ?_
      refine lv_aload_n (pc := 968) hx hb dL_law_968 rfl (lv_at hl 0 rfl) ?_
      refine lv_iload_n (pc := 969) hx hb dL_law_969 rfl (lv_at hl 3 rfl) ?_
      refine lv_iconst (v := 2) (pc := 970) hx hb dL_law_970 rfl ?_
      refine lv_iadd (pc := 971) hx hb dL_law_971 ?_
      refine va_sld (pc := 972) hx hb hX hbl hbA hI.2.2.1 (vpn (j := 2) (by omega) hL rfl) dL_law_972 ?_
      refine lv_aload_n (pc := 973) hx hb dL_law_973 rfl (lv_at hl 0 rfl) ?_
      refine lv_iload_n (pc := 974) hx hb dL_law_974 rfl (lv_at hl 3 rfl) ?_
      refine lv_iconst (v := 3) (pc := 975) hx hb dL_law_975 rfl ?_
      refine lv_iadd (pc := 976) hx hb dL_law_976 ?_
      refine va_sld (pc := 977) hx hb hX hbl hbA hI.2.2.1 (vpn (j := 3) (by omega) hL rfl) dL_law_977 ?_
      refine lv_aload_n (pc := 978) hx hb dL_law_978 rfl (lv_at hl 0 rfl) ?_
      refine lv_iload_n (pc := 979) hx hb dL_law_979 rfl (lv_at hl 3 rfl) ?_
      refine lv_iconst (v := 4) (pc := 980) hx hb dL_law_980 rfl ?_
      refine lv_iadd (pc := 981) hx hb dL_law_981 ?_
      refine va_sld (pc := 982) hx hb hX hbl hbA hI.2.2.1 (vpn (j := 4) (by omega) hL rfl) dL_law_982 ?_
      refine callVI (G := (D, tysC cy, SF z)) (L := LC ad cy (LM ad2 cy [] S)) (pc := 983) (As := [.int (xs (nI k + 1).toNatClampNeg), .int (xs (nI k + 2).toNatClampNeg), .int (xs (nI k + 3).toNatClampNeg), .int (xs (nI k + 4).toNatClampNeg)]) (rest := []) stabSF E hcsL hl hI (tX5_exarchate (hh26 X S _ _ _ _ hRel)) mwL_124 (fitL (by decide)) (at5 rfl) rfl rfl rfl rfl (Nat.le_of_ble_eq_true rfl) dL_law_983 (fun r X1 H locs hf hI => ?_)
      have hI := lcm1 hI hKM
      refine lv_aload_n (pc := 986) hx hb dL_law_986 rfl (lv_at hl 2 rfl) ?_
      refine lv_aload_n (pc := 987) hx hb dL_law_987 rfl (lv_at hl 0 rfl) ?_
      refine lv_iload_n (pc := 988) hx hb dL_law_988 rfl (lv_at hl 3 rfl) ?_
      refine lv_iconst (v := 1) (pc := 989) hx hb dL_law_989 rfl ?_
      refine lv_iadd (pc := 990) hx hb dL_law_990 ?_
      refine va_sld (pc := 991) hx hb hX hbl hbA hI.2.2.1 (vpn (j := 1) (by omega) hL rfl) dL_law_991 ?_
      refine lv_aload_n (pc := 992) hx hb dL_law_992 rfl (lv_at hl 0 rfl) ?_
      refine lv_iload_n (pc := 993) hx hb dL_law_993 rfl (lv_at hl 3 rfl) ?_
      refine lv_iconst (v := 2) (pc := 994) hx hb dL_law_994 rfl ?_
      refine lv_iadd (pc := 995) hx hb dL_law_995 ?_
      refine va_sld (pc := 996) hx hb hX hbl hbA hI.2.2.1 (vpn (j := 2) (by omega) hL rfl) dL_law_996 ?_
      refine lv_aload_n (pc := 997) hx hb dL_law_997 rfl (lv_at hl 0 rfl) ?_
      refine lv_iload_n (pc := 998) hx hb dL_law_998 rfl (lv_at hl 3 rfl) ?_
      refine lv_iconst (v := 3) (pc := 999) hx hb dL_law_999 rfl ?_
      refine lv_iadd (pc := 1000) hx hb dL_law_1000 ?_
      refine va_sld (pc := 1001) hx hb hX hbl hbA hI.2.2.1 (vpn (j := 3) (by omega) hL rfl) dL_law_1001 ?_
      refine lv_aload_n (pc := 1002) hx hb dL_law_1002 rfl (lv_at hl 0 rfl) ?_
      refine lv_iload_n (pc := 1003) hx hb dL_law_1003 rfl (lv_at hl 3 rfl) ?_
      refine lv_iconst (v := 4) (pc := 1004) hx hb dL_law_1004 rfl ?_
      refine lv_iadd (pc := 1005) hx hb dL_law_1005 ?_
      refine va_sld (pc := 1006) hx hb hX hbl hbA hI.2.2.1 (vpn (j := 4) (by omega) hL rfl) dL_law_1006 ?_
      refine callVI (G := (D, tysM cy, SF z)) (L := LM ad2 cy (LC ad cy [] X1)) (pc := 1007) (As := [.int (xs (nI k + 1).toNatClampNeg), .int (xs (nI k + 2).toNatClampNeg), .int (xs (nI k + 3).toNatClampNeg), .int (xs (nI k + 4).toNatClampNeg)]) (rest := [.int r]) stabSF E hcsL hl hI (tX6_exarchate stabSF hf) mwL_128 (fitL (by decide)) at6 rfl rfl rfl rfl (Nat.le_of_ble_eq_true rfl) dL_law_1007 (fun r1 S1 H locs hf hI => ?_)
      have hI := lcm2 hI hKC
      refine lv_icmp_eq (tgt := 1048) (pc := 1010) hx hb dL_law_1010 (by decide) (fun _ => ?_) (fun c9 => absurd hf.1 c9)
      exact hnext X1 S1 hf.2 hI hl
    by_cases c27 : x = 27
    · refine lv_tableIn (tgt := 1015) (pc := 33) hx hb dL_law_33 (by rw [c27]; decide) (by rw [c27]; decide) (by rw [c27]; rfl) (by decide) ?_
      refine lv_aload_n (pc := 1015) hx hb dL_law_1015 rfl (lv_at hl 1 rfl) ?_
      refine lv_aload_n (pc := 1016) hx hb dL_law_1016 rfl (lv_at hl 0 rfl) ?_
      refine lv_iload_n (pc := 1017) hx hb dL_law_1017 rfl (lv_at hl 3 rfl) ?_
      refine lv_iconst (v := 1) (pc := 1018) hx hb dL_law_1018 rfl ?_
      refine lv_iadd (pc := 1019) hx hb dL_law_1019 ?_
      refine va_sld (pc := 1020) hx hb hX hbl hbA hI.2.2.1 (vpn (j := 1) (by omega) hL rfl) dL_law_1020 ?_
      refine lv_aload_n (pc := 1021) hx hb dL_law_1021 rfl (lv_at hl 0 rfl) ?_
      refine lv_iload_n (pc := 1022) hx hb dL_law_1022 rfl (lv_at hl 3 rfl) ?_
      refine lv_iconst (v := 2) (pc := 1023) hx hb dL_law_1023 rfl ?_
      refine lv_iadd (pc := 1024) hx hb dL_law_1024 ?_
      refine va_sld (pc := 1025) hx hb hX hbl hbA hI.2.2.1 (vpn (j := 2) (by omega) hL rfl) dL_law_1025 ?_
      refine callVI (G := (D, tysC cy, SF z)) (L := LC ad cy (LM ad2 cy [] S)) (pc := 1026) (As := [.int (xs (nI k + 1).toNatClampNeg), .int (xs (nI k + 2).toNatClampNeg)]) (rest := []) stabSF E hcsL hl hI (tX5_taken (hh27 X S _ _ hRel)) mwL_129 (fitL (by decide)) (at5 rfl) rfl rfl rfl rfl (Nat.le_of_ble_eq_true rfl) dL_law_1026 (fun r X1 H locs hf hI => ?_)
      have hI := lcm1 hI hKM
      refine lv_aload_n (pc := 1029) hx hb dL_law_1029 rfl (lv_at hl 2 rfl) ?_
      refine lv_aload_n (pc := 1030) hx hb dL_law_1030 rfl (lv_at hl 0 rfl) ?_
      refine lv_iload_n (pc := 1031) hx hb dL_law_1031 rfl (lv_at hl 3 rfl) ?_
      refine lv_iconst (v := 1) (pc := 1032) hx hb dL_law_1032 rfl ?_
      refine lv_iadd (pc := 1033) hx hb dL_law_1033 ?_
      refine va_sld (pc := 1034) hx hb hX hbl hbA hI.2.2.1 (vpn (j := 1) (by omega) hL rfl) dL_law_1034 ?_
      refine lv_aload_n (pc := 1035) hx hb dL_law_1035 rfl (lv_at hl 0 rfl) ?_
      refine lv_iload_n (pc := 1036) hx hb dL_law_1036 rfl (lv_at hl 3 rfl) ?_
      refine lv_iconst (v := 2) (pc := 1037) hx hb dL_law_1037 rfl ?_
      refine lv_iadd (pc := 1038) hx hb dL_law_1038 ?_
      refine va_sld (pc := 1039) hx hb hX hbl hbA hI.2.2.1 (vpn (j := 2) (by omega) hL rfl) dL_law_1039 ?_
      refine callVI (G := (D, tysM cy, SF z)) (L := LM ad2 cy (LC ad cy [] X1)) (pc := 1040) (As := [.int (xs (nI k + 1).toNatClampNeg), .int (xs (nI k + 2).toNatClampNeg)]) (rest := [.int r]) stabSF E hcsL hl hI (tX6_taken stabSF hf) mwL_132 (fitL (by decide)) at6 rfl rfl rfl rfl (Nat.le_of_ble_eq_true rfl) dL_law_1040 (fun r1 S1 H locs hf hI => ?_)
      have hI := lcm2 hI hKC
      refine lv_icmp_eq (tgt := 1048) (pc := 1043) hx hb dL_law_1043 (by decide) (fun _ => ?_) (fun c9 => absurd hf.1 c9)
      exact hnext X1 S1 hf.2 hI hl
    refine lv_tableOut (tgt := 1048) (pc := 33) hx hb dL_law_33 (by have := neI (k := 0) c0 rfl; have := neI (k := 1) c1 rfl; have := neI (k := 2) c2 rfl; have := neI (k := 3) c3 rfl; have := neI (k := 4) c4 rfl; have := neI (k := 5) c5 rfl; have := neI (k := 6) c6 rfl; have := neI (k := 7) c7 rfl; have := neI (k := 8) c8 rfl; have := neI (k := 9) c9 rfl; have := neI (k := 10) c10 rfl; have := neI (k := 11) c11 rfl; have := neI (k := 12) c12 rfl; have := neI (k := 13) c13 rfl; have := neI (k := 14) c14 rfl; have := neI (k := 15) c15 rfl; have := neI (k := 16) c16 rfl; have := neI (k := 17) c17 rfl; have := neI (k := 18) c18 rfl; have := neI (k := 19) c19 rfl; have := neI (k := 20) c20 rfl; have := neI (k := 21) c21 rfl; have := neI (k := 22) c22 rfl; have := neI (k := 23) c23 rfl; have := neI (k := 24) c24 rfl; have := neI (k := 25) c25 rfl; have := neI (k := 26) c26 rfl; have := neI (k := 27) c27 rfl; omega) (by decide) ?_
    exact hnext X S hRel hI hl
