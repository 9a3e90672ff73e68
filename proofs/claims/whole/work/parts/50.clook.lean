/-! the class: a square is laid, a day, days -/
theorem clp_hi {x : Int32} (h : rg x 99) : (99 ≤ x → clp (x + 1) 0 99 = x) ∧ (¬ 99 ≤ x → clp (x + 1) 0 99 = x + 1) := by
  obtain ⟨j, hj, rfl⟩ := h
  have : ∀ j, j ≤ 99 → (99 ≤ nI j → clp (nI j + 1) 0 99 = nI j) ∧ (¬ 99 ≤ nI j → clp (nI j + 1) 0 99 = nI j + 1) := by decide +kernel
  exact this j hj
theorem c_lay {X : St} {o : Nat} {g : Int32} {fl : Int64} {dy ru mn : Int32} {bx rw wt : Nat → Int32} {Q : St → Prop} (o4 : ¬ o = 4) (hg : rg g 3) (hW : WRel X o fl dy ru mn bx rw wt) (h : ∀ X', FrC o X X' → WRel X' o (goFl wt fl g) dy ru mn (goBx wt fl bx g) rw wt → Q X') : wX4_lay o g X Q := by
  obtain ⟨j, hj, eg⟩ := hg
  have hv : vp_in g 4 := by rw [eg]; exact vp_in_nI (by omega) (by decide)
  have hc : g.toNatClampNeg = j := by rw [eg]; exact nI_clamp (by omega)
  have hb := hW.2.1 j (by omega)
  unfold wX4_lay
  rw [hc]
  refine ⟨hv, fun x2 e2 => ?_⟩
  rw [hW.1.1] at e2
  have ht : ∀ i, i < 64 → tb x2 i = (!tb fl i && decide (wt i = g)) := by
    intro i hi
    rw [e2, tb_and, tb_not fl hi, (hW.2.2.2 i hi).2 j (by omega), eg, Bool.and_comm]
  rw [lg_eq0]
  refine ⟨fun z => ⟨hv, ?_⟩, fun z σ9 e9 => ?_⟩
  · have hwe : weF wt fl g = 64 := by
      have := frm_no (P := fun c => !tb fl c && decide (wt c = g)) 64 0 (fun i _ hi => by rw [← ht i (by omega)]; exact (tb_eq0.mp z) i (by omega))
      unfold weF
      omega
    have efl : goFl wt fl g = fl := by unfold goFl; rw [if_neg (by omega)]
    rw [hb.1]
    refine ⟨fun c => h X (FrC_refl o X) ?_, fun c => ⟨hv, hv, fun σ8 e8 => h σ8 (by rw [e8]; exact FrC_sA o4) ?_⟩⟩
    · rw [efl]
      refine WRel_pt (fun k hk => ?_) (fun _ _ => rfl) (fun _ _ => rfl) hW
      unfold goBx upd
      rw [hc, hwe, if_neg (show ¬ 64 < 64 by decide)]
      split
      · next e => rw [e, (clp_hi hb.2).1 c]
      · rfl
    · rw [efl, e8]
      have h9 := WRel_box (c := j) (v := bx j + 1) hW (by rw [← (clp_hi hb.2).2 c]; exact clp0_rg _)
      have e5 : goBx wt fl bx g = upd bx j (bx j + 1) := by
        unfold goBx
        rw [hc, if_neg (by omega), (clp_hi hb.2).2 c]
      rw [e5]
      exact h9
  · obtain ⟨c, hc6, htc, hl, e, -⟩ := lowbit z
    have hwe : weF wt fl g = c := by
      unfold weF
      refine frm_at 64 0 c (by omega) (by omega) ?_ (fun i _ hi => ?_)
      · rw [← ht c hc6]; exact htc
      · rw [← ht i (by omega)]; exact hl i hi
    rw [hW.1.1, e] at e9
    have efl : goFl wt fl g = fl ||| lsh 1 (nI c) := by unfold goFl; rw [hwe, if_pos hc6]
    refine h σ9 (by rw [e9]; exact FrC_sJ o4) ?_
    rw [efl, e9]
    refine WRel_pt (fun k hk => ?_) (fun _ _ => rfl) (fun _ _ => rfl) (WRel_filled hW)
    unfold goBx upd
    rw [hc, hwe, if_pos hc6]
    split
    · next e => rw [e, clp_id hb.2]
    · rfl
def CW (X : St) (o : Nat) (ru : Int32) (n : Nat) (wt : Nat → Int32) (a : Int32 × Int64 × (Nat → Int32) × (Nat → Int32)) : Prop := WRel X o a.2.1 a.1 ru (nI n) a.2.2.1 a.2.2.2 wt
theorem CW_3 {X Y : St} {o : Nat} {ru : Int32} {n n' : Nat} {wt wt' : Nat → Int32} {a b : Int32 × Int64 × (Nat → Int32) × (Nat → Int32)} (h : CW X o ru n wt a) (g : CW Y o ru n' wt' b) : gI Y o 3 = gI X o 3 := g.1.2.2.1.trans h.1.2.2.1.symm
theorem c_look {f : Nat → Int32 → Int32 → Int32 → Int32 → Int32 → Int32 → Int32} {X : St} {o p n : Nat} {fl : Int64} {dy ru sil : Int32} {bx rw wt : Nat → Int32} {K : Nat → Int32 → Int32 → St → Prop} {Q : St → Prop} (hp : p < n) (hn : n ≤ 5) (hd : 0 ≤ dy.toInt) (hW : CW X o ru n wt (dy, fl, bx, rw)) (hM : CR f X o) (h : ∀ X', FrC o X X' → CW X' o ru n wt (dy, lookF f wt dy sil false p fl bx rw) → K o sil (nI (p + 1)) X') : wX1_passDay_l2s K o sil (nI p) X Q := by
  have o4 : ¬ o = 4 := by have := hM.1; omega
  have hW0 : WRel X o fl dy ru (nI n) bx rw wt := hW
  have hx := (hW0.2.2.1 p (by omega))
  unfold wX1_passDay_l2s
  rw [nI_clamp (n := p) (by omega), hx.1.2.2.2.1]
  have vp : vp_in (nI p) 5 := vp_in_nI (by omega) (by decide)
  refine ⟨fun c => absurd c (by rw [hW0.1.2.2.2.1]; exact nle hp (by omega)), fun _ => ⟨vp, vp, fun σ5 e5 => ⟨vp, ?_⟩⟩⟩
  rw [clp_up hx.2.2.2.2.1] at e5
  have W5 : WRel σ5 o fl dy ru (nI n) bx (setR rw p) wt := by rw [e5]; exact WRel_looked hW0 (clp0_rg _)
  have F5 : FrC o X σ5 := by rw [e5]; exact FrC_sA o4
  have t5 : gA σ5 o 9 p = setR rw p (5 * p + 2) := (W5.2.2.1 p (by omega)).1.2.2.2.1
  have C5 : CR f σ5 o := CR_C F5 (W5.1.2.2.1.trans hW0.1.2.2.1.symm) hM
  refine c_need (by omega) W5 C5 (fun X7 F7 => ?_)
  rw [t5]
  have W7 : WRel X7 o fl dy ru (nI n) bx (setR rw p) wt := WRel_same (F7.1 o o4) W5
  unfold lookF at h
  refine ⟨fun c => ?_, fun c x19 e19 => ?_⟩
  · have nc : ¬ setR rw p (5 * p + 2) < needF f fl dy bx (setR rw p) p := by
      rw [Int32.le_iff_toInt_le] at c
      rw [Int32.lt_iff_toInt_lt]
      omega
    rw [if_neg nc] at h
    have C7 := CR_V F7 C5
    refine c_give (by omega) hd W7 C7 (fun X10 F10 => ?_)
    have W10 : WRel X10 o fl dy ru (nI n) bx (setR rw p) wt := WRel_same (F10.1 o o4) W7
    refine c_turn (by omega) W10 (CR_V F10 C7) (fun X12 F12 => ?_)
    have W12 : WRel X12 o fl dy ru (nI n) bx (setR rw p) wt := WRel_same (F12.1 o o4) W10
    have F := FrC_trans F5 (FrV_C (FrV_trans (FrV_trans F7 F10) F12))
    have h12 := W12.2.2.1 p (by omega)
    have j93 : ∀ (T : St) (t : Int32) (fl' : Int64) (bx' rw' : Nat → Int32), rg t 3 → WRel T o fl' dy ru (nI n) bx' rw' wt → (∀ σ, FrC o T σ → WRel σ o fl' dy ru (nI n) bx' (trnR rw' p t) wt → K o sil (nI (p + 1)) σ) → wX1_passDay_j93 o sil (nI p) t T K Q := by
      intro T t fl' bx' rw' ht hT hh
      unfold wX1_passDay_j93
      rw [nI_clamp (n := p) (by omega)]
      refine ⟨vp, fun σ16 e16 => ⟨vp, fun σ18 e18 x19 e19 => ?_⟩⟩
      rw [e19, nI_1]
      refine hh σ18 (by rw [e18, e16]; exact FrC_trans (FrC_sA o4) (FrC_sA o4)) ?_
      rw [e18, e16]
      exact WRel_looked (WRel_at hT ht) ⟨0, by decide, rfl⟩
    refine ⟨fun q => j93 _ _ fl bx _ turnF_rg W12 (fun σ F9 W9 => h σ (FrC_trans F F9) ?_), fun q => ⟨vp, vp, fun σ22 e22 => ?_⟩⟩
    · rw [if_pos q]
      have eg : gavR sil false (setR rw p) p = setR rw p := by unfold gavR; rw [if_pos ⟨q, rfl⟩]
      rw [eg]
      exact W9
    · rw [if_neg q] at h
      rw [h12.1.2.2.2.2, clp_up h12.2.2.2.2.2] at e22
      have eg : gavR sil false (setR rw p) p = upd (setR rw p) (5 * p + 3) (clp (setR rw p (5 * p + 3) + 1) 0 99) := by unfold gavR; rw [if_neg (fun z => q z.1)]
      have W22 : WRel σ22 o fl dy ru (nI n) bx (gavR sil false (setR rw p) p) wt := by
        rw [e22, eg]
        exact WRel_gave W12 (clp0_rg _)
      refine c_lay o4 (giveF_rg (fun c hc => (hW0.2.2.2 c hc).1)) W22 (fun X23 F23 W23 => ?_)
      refine j93 _ _ _ _ _ turnF_rg W23 (fun σ F9 W9 => h σ (FrC_trans (FrC_trans (FrC_trans F (by rw [e22]; exact FrC_sA o4)) F23) F9) W9)
  · have nc : setR rw p (5 * p + 2) < needF f fl dy bx (setR rw p) p := by
      rw [Int32.le_iff_toInt_le] at c
      rw [Int32.lt_iff_toInt_lt]
      omega
    rw [if_pos nc] at h
    rw [e19, nI_1]
    exact h X7 (FrC_trans F5 (FrV_C F7)) W7
theorem c_day {f : Nat → Int32 → Int32 → Int32 → Int32 → Int32 → Int32 → Int32} {X : St} {o n : Nat} {ru sil : Int32} {wt : Nat → Int32} {a : Int32 × Int64 × (Nat → Int32) × (Nat → Int32)} {Q : St → Prop} (hn : n ≤ 5) (hd : 0 ≤ a.1.toInt) (hW : CW X o ru n wt a) (hM : CR f X o) (h : ∀ X', FrC o X X' → CW X' o ru n wt (dayF f wt sil false n a) → Q X') : wX1_passDay o sil X Q := by
  have o4 : ¬ o = 4 := by have := hM.1; omega
  obtain ⟨dy, w⟩ := a
  have main : ∀ (m p : Nat) (T : St) (w' : Int64 × (Nat → Int32) × (Nat → Int32)), p + m = n → FrC o X T → CW T o ru n wt (dy, w') → dayL f wt dy sil false m p w' = dayL f wt dy sil false n 0 w → wX1_passDay_l2 (m + 1) o sil (nI p) T Q := by
    intro m
    induction m with
    | zero =>
      intro p T w' hp F hT e
      have ep : p = n := by omega
      subst ep
      apply wX1_passDay_l2_1
      refine ⟨fun _ σ2 e2 => ?_, fun c => absurd (by rw [hT.1.2.2.2.1]; exact Int32.le_refl _) c⟩
      refine h σ2 (by rw [e2]; exact FrC_trans F (FrC_sI o4)) ?_
      unfold dayF
      have e3 : w' = dayL f wt dy sil false p 0 w := e
      rw [← e3, e2, hT.1.2.1]
      exact WRel_day hT
    | succ m ih =>
      intro p T w' hp F hT e
      apply wX1_passDay_l2_1
      obtain ⟨fl, bx, rw'⟩ := w'
      refine c_look (by omega) hn hd hT (CR_C F (CW_3 hW hT) hM) (fun X' F' W' => ?_)
      exact ih (p + 1) X' _ (by omega) (FrC_trans F F') W' e
  exact ⟨n + 1, main n 0 X w (by omega) (FrC_refl o X) hW rfl⟩
theorem day_1 {f : Nat → Int32 → Int32 → Int32 → Int32 → Int32 → Int32 → Int32} {wt : Nat → Int32} {sil : Int32} {gv : Bool} {n : Nat} (a : Int32 × Int64 × (Nat → Int32) × (Nat → Int32)) : (dayF f wt sil gv n a).1 = a.1 + 1 := rfl
theorem inc_to {x : Int32} {d : Nat} (h : x = nI d) : x + 1 = nI (d + 1) := by rw [h, nI_1]
theorem c_pass {f : Nat → Int32 → Int32 → Int32 → Int32 → Int32 → Int32 → Int32} {X : St} {n k d : Nat} {ru : Int32} {wt : Nat → Int32} {a : Int32 × Int64 × (Nat → Int32) × (Nat → Int32)} {Q : St → Prop} (hn : n ≤ 5) (hk : k ≤ 60) (hd : a.1 = nI d) (hd9 : d ≤ 1000) (hW : CW X 2 ru n wt a) (hM : CR f X 2) (h : ∀ X', FrC 2 X X' → CW X' 2 ru n wt (daysF f wt (-1) false n k a) → Q X') : wX5_passInThought (nI k) X Q := by
  have main : ∀ (m p : Nat) (T : St) (b : Int32 × Int64 × (Nat → Int32) × (Nat → Int32)), p + m = k → b.1 = nI (d + p) → FrC 2 X T → CW T 2 ru n wt b → daysF f wt (-1) false n m b = daysF f wt (-1) false n k a → wX5_passInThought_l2 (m + 1) (nI k) (nI p) T Q := by
    intro m
    induction m with
    | zero =>
      intro p T b hp hb F hT e
      have ep : p = k := by omega
      subst ep
      apply wX5_passInThought_l2_1
      refine ⟨fun _ => h T F ?_, fun c => absurd (Int32.le_refl _) c⟩
      rw [← e]
      exact hT
    | succ m ih =>
      intro p T b hp hb F hT e
      apply wX5_passInThought_l2_1
      refine ⟨fun c => absurd c (nle (by omega) (by omega)), fun _ => ?_⟩
      refine c_day hn (by rw [hb, nI_toInt (by omega)]; omega) hT (CR_C F (CW_3 hW hT) hM) (fun X' F' W' x3 e3 => ?_)
      rw [e3, nI_1]
      exact ih (p + 1) X' _ (by omega) (by rw [day_1]; exact inc_to hb) (FrC_trans F F') W' e
  exact ⟨k + 1, main k 0 X a (by omega) hd (FrC_refl 2 X) hW rfl⟩
