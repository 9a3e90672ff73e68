/-! drawn, chance -/
theorem iusr9_nn (x : Int32) : 0 ≤ iusr x 9 := by
  have e9 : ((9 : Int32).toUInt32 &&& Int32.toUInt32 31) = 9 := by decide
  unfold iusr
  rw [e9, Int32.le_iff_toBitVec_sle]
  show (0#32).sle (x.toUInt32 >>> 9).toBitVec = true
  rw [BitVec.zero_sle_eq_not_msb, UInt32.toBitVec_shiftRight]
  have e32 : ((9 : UInt32).toBitVec % 32#32) = 9#32 := by decide
  show (!(x.toUInt32.toBitVec >>> ((9 : UInt32).toBitVec % 32#32)).msb) = true
  rw [e32, BitVec.ushiftRight_eq', BitVec.msb_ushiftRight]
  rfl
theorem dr_rg (x : Int32) : rg (irm (iusr x 9) 4) 3 := by
  have h0 := iusr9_nn x
  rw [Int32.le_iff_toInt_le, z32] at h0
  have h1 := irm4 (iusr x 9)
  have h2 := tm4 (iusr x 9).toInt
  exact rg_of (by rw [h1]; exact h2.2.2.1 h0) (by rw [h1]; exact h2.2.1) (by decide)
def drW : Nat → Nat → Int32 → (Nat → Int32) → (Nat → Int32)
  | 0, _, _, w => w
  | m + 1, c, z, w => drW m (c + 1) (z * 1103515245 + 12345) (upd w c (irm (iusr (z * 1103515245 + 12345) 9) 4))
def drV (f : Nat → Int32 → Int32 → Int32 → Int32 → Int32 → Int32 → Int32) (n : Nat) (S : St) (k : Nat) (s : Int32) : Int32 := nI (pc (daysF f (drW 64 0 s (gA S 16 9)) (-1) true n k (aM S)).2.1)
theorem c_drawn {f : Nat → Int32 → Int32 → Int32 → Int32 → Int32 → Int32 → Int32} {X S T : St} {n d k : Nat} {s : Int32} {Q : Int32 → St → Prop} (hn : n ≤ 5) (hd : d ≤ 999) (hk : k ≤ 40) (ed : gI S 16 7 = nI d) (hC : CR f X 1) (hW : CW X 1 (gI S 16 4) n (gA S 16 9) (aM S)) (F : FrC 2 X T) (h : ∀ U, FrC 2 X U → Q (drV f n S k s) U) : wX5_thinkDrawn s T (fun σ3 => wX5_filledBehind (nI k) (-1) σ3 Q) := by
  refine c_think (CW_2 F hW) (CR_2 F hC) (fun Y FY WY CY => ?_)
  have main : ∀ (m c : Nat) (z : Int32) (w : Nat → Int32) (U : St), c + m = 64 → FrC 2 X U → CW U 2 (gI S 16 4) n w (aM S) → CR f U 2 → drW m c z w = drW 64 0 s (gA S 16 9) → wX5_thinkDrawn_l8 (m + 1) z (nI c) U (fun σ3 => wX5_filledBehind (nI k) (-1) σ3 Q) := by
    intro m
    induction m with
    | zero =>
      intro c z w U hc FU WU CU e
      have ec : c = 64 := by omega
      subst ec
      have e' : w = drW 64 0 s (gA S 16 9) := e
      apply wX5_thinkDrawn_l8_1
      refine ⟨fun _ => ?_, fun q => absurd (Int32.le_refl _) q⟩
      rw [e'] at WU
      exact c_fb (sil := -1) hn (by omega) ed (by omega) WU CU (fun V FV => h V (FrC_trans FU FV))
    | succ m ih =>
      intro c z w U hc FU WU CU e
      apply wX5_thinkDrawn_l8_1
      refine ⟨fun q => absurd q (nle (N := 64) (k := c) (by omega) (by decide)), fun _ x5 e5 => ?_⟩
      rw [e5]
      refine c_wish (by omega) (dr_rg _) WU (fun V FV WV x7 e7 => ?_)
      rw [e7, nI_1]
      exact ih (c + 1) _ _ V (by omega) (FrC_trans FU (FrC_of FV)) WV (CR_w FV WU WV CU) e
  exact ⟨65, main 64 0 s (gA S 16 9) Y (by omega) (FrC_trans F (FrC_of FY)) WY CY rfl⟩
theorem m_drawn {f : Nat → Int32 → Int32 → Int32 → Int32 → Int32 → Int32 → Int32} {S T : St} {n k : Nat} {s : Int32} {Q : Int32 → St → Prop} (hn : n ≤ 5) (hk : k ≤ 40) (en : gI S 16 12 = nI n) (hM : MR f S) (hok : ∀ c, c < 64 → rg (gA S 16 9 c) 3) (hid : gI S 16 13 = -1) (F : FrK S T) (h : ∀ U, FrK S U → Q (drV f n S k s) U) : wX6_filledDrawn s (nI k) T Q := by
  have back : ∀ (v : Int32) (U : St), FrA noN is9 S U → (∀ j, j < 64 → gA U 16 31 j = gA S 16 9 j) → (∀ j, 64 ≤ j → gA U 16 9 j = gA S 16 9 j) → (∀ V, FrK S V → Q v V) → ∃ m, wX6_filledDrawn_l68 m v 0 U Q := by
    intro v U FU h31 h9 hQ
    have main : ∀ (m c : Nat) (V : St), c + m = 64 → FrA noN is9 S V → (∀ j, j < 64 → gA V 16 31 j = gA S 16 9 j) → (∀ j, (j < c ∨ 64 ≤ j) → gA V 16 9 j = gA S 16 9 j) → wX6_filledDrawn_l68 (m + 1) v (nI c) V Q := by
      intro m
      induction m with
      | zero =>
        intro c V hc FV g31 g9
        have ec : c = 64 := by omega
        subst ec
        apply wX6_filledDrawn_l68_1
        refine ⟨fun _ => hQ V (FrA_close FV (fun f q => absurd q Bool.false_ne_true) (fun f q hf => ?_)), fun q => absurd (Int32.le_refl _) q⟩
        have ef : f = 9 := by
          simp [is9] at q
          omega
        rw [ef]
        funext j
        exact g9 j (by omega)
      | succ m ih =>
        intro c V hc FV g31 g9
        apply wX6_filledDrawn_l68_1
        unfold wX6_filledDrawn_l68s
        rw [nI_clamp (n := c) (by omega)]
        have vc : vp_in (nI c) 64 := vp_in_nI (by omega) (by decide)
        refine ⟨fun q => absurd q (nle (N := 64) (k := c) (by omega) (by decide)), fun _ => ⟨vc, vc, fun σ9 s9 x10 e10 => ?_⟩⟩
        rw [e10, nI_1]
        refine ih (c + 1) σ9 (by omega) (by rw [s9]; exact FrA_sA rfl FV) (fun j hj => by rw [s9, gA_sAf _ _ _ _ _ (by decide)]; exact g31 j hj) (fun j hj => ?_)
        rw [s9, gA_sA]
        by_cases ej : j = c
        · rw [if_pos ⟨rfl, rfl, ej⟩, ej]; exact g31 c (by omega)
        · rw [if_neg (fun q => ej q.2.2)]; exact g9 j (by omega)
    exact ⟨65, main 64 0 U (by omega) FU h31 (fun j hj => h9 j (by omega))⟩
  have main : ∀ (m c : Nat) (z : Int32) (U : St), c + m = 64 → FrA noN is9 S U → (∀ j, j < 64 → rg (gA U 16 9 j) 3) → (∀ j, c ≤ j → gA U 16 9 j = gA S 16 9 j) → (∀ j, j < c → gA U 16 31 j = gA S 16 9 j) → drW m c z (gA U 16 9) = drW 64 0 s (gA S 16 9) → wX6_filledDrawn_l5 (m + 1) (nI k) z (nI c) U Q := by
    intro m
    induction m with
    | zero =>
      intro c z U hc FU gr g9 g31 e
      have ec : c = 64 := by omega
      subst ec
      have e' : gA U 16 9 = drW 64 0 s (gA S 16 9) := e
      apply wX6_filledDrawn_l5_1
      refine ⟨fun _ => ?_, fun q => absurd (Int32.le_refl _) q⟩
      refine m_fb hn (by omega) (by rw [FU.1 12 rfl (by decide)]; exact en) (MR_of (FU.1 4 rfl (by decide)) (FU.2.1 2 rfl (by decide)) (FU.2.1 1 rfl (by decide)) hM) gr (fun V FV => i_bitsOf ?_)
      have ev : nI (pc (daysF f (gA U 16 9) (gI U 16 13) true n k (aM U)).2.1) = drV f n S k s := by
        unfold drV
        rw [e', FU.1 13 rfl (by decide), hid]
        unfold aM
        rw [FU.1 7 rfl (by decide), FU.2.2 8 (by decide) (by decide), FU.2.1 10 rfl (by decide), FU.2.1 11 rfl (by decide)]
      rw [ev]
      exact back _ V (FrA_L FU FV) (fun j hj => by rw [FV.2.1 31 (by decide)]; exact g31 j hj) (fun j hj => by rw [FV.2.1 9 (by decide)]; exact g9 j hj) h
    | succ m ih =>
      intro c z U hc FU gr g9 g31 e
      apply wX6_filledDrawn_l5_1
      unfold wX6_filledDrawn_l5s
      rw [nI_clamp (n := c) (by omega)]
      have vc : vp_in (nI c) 64 := vp_in_nI (by omega) (by decide)
      refine ⟨fun q => absurd q (nle (N := 64) (k := c) (by omega) (by decide)), fun _ => ⟨vc, vc, fun σ14 s14 x15 e15 => ⟨vc, fun σ17 s17 x18 e18 => ?_⟩⟩⟩
      rw [e18, nI_1]
      have w14 : gA σ14 16 9 = gA U 16 9 := by rw [s14, gA_sAf _ _ _ _ _ (by decide)]
      have w17 : gA σ17 16 9 = upd (gA U 16 9) c (irm (iusr x15 9) 4) := by rw [s17, gA_sAs, w14]
      refine ih (c + 1) x15 σ17 (by omega) (by rw [s17]; exact FrA_sA rfl (by rw [s14]; exact FrA_sA rfl FU)) (fun j hj => ?_) (fun j hj => ?_) (fun j hj => ?_) ?_
      · rw [w17]
        unfold upd
        split
        · exact dr_rg _
        · exact gr j hj
      · rw [w17]
        unfold upd
        rw [if_neg (by omega)]
        exact g9 j (by omega)
      · rw [s17, gA_sAf _ _ _ _ _ (by decide), s14, gA_sA]
        by_cases ej : j = c
        · rw [if_pos ⟨rfl, rfl, ej⟩, ej]; exact g9 c (Nat.le_refl _)
        · rw [if_neg (fun q => ej q.2.2)]; exact g31 j (by omega)
      · rw [w17, e15]
        exact e
  have F0 : FrA noN is9 S T := ⟨fun f _ hf => F.1 f hf, fun f h1 h2 => F.2.1 f h2 (fun q => by rw [q] at h1; exact absurd h1 (by decide)), F.2.2⟩
  have w9 : gA T 16 9 = gA S 16 9 := F.2.1 9 (by decide) (by decide)
  exact ⟨65, main 64 0 s T (by omega) F0 (by rw [w9]; exact hok) (fun j _ => by rw [w9]) (fun j hj => absurd hj (Nat.not_lt_zero j)) (by rw [w9])⟩
theorem FrK_refl (S : St) : FrK S S := ⟨fun _ _ => rfl, fun _ _ _ => rfl, fun _ _ _ => rfl⟩
theorem sim18 : Sim18 (Rel TR0) := by
  intro X S s b hR
  obtain ⟨f, n, d, hn, hd, en, ed, hC, hM, hW, hok, hid⟩ := ctx hR
  have z40 : (40 : Int64).toInt = ((40 : Nat) : Int) := rfl
  have bad : ¬ rg b 40 → wX6_drawn s b S (fun r1 S1 => -2 = r1 ∧ Rel TR0 X S1) := fun hx => i_in0 z40 (fun g1 g2 => absurd (rg_of g1 g2 (by decide)) hx) (fun _ => ⟨fun _ => ⟨rfl, hR⟩, fun q => absurd rfl q⟩)
  refine ⟨fun q => bad (fun g => nin_lt q (rg_in g (by decide)).1), fun q1 => ⟨fun q2 => ?_, fun q => bad (fun g => nin_gtl rfl (by decide) q (rg_in g (by decide)).2)⟩⟩
  have rb : rg b 40 := in_rgl rfl (by decide) q1 q2
  obtain ⟨k, hk, eb⟩ := id rb
  rw [eb]
  refine c_drawn hn hd hk ed hC hW (FrC_refl 2 X) (fun U FU => ?_)
  refine i_in_y z40 (by decide) ⟨k, hk, rfl⟩ ⟨fun q => absurd q ne10, fun _ => ?_⟩
  exact m_drawn hn hk en hM hok hid (FrK_refl S) (fun V FV => ⟨rfl, Rel_CK hR FU FV⟩)
/-- how many seeds -/
def cnF (V : Int32 → Int32) (k s : Int32) : Nat → Nat → Nat → Nat
  | 0, _, g => g
  | m + 1, i, g => cnF V k s m (i + 1) (if V (s + nI i) < k then g else g + 1)
theorem cn_le {V : Int32 → Int32} {k s : Int32} : ∀ (m i g : Nat), cnF V k s m i g ≤ g + m := by
  intro m
  induction m with
  | zero => intro i g; exact Nat.le_refl _
  | succ m ih =>
    intro i g
    unfold cnF
    split
    · have := ih (i + 1) g; omega
    · have := ih (i + 1) (g + 1); omega
theorem sim19 : Sim19 (Rel TR0) := by
  intro X S s b c e4 hR
  obtain ⟨f, n, d, hn, hd, en, ed, hC, hM, hW, hok, hid⟩ := ctx hR
  have y1 : (1 : Int32).toInt = 1 := rfl
  have y20 : (20 : Int32).toInt = 20 := rfl
  have z1' : (1 : Int64).toInt = 1 := rfl
  have z20 : (20 : Int64).toInt = 20 := rfl
  have z1 : (1 : Int64).toInt = ((1 : Nat) : Int) := rfl
  have z64 : (64 : Int64).toInt = ((64 : Nat) : Int) := rfl
  have bad : ¬ ((1 ≤ b.toInt ∧ b.toInt ≤ 20) ∧ rg c 64 ∧ rg e4 1) → wX6_chance s b c e4 S (fun r1 S1 => -4611686018427387904 = r1 ∧ Rel TR0 X S1) := by
    intro hx
    refine i_in (fun g1 g2 => ⟨fun q => absurd q ne10, fun _ => i_in0 z64 (fun g3 g4 => ⟨fun q => absurd q ne10, fun _ => i_in0 z1 (fun g5 g6 => ?_) (fun _ => ⟨fun q => absurd rfl q, fun _ => ⟨rfl, hR⟩⟩)⟩) (fun _ => ⟨fun _ => ⟨rfl, hR⟩, fun q => absurd rfl q⟩)⟩) (fun _ => ⟨fun _ => ⟨rfl, hR⟩, fun q => absurd rfl q⟩)
    rw [i64, z1'] at g1
    rw [i64, z20] at g2
    exact absurd ⟨⟨g1, g2⟩, rg_of g3 g4 (by decide), rg_of g5 g6 (by decide)⟩ hx
  unfold wX5_chance
  refine ⟨fun q => bad (fun g => ?_), fun q1 => ⟨fun q => bad (fun g => ?_), fun q2 => ⟨fun q => bad (fun g => nin_lt q (rg_in g.2.1 (by decide)).1), fun q3 => ⟨fun q => bad (fun g => nin_gt rfl (by decide) q (rg_in g.2.1 (by decide)).2), fun q4 => ⟨fun q => bad (fun g => nin_lt q (rg_in g.2.2 (by decide)).1), fun q5 => ⟨fun q6 => ?_, fun q => bad (fun g => nin_gtl rfl (by decide) q (rg_in g.2.2 (by decide)).2)⟩⟩⟩⟩⟩⟩
  · rw [Int32.lt_iff_toInt_lt, y1] at q; omega
  · rw [Int32.lt_iff_toInt_lt, y20] at q; omega
  rw [Int32.lt_iff_toInt_lt, y1] at q1
  rw [Int32.lt_iff_toInt_lt, y20] at q2
  have rc : rg c 64 := in_rg rfl (by decide) q3 q4
  have re : rg e4 1 := in_rgl rfl (by decide) q5 q6
  obtain ⟨k, hk, eb⟩ := rg_of (x := b) (n := 20) (by omega) (by omega) (by decide)
  have hk1 : 1 ≤ k := by
    have : b.toInt = k := by rw [eb, nI_toInt (by omega)]
    omega
  obtain ⟨N, hN⟩ : ∃ N, cnF (drV f n S 12) c s k 0 0 = N := ⟨_, rfl⟩
  have hN20 : N ≤ k := by
    have := cn_le (V := drV f n S 12) (k := c) (s := s) k 0 0
    omega
  have model : ∀ X2 r, FrC 2 X X2 → (e4 = 0 → r = lN (N / Nat.gcd k N)) → (¬ e4 = 0 → r = lN (k / Nat.gcd k N)) → wX6_chance s b c e4 S (fun r1 S1 => r = r1 ∧ Rel TR0 X2 S1) := by
    intro X2 r F2 h0 h1
    refine i_in (fun _ _ => ⟨fun q => absurd q ne10, fun _ => i_in_y z64 (by decide) rc ⟨fun q => absurd q ne10, fun _ => i_in_y z1 (by decide) re ⟨fun _ => ?_, fun q => absurd q ne10⟩⟩⟩) (fun g => absurd ⟨by rw [i64, z1']; omega, by rw [i64, z20]; omega⟩ g)
    rw [eb]
    have main : ∀ (m i g : Nat) (T : St), i + m = k → g ≤ i → FrK S T → cnF (drV f n S 12) c s m i g = N → wX6_chance_l45 (m + 1) s (nI k) c e4 (lN g) (nI i) T (fun r1 S1 => r = r1 ∧ Rel TR0 X2 S1) := by
      intro m
      induction m with
      | zero =>
        intro i g T hi hg F e
        have ei : i = k := by omega
        subst ei
        have e' : g = N := e
        apply wX6_chance_l45_1
        refine ⟨fun _ => ?_, fun q => absurd (Int32.le_refl _) q⟩
        rw [nI_l (by omega), e']
        exact i_lowM (by omega) (by omega) (by omega) (fun z => ⟨h0 z, Rel_CK hR F2 F⟩) (fun z => ⟨h1 z, Rel_CK hR F2 F⟩)
      | succ m ih =>
        intro i g T hi hg F e
        apply wX6_chance_l45_1
        refine ⟨fun q => absurd q (nle (by omega) (by omega)), fun _ => ?_⟩
        refine m_drawn (k := 12) hn (by decide) en hM hok hid F (fun U FU => ?_)
        unfold cnF at e
        refine ⟨fun q x16 e16 x17 e17 => ?_, fun q x16 e16 x17 e17 => ?_⟩
        · rw [if_pos q] at e
          rw [e16, e17, nI_1, show lN g + 0 = lN g from lN_addN g 0]
          exact ih (i + 1) g U (by omega) (by omega) FU e
        · rw [if_neg q] at e
          rw [e16, e17, nI_1, show lN g + 1 = lN (g + 1) from lN_addN g 1]
          exact ih (i + 1) (g + 1) U (by omega) (by omega) FU e
    exact ⟨k + 1, main k 0 0 S (by omega) (Nat.le_refl _) (FrK_refl S) hN⟩
  have main : ∀ (m i g : Nat) (T : St), i + m = k → g ≤ i → FrC 2 X T → cnF (drV f n S 12) c s m i g = N → wX5_chance_l42 (m + 1) s b c e4 (nI g) (nI i) T (fun r X1 => wX6_chance s b c e4 S (fun r1 S1 => r = r1 ∧ Rel TR0 X1 S1)) := by
    intro m
    induction m with
    | zero =>
      intro i g T hi hg F e
      have ei : i = k := by omega
      subst ei
      have e' : g = N := e
      apply wX5_chance_l42_1
      refine ⟨fun _ => ?_, fun q => absurd (by rw [eb]; exact Int32.le_refl _) q⟩
      have h9 := fun r h0 h1 => model T r F h0 h1
      rw [eb] at h9 ⊢
      rw [e']
      exact i_lowC (by omega) (by omega) (by omega) (fun z => h9 _ (fun _ => rfl) (fun q => absurd z q)) (fun z => h9 _ (fun q => absurd q z) (fun _ => rfl))
    | succ m ih =>
      intro i g T hi hg F e
      apply wX5_chance_l42_1
      refine ⟨fun q => absurd q (by rw [eb]; exact nle (by omega) (by omega)), fun _ => ?_⟩
      refine c_drawn (k := 12) hn hd (by decide) ed hC hW F (fun U FU => ?_)
      unfold cnF at e
      refine ⟨fun q x13 e13 => ?_, fun q x14 e14 x13 e13 => ?_⟩
      · rw [if_pos q] at e
        rw [e13, nI_1]
        exact ih (i + 1) g U (by omega) (by omega) FU e
      · rw [if_neg q] at e
        rw [e13, e14, nI_1, nI_1]
        exact ih (i + 1) (g + 1) U (by omega) (by omega) FU e
  exact ⟨k + 1, main k 0 0 X (by omega) (Nat.le_refl _) (FrC_refl 2 X) hN⟩
