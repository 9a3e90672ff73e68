/-! what would be best: tools -/
def FrK (S T : St) : Prop := (∀ f, (f < 14 ∨ 29 ≤ f) → gI T 16 f = gI S 16 f) ∧ (∀ f, ¬ f = 29 → ¬ f = 31 → gA T 16 f = gA S 16 f) ∧ ∀ f, ¬ f = 25 → ¬ f = 30 → gJ T 16 f = gJ S 16 f
theorem FrL_K {S T : St} (h : FrL S T) : FrK S T := ⟨h.1, fun f hf _ => h.2.1 f hf, h.2.2⟩
theorem Rel_CK {TR : OT → Int32 → (Nat → Int32) → Prop} {X Y S T : St} (hR : Rel TR X S) (h : FrC 2 X Y) (g : FrK S T) : Rel TR Y T := by
  obtain ⟨hW, hI, hT, hP, hSh, hid⟩ := hR
  refine ⟨?_, ?_, ?_, ?_, ?_, ?_⟩
  · exact RW_cong (h.1 1 (by decide) (by decide)) (g.2.2 8 (by decide) (by decide)) (g.1 7 (by decide)) (g.1 4 (by decide)) (g.1 12 (by decide)) (g.2.1 10 (by decide) (by decide)) (g.2.1 11 (by decide) (by decide)) (g.2.1 9 (by decide) (by decide)) hW
  · exact RI_cong (gI_same (h.1 0 (by decide) (by decide))) (h.1 3 (by decide) (by decide)) (g.2.2 38 (by decide) (by decide)) (g.1 36 (by decide)) (g.1 37 (by decide)) (g.1 35 (by decide)) (g.2.1 34 (by decide) (by decide)) (g.2.1 32 (by decide) (by decide)) (g.2.1 33 (by decide) (by decide)) hI
  · exact RT_cong h.2 (fun t ht => h.1 _ (by omega) (by omega)) (g.1 3 (by decide)) (g.1 4 (by decide)) (g.1 35 (by decide)) (g.1 37 (by decide)) (g.2.1 2 (by decide) (by decide)) (g.2.1 1 (by decide) (by decide)) hT
  · exact RP_cong (h.1 5 (by decide) (by decide)) (g.1 6 (by decide)) (g.2.1 5 (by decide) (by decide)) hP
  · exact RSh_cong (fun s hs => h.1 _ (by omega) (by omega)) (g.2.1 39 (by decide) (by decide)) (g.2.1 40 (by decide) (by decide)) (g.2.1 41 (by decide) (by decide)) (g.2.1 42 (by decide) (by decide)) hSh
  · rw [g.1 13 (by decide)]; exact hid
/-- all but some ints and some rows -/
def FrA (P R : Nat → Bool) (S T : St) : Prop := (∀ f, P f = false → (f < 14 ∨ 29 ≤ f) → gI T 16 f = gI S 16 f) ∧ (∀ f, R f = false → ¬ f = 29 → gA T 16 f = gA S 16 f) ∧ ∀ f, ¬ f = 25 → ¬ f = 30 → gJ T 16 f = gJ S 16 f
theorem FrA_refl {P R : Nat → Bool} (S : St) : FrA P R S S := ⟨fun _ _ _ => rfl, fun _ _ _ => rfl, fun _ _ _ => rfl⟩
theorem FrA_L {P R : Nat → Bool} {S T U : St} (h : FrA P R S T) (g : FrL T U) : FrA P R S U := ⟨fun f h1 h2 => (g.1 f h2).trans (h.1 f h1 h2), fun f h1 h2 => (g.2.1 f h2).trans (h.2.1 f h1 h2), fun f h1 h2 => (g.2.2 f h1 h2).trans (h.2.2 f h1 h2)⟩
theorem FrA_sA {P R : Nat → Bool} {S T : St} {a i : Nat} {v : Int32} (ha : R a = true) (h : FrA P R S T) : FrA P R S (sA T 16 a i v) := by
  refine ⟨fun f h1 h2 => by rw [gI_sA]; exact h.1 f h1 h2, fun f h1 h2 => ?_, fun f h1 h2 => by rw [gJ_sA]; exact h.2.2 f h1 h2⟩
  rw [gA_sAf _ _ _ _ _ (fun q => by rw [q.2, ha] at h1; exact Bool.false_ne_true h1.symm)]
  exact h.2.1 f h1 h2
theorem FrA_sI {P R : Nat → Bool} {S T : St} {a : Nat} {v : Int32} (ha : P a = true) (h : FrA P R S T) : FrA P R S (sI T 16 a v) := by
  refine ⟨fun f h1 h2 => ?_, fun f h1 h2 => by rw [gA_sI]; exact h.2.1 f h1 h2, fun f h1 h2 => by rw [gJ_sI]; exact h.2.2 f h1 h2⟩
  rw [gI_sIf _ _ _ _ (fun q => by rw [q.2, ha] at h1; exact Bool.false_ne_true h1.symm)]
  exact h.1 f h1 h2
theorem FrA_close {P R : Nat → Bool} {S T : St} (h : FrA P R S T) (h1 : ∀ f, P f = true → gI T 16 f = gI S 16 f) (h2 : ∀ f, R f = true → ¬ f = 31 → gA T 16 f = gA S 16 f) : FrK S T := by
  refine ⟨fun f hf => ?_, fun f hf h3 => ?_, h.2.2⟩
  · cases e : P f
    · exact h.1 f e hf
    · exact h1 f e
  · cases e : R f
    · exact h.2.1 f e hf
    · exact h2 f e h3
def noN (_ : Nat) : Bool := false
def is11 (f : Nat) : Bool := f == 11
def is9 (f : Nat) : Bool := f == 9 || f == 31
def is13 (f : Nat) : Bool := f == 13
def is4 (f : Nat) : Bool := f == 4
theorem upd_upd (r : Nat → Int32) (q : Nat) (x y : Int32) : upd (upd r q x) q y = upd r q y := by
  funext j
  unfold upd
  split <;> rfl
theorem upd_self (r : Nat → Int32) (q : Nat) : upd r q (r q) = r := by
  funext j
  unfold upd
  split
  · next e => rw [e]
  · rfl
theorem CR_2 {f : Nat → Int32 → Int32 → Int32 → Int32 → Int32 → Int32 → Int32} {X T : St} (F : FrC 2 X T) (h : CR f X 1) : CR f T 1 := by
  obtain ⟨_, r, k, h1, h2, h4, h5, h6⟩ := h
  refine ⟨Or.inl rfl, r, k, h1, h2, by rw [F.2]; exact h4, by rw [gI_same (F.1 1 (by decide) (by decide))]; exact h5, ?_⟩
  rw [F.1 (6 + r) (by omega) (by omega)]
  exact h6
theorem CW_2 {X T : St} {ru : Int32} {n : Nat} {wt : Nat → Int32} {a : Int32 × Int64 × (Nat → Int32) × (Nat → Int32)} (F : FrC 2 X T) (h : CW X 1 ru n wt a) : CW T 1 ru n wt a := WRel_same (F.1 1 (by decide) (by decide)) h
/-- most, of like ones the first -/
def lpV (V : Nat → Int32) : Nat → Nat → Int32 × Int32 → Int32 × Int32
  | 0, _, w => w
  | m + 1, i, w => lpV V m (i + 1) (if V i ≤ w.2 then w else (nI i, V i))
theorem nI_gt1 (j : Nat) (h : j < 2 ^ 31) : ¬ nI j ≤ -1 := by
  rw [Int32.le_iff_toInt_le, nI_toInt h]
  have : (-1 : Int32).toInt = -1 := rfl
  omega
theorem sim11 : Sim11 (Rel TR0) := by
  intro X S a b c hR
  obtain ⟨f, n, d, hn, hd, en, ed, hC, hM, hW, hok, hid⟩ := ctx hR
  unfold wX5_atWhat
  rw [CW_n hW]
  have en9 : (nI n).toInt = n := nI_toInt (by omega)
  refine i_isIn (fun p1 p2 => ⟨fun q => absurd q ne10, fun _ => ?_⟩) (fun p => ⟨fun _ => ?_, fun q => absurd rfl q⟩)
  · rw [en9] at p2
    have one : ∀ Q : Int32 → St → Prop, Q 1 S → wX6_isOne a S Q := fun Q hQ => i_isOne hn en (fun _ _ => hQ) (fun g => absurd ⟨p1, p2⟩ g)
    have z40 : (40 : Int64).toInt = ((40 : Nat) : Int) := rfl
    have z1 : (1 : Int64).toInt = ((1 : Nat) : Int) := rfl
    have bad : ¬ (rg b 40 ∧ rg c 1) → wX6_atWhat a b c S (fun r1 S1 => -2 = r1 ∧ Rel TR0 X S1) := by
      intro hx
      refine one _ ⟨fun q => absurd q ne10, fun _ => i_in0 z40 (fun g1 g2 => ⟨fun q => absurd q ne10, fun _ => i_in0 z1 (fun g3 g4 => absurd ⟨rg_of g1 g2 (by decide), rg_of g3 g4 (by decide)⟩ hx) (fun _ => ⟨fun q => absurd rfl q, fun _ => ⟨rfl, hR⟩⟩)⟩) (fun _ => ⟨fun _ => ⟨rfl, hR⟩, fun q => absurd rfl q⟩)⟩
    refine ⟨fun q => bad (fun g => nin_lt q (rg_in g.1 (by decide)).1), fun q1 => ⟨fun q => bad (fun g => nin_gt rfl (by decide) q (rg_in g.1 (by decide)).2), fun q2 => ⟨fun q => bad (fun g => nin_lt q (rg_in g.2 (by decide)).1), fun q3 => ⟨fun q4 => ?_, fun q => bad (fun g => nin_gtl rfl (by decide) q (rg_in g.2 (by decide)).2)⟩⟩⟩⟩
    have rb : rg b 40 := in_rg rfl (by decide) q1 q2
    have rc : rg c 1 := in_rgl rfl (by decide) q3 q4
    obtain ⟨o, ho, ea⟩ : ∃ o, o < n ∧ a = nI o := by
      refine ⟨a.toInt.toNat, by omega, Int32.toInt_inj.mp ?_⟩
      rw [nI_toInt (by omega)]; omega
    obtain ⟨k, hk, eb⟩ := id rb
    obtain ⟨V, hV⟩ : ∃ V : Nat → Int32, ∀ j, V j = nI (pc (daysF f (gA S 16 9) (-1) true n k (gI S 16 7, gJ S 16 8, gA S 16 10, upd (gA S 16 11) (5 * o + 1) (nI j))).2.1) := ⟨_, fun _ => rfl⟩
    have hV1 : ∀ j, ¬ V j ≤ -1 := fun j => by rw [hV]; exact nI_gt1 _ (Nat.lt_of_le_of_lt (pc_le _) (by decide))
    obtain ⟨FI, hFI⟩ : ∃ FI, lpV V 3 1 (nI 0, V 0) = FI := ⟨_, rfl⟩
    have start : ∀ x, lpV V 4 0 (x, -1) = FI := by
      intro x
      show lpV V 3 1 (if V 0 ≤ -1 then (x, -1) else (nI 0, V 0)) = FI
      rw [if_neg (hV1 0)]
      exact hFI
    have model : ∀ X2, FrC 2 X X2 → wX6_atWhat a b c S (fun r1 S1 => (if c = 0 then FI.1 else FI.2) = r1 ∧ Rel TR0 X2 S1) := by
      intro X2 F2
      refine one _ ⟨fun q => absurd q ne10, fun _ => i_in_y z40 (by decide) rb ⟨fun q => absurd q ne10, fun _ => i_in_y z1 (by decide) rc ⟨fun _ => ?_, fun q => absurd q ne10⟩⟩⟩
      rw [ea, mul5, ad1, eb, nI_clamp (n := 5 * o + 1) (by omega)]
      have vq : vp_in (nI (5 * o + 1)) 25 := vp_in_nI (by omega) (by decide)
      refine ⟨vq, fun x11 e11 => ?_⟩
      have main : ∀ (m i : Nat) (T : St) (fo mo : Int32), i + m = 4 → FrA noN is11 S T → (∃ x, gA T 16 11 = upd (gA S 16 11) (5 * o + 1) x) → lpV V m i (fo, mo) = FI → wX6_atWhat_l54 (m + 1) (nI o) (nI k) c x11 fo mo (nI i) T (fun r1 S1 => (if c = 0 then FI.1 else FI.2) = r1 ∧ Rel TR0 X2 S1) := by
        intro m
        induction m with
        | zero =>
          intro i T fo mo hi F hx e
          have ei : i = 4 := by omega
          subst ei
          obtain ⟨x, hx⟩ := hx
          have e' : (fo, mo) = FI := e
          apply wX6_atWhat_l54_1
          unfold wX6_atWhat_l54s
          rw [mul5, ad1, nI_clamp (n := 5 * o + 1) (by omega)]
          refine ⟨fun _ => ⟨vq, fun σ14 s14 => ?_⟩, fun q => absurd (Int32.le_refl _) q⟩
          have hK : FrK S σ14 := by
            refine FrA_close (P := noN) (R := is11) (by rw [s14]; exact FrA_sA rfl F) (fun f q => absurd q Bool.false_ne_true) (fun f q _ => ?_)
            have ef : f = 11 := by simpa [is11] using q
            rw [ef, s14, gA_sAs, hx, upd_upd, e11, upd_self]
          rw [← e']
          refine ⟨fun q => ⟨by rw [if_neg q], Rel_CK hR F2 hK⟩, fun q => ⟨by rw [if_pos q], Rel_CK hR F2 hK⟩⟩
        | succ m ih =>
          intro i T fo mo hi F hx e
          obtain ⟨x, hx⟩ := hx
          apply wX6_atWhat_l54_1
          unfold wX6_atWhat_l54s
          rw [mul5, ad1, nI_clamp (n := 5 * o + 1) (by omega)]
          refine ⟨fun q => absurd q (nle (N := 4) (k := i) (by omega) (by decide)), fun _ => ⟨vq, fun σ17 s17 => ?_⟩⟩
          have F17 : FrA noN is11 S σ17 := by rw [s17]; exact FrA_sA rfl F
          have r17 : gA σ17 16 11 = upd (gA S 16 11) (5 * o + 1) (nI i) := by rw [s17, gA_sAs, hx, upd_upd]
          have w9 : gA σ17 16 9 = gA S 16 9 := F17.2.1 9 rfl (by decide)
          refine m_fb hn (by omega) (by rw [F17.1 12 rfl (by decide)]; exact en) (MR_of (F17.1 4 rfl (by decide)) (F17.2.1 2 rfl (by decide)) (F17.2.1 1 rfl (by decide)) hM) (by rw [w9]; exact hok) (fun U FU => i_bitsOf ?_)
          have ev : nI (pc (daysF f (gA σ17 16 9) (gI σ17 16 13) true n k (aM σ17)).2.1) = V i := by
            rw [hV, w9, F17.1 13 rfl (by decide), hid]
            unfold aM
            rw [F17.1 7 rfl (by decide), F17.2.2 8 (by decide) (by decide), F17.2.1 10 rfl (by decide), r17]
          rw [ev]
          have e' : lpV V m (i + 1) (if V i ≤ mo then (fo, mo) else (nI i, V i)) = FI := e
          refine ⟨fun q x23 e23 => ?_, fun q x23 e23 => ?_⟩
          · rw [if_pos q] at e'
            rw [e23, nI_1]
            exact ih (i + 1) U fo mo (by omega) (FrA_L F17 FU) ⟨nI i, by rw [FU.2.1 11 (by decide)]; exact r17⟩ e'
          · rw [if_neg q] at e'
            rw [e23, nI_1]
            exact ih (i + 1) U (nI i) (V i) (by omega) (FrA_L F17 FU) ⟨nI i, by rw [FU.2.1 11 (by decide)]; exact r17⟩ e'
      exact ⟨5, main 4 0 S 0 (-1) (by omega) (FrA_refl S) ⟨gA S 16 11 (5 * o + 1), (upd_self _ _).symm⟩ (start 0)⟩
    have main : ∀ (m i : Nat) (T : St) (be mo : Int32), i + m = 4 → FrC 2 X T → lpV V m i (be, mo) = FI → wX5_atWhat_l45 (m + 1) a b c be mo (nI i) T (fun r X1 => wX6_atWhat a b c S (fun r1 S1 => r = r1 ∧ Rel TR0 X1 S1)) := by
      intro m
      induction m with
      | zero =>
        intro i T be mo hi F e
        have ei : i = 4 := by omega
        subst ei
        have e' : (be, mo) = FI := e
        apply wX5_atWhat_l45_1
        have h9 := model T F
        rw [← e'] at h9
        refine ⟨fun _ => ⟨fun q => ?_, fun q => ?_⟩, fun q => absurd (Int32.le_refl _) q⟩
        · rw [if_neg q] at h9; exact h9
        · rw [if_pos q] at h9; exact h9
      | succ m ih =>
        intro i T be mo hi F e
        apply wX5_atWhat_l45_1
        refine ⟨fun q => absurd q (nle (N := 4) (k := i) (by omega) (by decide)), fun _ => ?_⟩
        refine c_think (CW_2 F hW) (CR_2 F hC) (fun Y FY WY CY => ⟨by rw [ea]; exact vp_in_nI (by omega) (by decide), fun σ12 s12 => ?_⟩)
        rw [ea, nI_clamp (n := o) (by omega)] at s12
        have W12 : CW σ12 2 (gI S 16 4) n (gA S 16 9) (gI S 16 7, gJ S 16 8, gA S 16 10, upd (gA S 16 11) (5 * o + 1) (nI i)) := by
          rw [s12]; exact WRel_at WY ⟨i, by omega, rfl⟩
        have F12 : FrC 2 Y σ12 := by rw [s12]; exact FrC_sA (by decide)
        rw [eb]
        refine c_fb hn (by omega) ed (by omega) W12 (CR_C F12 (by rw [s12, gI_sA]) CY) (fun U FU => ?_)
        rw [← hV]
        have FT : FrC 2 X U := FrC_trans F (FrC_trans (FrC_of FY) (FrC_trans F12 FU))
        have e' : lpV V m (i + 1) (if V i ≤ mo then (be, mo) else (nI i, V i)) = FI := e
        rw [← eb]
        refine ⟨fun q x16 e16 => ?_, fun q x16 e16 => ?_⟩
        · rw [if_pos q] at e'
          rw [e16, nI_1]
          exact ih (i + 1) U be mo (by omega) FT e'
        · rw [if_neg q] at e'
          rw [e16, nI_1]
          exact ih (i + 1) U (nI i) (V i) (by omega) FT e'
    exact ⟨5, main 4 0 X (-1) (-1) (by omega) (FrC_refl 2 X) (start (-1))⟩
  · rw [en9] at p
    exact i_isOne hn en (fun g1 g2 => absurd ⟨g1, g2⟩ p) (fun _ => ⟨fun _ => ⟨rfl, hR⟩, fun q => absurd rfl q⟩)
/-- idle -/
def fiF (V : Nat → Int32) (v0 : Int32) : Nat → Nat → Int32
  | 0, _ => -1
  | m + 1, p => if V p = v0 then nI p else fiF V v0 m (p + 1)
theorem sim13 : Sim13 (Rel TR0) := by
  intro X S b hR
  obtain ⟨f, n, d, hn, hd, en, ed, hC, hM, hW, hok, hid⟩ := ctx hR
  have z40 : (40 : Int64).toInt = ((40 : Nat) : Int) := rfl
  unfold wX5_idle
  have bad : ¬ rg b 40 → wX6_idle b S (fun r1 S1 => -2 = r1 ∧ Rel TR0 X S1) := fun hx => i_in0 z40 (fun g1 g2 => absurd (rg_of g1 g2 (by decide)) hx) (fun _ => ⟨fun q => absurd rfl q, fun _ => ⟨rfl, hR⟩⟩)
  refine ⟨fun q => bad (fun g => nin_lt q (rg_in g (by decide)).1), fun q1 => ⟨fun q2 => ?_, fun q => bad (fun g => nin_gtl rfl (by decide) q (rg_in g (by decide)).2)⟩⟩
  have rb : rg b 40 := in_rgl rfl (by decide) q1 q2
  obtain ⟨k, hk, eb⟩ := id rb
  obtain ⟨V, hV⟩ : ∃ V : Nat → Int32, ∀ j, V j = nI (pc (daysF f (gA S 16 9) (nI j) true n k (aM S)).2.1) := ⟨_, fun _ => rfl⟩
  obtain ⟨v0, hv0⟩ : ∃ v0 : Int32, v0 = nI (pc (daysF f (gA S 16 9) (-1) true n k (aM S)).2.1) := ⟨_, rfl⟩
  obtain ⟨N, hN⟩ : ∃ N, fiF V v0 n 0 = N := ⟨_, rfl⟩
  have model : ∀ X2, FrC 2 X X2 → wX6_idle b S (fun r1 S1 => N = r1 ∧ Rel TR0 X2 S1) := by
    intro X2 F2
    refine i_in_y z40 (by decide) rb ⟨fun _ => ?_, fun q => absurd q ne10⟩
    rw [eb]
    refine m_fb hn (by omega) en hM hok (fun U0 FU0 => i_bitsOf ?_)
    rw [hid, ← hv0]
    have fin : ∀ (T : St) (fo : Int32), FrA is13 noN S T → N = fo → wX6_idle_j74 fo T (fun r1 S1 => N = r1 ∧ Rel TR0 X2 S1) := by
      intro T fo F e σ9 s9
      refine ⟨e, Rel_CK hR F2 (FrA_close (P := is13) (R := noN) (by rw [s9]; exact FrA_sI rfl F) (fun f q => ?_) (fun f q _ => absurd q Bool.false_ne_true))⟩
      have ef : f = 13 := by simpa [is13] using q
      rw [ef, s9, gI_sIs, hid]
    have main : ∀ (m p : Nat) (T : St), p + m = n → FrA is13 noN S T → fiF V v0 m p = N → wX6_idle_l29 (m + 2) (nI k) v0 (-1) (nI p) T (fun r1 S1 => N = r1 ∧ Rel TR0 X2 S1) := by
      intro m
      induction m with
      | zero =>
        intro p T hp F e
        have ep : p = n := by omega
        subst ep
        apply wX6_idle_l29_1
        unfold wX6_idle_l29s
        rw [F.1 12 rfl (by decide), en]
        exact ⟨fun _ => fin T (-1) F e.symm, fun q => absurd (Int32.le_refl _) q⟩
      | succ m ih =>
        intro p T hp F e
        apply wX6_idle_l29_1
        unfold wX6_idle_l29s
        rw [F.1 12 rfl (by decide), en]
        refine ⟨fun q => absurd q (nle (by omega) (by omega)), fun _ => ⟨fun q => absurd rfl q, fun _ σ11 s11 => ?_⟩⟩
        have F11 : FrA is13 noN S σ11 := by rw [s11]; exact FrA_sI rfl F
        have w9 : gA σ11 16 9 = gA S 16 9 := F11.2.1 9 rfl (by decide)
        refine m_fb hn (by omega) (by rw [F11.1 12 rfl (by decide)]; exact en) (MR_of (F11.1 4 rfl (by decide)) (F11.2.1 2 rfl (by decide)) (F11.2.1 1 rfl (by decide)) hM) (by rw [w9]; exact hok) (fun U FU => i_bitsOf ?_)
        have ev : nI (pc (daysF f (gA σ11 16 9) (gI σ11 16 13) true n k (aM σ11)).2.1) = V p := by
          rw [hV, w9]
          unfold aM
          rw [F11.1 7 rfl (by decide), F11.2.2 8 (by decide) (by decide), F11.2.1 10 rfl (by decide), F11.2.1 11 rfl (by decide), s11, gI_sIs]
        rw [ev]
        have e' : (if V p = v0 then nI p else fiF V v0 m (p + 1)) = N := e
        refine ⟨fun q x17 e17 => ?_, fun q x17 e17 => ?_⟩
        · rw [if_neg q] at e'
          rw [e17, nI_1]
          exact ih (p + 1) U (by omega) (FrA_L F11 FU) e'
        · rw [if_pos q] at e'
          rw [e17, nI_1]
          apply wX6_idle_l29_1
          have FU' := FrA_L F11 FU
          exact ⟨fun _ => fin U (nI p) FU' e'.symm, fun _ => ⟨fun _ => fin U (nI p) FU' e'.symm, fun z => absurd z (rg_ne1 (n := 5) ⟨p, by omega, rfl⟩ (by decide))⟩⟩
    exact ⟨n + 2, main n 0 U0 (by omega) (FrA_L (FrA_refl S) FU0) hN⟩
  refine c_think hW hC (fun Y FY WY CY => ?_)
  rw [eb]
  refine c_fb (sil := -1) hn (by omega) ed (by omega) WY CY (fun U FU => ?_)
  have main : ∀ (m p : Nat) (T : St), p + m = n → FrC 2 X T → fiF V v0 m p = N → wX5_idle_l26 (m + 1) (nI k) v0 (nI p) T (fun r X1 => wX6_idle (nI k) S (fun r1 S1 => r = r1 ∧ Rel TR0 X1 S1)) := by
    intro m
    induction m with
    | zero =>
      intro p T hp F e
      have ep : p = n := by omega
      subst ep
      apply wX5_idle_l26_1
      unfold wX5_idle_l26s
      rw [CW_n (CW_2 F hW)]
      have e' : (-1 : Int32) = N := e
      have h9 := model T F
      rw [eb, ← e'] at h9
      exact ⟨fun _ => h9, fun q => absurd (Int32.le_refl _) q⟩
    | succ m ih =>
      intro p T hp F e
      apply wX5_idle_l26_1
      unfold wX5_idle_l26s
      rw [CW_n (CW_2 F hW)]
      refine ⟨fun q => absurd q (nle (by omega) (by omega)), fun _ => ?_⟩
      refine c_think (CW_2 F hW) (CR_2 F hC) (fun Y FY WY CY => ?_)
      refine c_fb (sil := nI p) hn (by omega) ed (by omega) WY CY (fun U FU => ?_)
      rw [← hV]
      have FT : FrC 2 X U := FrC_trans F (FrC_trans (FrC_of FY) FU)
      have e' : (if V p = v0 then nI p else fiF V v0 m (p + 1)) = N := e
      refine ⟨fun q x11 e11 => ?_, fun q => ?_⟩
      · rw [if_neg q] at e'
        rw [e11, nI_1]
        exact ih (p + 1) U (by omega) FT e'
      · rw [if_pos q] at e'
        have h9 := model U FT
        rw [eb, ← e'] at h9
        exact h9
  rw [← hv0]
  exact ⟨n + 1, main n 0 U (by omega) (FrC_trans (FrC_of FY) FU) hN⟩
