/-! run, ends, atWhat -/
theorem in_rg {a : Int32} {m : Nat} {b : Int32} (hb : b = nI m) (hm : m < 2 ^ 31) (h0 : ¬ a < 0) (h1 : ¬ b < a) : rg a m := by
  rw [Int32.lt_iff_toInt_lt, z32] at h0
  rw [Int32.lt_iff_toInt_lt, hb, nI_toInt hm] at h1
  exact rg_of (by omega) (by omega) hm
theorem in_rgl {a : Int32} {m : Nat} {b : Int32} (hb : b = nI m) (hm : m < 2 ^ 31) (h0 : ¬ a < 0) (h1 : a ≤ b) : rg a m := by
  rw [Int32.lt_iff_toInt_lt, z32] at h0
  rw [Int32.le_iff_toInt_le, hb, nI_toInt hm] at h1
  exact rg_of (by omega) (by omega) hm
theorem nin_lt {a : Int32} (h : a < 0) : ¬ 0 ≤ a.toInt := by
  rw [Int32.lt_iff_toInt_lt, z32] at h
  omega
theorem nin_gt {a : Int32} {m : Nat} {b : Int32} (hb : b = nI m) (hm : m < 2 ^ 31) (h1 : b < a) : ¬ a.toInt ≤ m := by
  rw [Int32.lt_iff_toInt_lt, hb, nI_toInt hm] at h1
  omega
theorem nin_gtl {a : Int32} {m : Nat} {b : Int32} (hb : b = nI m) (hm : m < 2 ^ 31) (h1 : ¬ a ≤ b) : ¬ a.toInt ≤ m := by
  rw [Int32.le_iff_toInt_le, hb, nI_toInt hm] at h1
  omega
/-- in, at an int -/
theorem i_in0 {a : Int32} {b : Int64} {m : Nat} {σ : St} {Q : Int32 → St → Prop} (hb : b.toInt = m) (h1 : 0 ≤ a.toInt → a.toInt ≤ m → Q 1 σ) (h0 : ¬ (0 ≤ a.toInt ∧ a.toInt ≤ m) → Q 0 σ) : wX6_in a.toInt64 0 b σ Q := by
  have z0 : (0 : Int64).toInt = 0 := rfl
  refine i_in (fun g1 g2 => h1 ?_ ?_) (fun g => h0 (fun q => g ⟨?_, ?_⟩))
  · rw [i64, z0] at g1; exact g1
  · rw [i64, hb] at g2; exact g2
  · rw [i64, z0]; exact q.1
  · rw [i64, hb]; exact q.2
theorem i_in_y {a : Int32} {b : Int64} {m : Nat} {σ : St} {Q : Int32 → St → Prop} (hb : b.toInt = m) (hm : m < 2 ^ 31) (ha : rg a m) (h1 : Q 1 σ) : wX6_in a.toInt64 0 b σ Q := i_in0 hb (fun _ _ => h1) (fun g => absurd (rg_in ha hm) g)
theorem i_in_n {a : Int32} {b : Int64} {m : Nat} {σ : St} {Q : Int32 → St → Prop} (hb : b.toInt = m) (ha : ¬ (0 ≤ a.toInt ∧ a.toInt ≤ m)) (h0 : Q 0 σ) : wX6_in a.toInt64 0 b σ Q := i_in0 hb (fun g1 g2 => absurd ⟨g1, g2⟩ ha) (fun _ => h0)
theorem CW_n {X : St} {o : Nat} {ru : Int32} {n : Nat} {wt : Nat → Int32} {a : Int32 × Int64 × (Nat → Int32) × (Nat → Int32)} (h : CW X o ru n wt a) : gI X o 5 = nI n := h.1.2.2.2.1
/-- run -/
theorem sim8 : Sim8 (Rel TR0) := by
  intro X S a b c hR
  obtain ⟨f, n, d, hn, hd, en, ed, hC, hM, hW, hok, hid⟩ := ctx hR
  unfold wX5_run
  rw [CW_n hW]
  have en9 : (nI n).toInt = n := nI_toInt (by omega)
  refine i_isIn (fun p1 p2 => ⟨fun q => absurd q ne10, fun _ => ?_⟩) (fun p => ⟨fun _ => ?_, fun q => absurd rfl q⟩)
  · rw [en9] at p2
    have one : ∀ Q : Int32 → St → Prop, Q 1 S → wX6_isOne a S Q := fun Q hQ => i_isOne hn en (fun _ _ => hQ) (fun g => absurd ⟨p1, p2⟩ g)
    have z40 : (40 : Int64).toInt = ((40 : Nat) : Int) := rfl
    have z4 : (4 : Int64).toInt = ((4 : Nat) : Int) := rfl
    have bad : ¬ (rg b 40 ∧ rg c 4) → wX6_run a b c S (fun r1 S1 => -2 = r1 ∧ Rel TR0 X S1) := by
      intro hx
      refine one _ ⟨fun q => absurd q ne10, fun _ => i_in0 z40 (fun g1 g2 => ⟨fun q => absurd q ne10, fun _ => i_in0 z4 (fun g3 g4 => absurd ⟨rg_of g1 g2 (by decide), rg_of g3 g4 (by decide)⟩ hx) (fun _ => ⟨fun q => absurd rfl q, fun _ => ⟨rfl, hR⟩⟩)⟩) (fun _ => ⟨fun _ => ⟨rfl, hR⟩, fun q => absurd rfl q⟩)⟩
    refine ⟨fun q => bad (fun g => nin_lt q (rg_in g.1 (by decide)).1), fun q1 => ⟨fun q => bad (fun g => nin_gt rfl (by decide) q (rg_in g.1 (by decide)).2), fun q2 => ⟨fun q => bad (fun g => nin_lt q (rg_in g.2 (by decide)).1), fun q3 => ⟨fun q4 => ?_, fun q => bad (fun g => nin_gtl rfl (by decide) q (rg_in g.2 (by decide)).2)⟩⟩⟩⟩
    have rb : rg b 40 := in_rg rfl (by decide) q1 q2
    have rc : rg c 4 := in_rgl rfl (by decide) q3 q4
    obtain ⟨o, ho, ea⟩ : ∃ o, o < n ∧ a = nI o := by
      refine ⟨a.toInt.toNat, by omega, Int32.toInt_inj.mp ?_⟩
      rw [nI_toInt (by omega)]; omega
    have hva : vp_in a 5 := by rw [ea]; exact vp_in_nI (by omega) (by decide)
    have hca : a.toNatClampNeg = o := by rw [ea]; exact nI_clamp (by omega)
    obtain ⟨k, hk, eb⟩ := id rb
    refine c_think hW hC (fun X1 F1 W1 C1 => ?_)
    rw [eb]
    refine c_pass hn (by omega) ed (by omega) W1 C1 (fun X2 F2 W2 => ?_)
    rw [days_m1 hn] at W2
    have hro := W2.2.2.1 o (by omega)
    rw [hca, hro.1.2.2.1, hro.1.2.2.2.1, hro.1.2.2.2.2]
    have fin : ∀ v : Int32, (c = 0 → v = nI (pc (daysF f (gA S 16 9) (-1) true n k (aM S)).2.1)) → (c = 1 → v = boxF (daysF f (gA S 16 9) (-1) true n k (aM S)).2.2.1) → (c = 2 → v = (daysF f (gA S 16 9) (-1) true n k (aM S)).2.2.2 (5 * o + 1)) → (c = 3 → v = (daysF f (gA S 16 9) (-1) true n k (aM S)).2.2.2 (5 * o + 2)) → (c = 4 → v = (daysF f (gA S 16 9) (-1) true n k (aM S)).2.2.2 (5 * o + 3)) → wX6_run a (nI k) c S (fun r1 S1 => v = r1 ∧ Rel TR0 X2 S1) := by
      intro v v0 v1 v2 v3 v4
      refine one _ ⟨fun q => absurd q ne10, fun _ => i_in_y z40 (by decide) ⟨k, hk, rfl⟩ ⟨fun q => absurd q ne10, fun _ => i_in_y z4 (by decide) rc ⟨fun _ => ?_, fun q => absurd q ne10⟩⟩⟩
      refine m_asideA (fun T hA eT => ?_)
      have w := Asd_w hA
      refine m_days hn (by omega) (by rw [w.2.2.2.2.1]; exact en) (MR_A hA hM) (by rw [w.1]; exact hok) (fun U F e => ?_)
      rw [w.1, w.2.2.2.2.2, eT, hid] at e
      have hB := Asd_M hA F (Out_of eT e (by rw [eT]; exact Out_days hn hok k (aM S)))
      have eu1 : gJ U 16 8 = (daysF f (gA S 16 9) (-1) true n k (aM S)).2.1 := by rw [← e]; rfl
      have eu2 : gA U 16 10 = (daysF f (gA S 16 9) (-1) true n k (aM S)).2.2.1 := by rw [← e]; rfl
      have eu3 : gA U 16 11 = (daysF f (gA S 16 9) (-1) true n k (aM S)).2.2.2 := by rw [← e]; rfl
      have out : ∀ r, v = r → wX6_run_j82 r U (fun r1 S1 => v = r1 ∧ Rel TR0 X2 S1) := fun r er => m_backA hB (fun V FV => ⟨er, Rel_CL hR (FrC_trans (FrC_of F1) F2) FV⟩)
      refine ⟨fun c0 => ⟨fun c1 => ?_, fun c1 => i_boxAll (out _ (by rw [eu2]; exact v1 c1))⟩, fun c0 => i_bitsOf (out _ (by rw [eu1]; exact v0 c0))⟩
      obtain ⟨j, hj, ec⟩ := rc
      have c2 : ∃ i, i < 3 ∧ c = nI (i + 2) := by
        refine ⟨j - 2, ?_, ?_⟩
        · omega
        · have : ¬ j = 0 := fun q => c0 (by rw [ec, q]; rfl)
          have : ¬ j = 1 := fun q => c1 (by rw [ec, q]; rfl)
          rw [ec]; congr 1; omega
      obtain ⟨i, hi, ec⟩ := c2
      have ei : (5 * a) + c - 1 = nI (5 * o + i + 1) := by
        rw [ea, ec, mul5, nI_add, show 5 * o + (i + 2) = (5 * o + i + 1) + 1 by omega, nI_pred]
      rw [ei]
      refine ⟨vp_in_nI (by omega) (by decide), out _ ?_⟩
      rw [nI_clamp (by omega), eu3]
      have i3 : i = 0 ∨ i = 1 ∨ i = 2 := by omega
      rcases i3 with i3 | i3 | i3
      · rw [i3]; exact v2 (by rw [ec, i3]; rfl)
      · rw [i3]; exact v3 (by rw [ec, i3]; rfl)
      · rw [i3]; exact v4 (by rw [ec, i3]; rfl)
    refine ⟨fun q => i_filledCells (fin _ (fun _ => by rw [W2.1.1]) ?_ ?_ ?_ ?_), fun q => c_box (fin _ ?_ (fun _ => ?_) ?_ ?_ ?_), fun q => ⟨hva, fin _ ?_ ?_ (fun _ => rfl) ?_ ?_⟩, fun q => ⟨hva, fin _ ?_ ?_ ?_ (fun _ => rfl) ?_⟩, fun q0 q1 q2 q3 => ⟨hva, fin _ ?_ ?_ ?_ ?_ (fun _ => rfl)⟩⟩
    all_goals first
      | (intro g; exact absurd g (by first | assumption | (rw [q]; decide)))
      | skip
    have hb := W2.2.1
    unfold boxF
    rw [(hb 0 (by decide)).1, (hb 1 (by decide)).1, (hb 2 (by decide)).1, (hb 3 (by decide)).1]
  · rw [en9] at p
    exact i_isOne hn en (fun g1 g2 => absurd ⟨g1, g2⟩ p) (fun _ => ⟨fun _ => ⟨rfl, hR⟩, fun q => absurd rfl q⟩)
/-- ends -/
def endR (f : Nat → Int32 → Int32 → Int32 → Int32 → Int32 → Int32 → Int32) (wt : Nat → Int32) (n : Nat) : Nat → Nat → Int32 × Int64 × (Nat → Int32) × (Nat → Int32) → Int32
  | 0, _, _ => -1
  | m + 1, i, a => if a.2.1 = -1 then nI i else endR f wt n m (i + 1) (dayF f wt (-1) true n a)
theorem sim10 : Sim10 (Rel TR0) := by
  intro X S hR
  obtain ⟨f, n, d, hn, hd, en, ed, hC, hM, hW, hok, hid⟩ := ctx hR
  obtain ⟨N, hN⟩ : ∃ N, endR f (gA S 16 9) n 61 0 (aM S) = N := ⟨_, rfl⟩
  have model : ∀ X2, FrC 2 X X2 → wX6_ends S (fun r1 S1 => N = r1 ∧ Rel TR0 X2 S1) := by
    intro X2 F2
    refine m_asideA (fun T hA eT => ?_)
    have main : ∀ (m i : Nat) (U : St), i + m = 61 → Asd S U → endR f (gA S 16 9) n m i (aM U) = N → wX6_ends_l6 (m + 1) (nI i) U (fun r1 S1 => N = r1 ∧ Rel TR0 X2 S1) := by
      intro m
      induction m with
      | zero =>
        intro i U hi hU e
        have ei : i = 61 := by omega
        subst ei
        apply wX6_ends_l6_1
        refine ⟨fun _ => m_backA hU (fun V FV => ⟨fun q => absurd q (by decide), fun _ => ⟨e.symm, Rel_CL hR F2 FV⟩⟩), fun q => absurd (by decide) q⟩
      | succ m ih =>
        intro i U hi hU e
        apply wX6_ends_l6_1
        have w := Asd_w hU
        have hi60 : ¬ (60 : Int32) < nI i := by
          rw [Int32.lt_iff_toInt_lt, nI_toInt (by omega)]
          have : (60 : Int32).toInt = 60 := rfl
          omega
        have hi61 : nI i ≤ (60 : Int32) := by
          rw [Int32.le_iff_toInt_le, nI_toInt (by omega)]
          have : (60 : Int32).toInt = 60 := rfl
          omega
        unfold endR at e
        refine ⟨fun q => absurd q hi60, fun _ => ?_⟩
        rw [lg_eq0]
        refine ⟨fun q => m_backA hU (fun V FV => ⟨fun _ => ⟨?_, Rel_CL hR F2 FV⟩, fun q => absurd hi61 q⟩), fun q => ?_⟩
        · have : (aM U).2.1 = -1 := q
          rw [if_pos this] at e
          exact e.symm
        · have : ¬ (aM U).2.1 = -1 := q
          rw [if_neg this] at e
          refine m_day hn (by rw [w.2.2.2.2.1]; exact en) (MR_A hU hM) (by rw [w.1]; exact hok) (fun V FV eV x7 e7 => ?_)
          rw [w.1, w.2.2.2.2.2, hid] at eV
          rw [e7, nI_1]
          refine ih (i + 1) V (by omega) (Asd_M hU FV ?_) (by rw [eV]; exact e)
          have o1 := Out_days (f := f) (sil := -1) (gv := true) hn hok 1 (aM U)
          have : daysF f (gA S 16 9) (-1) true n 1 (aM U) = aM V := eV.symm
          rw [this] at o1
          exact o1
    exact ⟨62, main 61 0 T (by omega) hA (by rw [eT]; exact hN)⟩
  refine c_think hW hC (fun X1 F1 W1 C1 => ?_)
  have main : ∀ (m i : Nat) (T : St) (b : Int32 × Int64 × (Nat → Int32) × (Nat → Int32)), i + m = 61 → b.1 = nI (d + i) → FrC 2 X T → CW T 2 (gI S 16 4) n (gA S 16 9) b → CR f T 2 → endR f (gA S 16 9) n m i b = N → wX5_ends_l6 (m + 1) (nI i) T (fun r X1 => wX6_ends S (fun r1 S1 => r = r1 ∧ Rel TR0 X1 S1)) := by
    intro m
    induction m with
    | zero =>
      intro i T b hi hb F hT hc e
      have ei : i = 61 := by omega
      subst ei
      apply wX5_ends_l6_1
      have e' : (-1 : Int32) = N := e
      refine ⟨fun _ => by rw [e']; exact model T F, fun q => absurd (by decide) q⟩
    | succ m ih =>
      intro i T b hi hb F hT hc e
      apply wX5_ends_l6_1
      have hi60 : ¬ (60 : Int32) < nI i := by
        rw [Int32.lt_iff_toInt_lt, nI_toInt (by omega)]
        have : (60 : Int32).toInt = 60 := rfl
        omega
      unfold endR at e
      refine ⟨fun q => absurd q hi60, fun _ => ?_⟩
      rw [lg_eq0, hT.1.1]
      refine ⟨fun q => ?_, fun q => ?_⟩
      · rw [if_neg q] at e
        refine c_day hn (by rw [hb, nI_toInt (by omega)]; omega) hT hc (fun X' F' W' x3 e3 => ?_)
        rw [e3, nI_1]
        rw [day_m1 hn] at W'
        exact ih (i + 1) X' _ (by omega) (by rw [day_1]; exact inc_to hb) (FrC_trans F F') W' (CR_C F' (CW_3 hT W') hc) e
      · rw [if_pos q] at e
        rw [e]
        exact model T F
  exact ⟨62, main 61 0 X1 (aM S) (by omega) ed (FrC_of F1) W1 C1 hN⟩
