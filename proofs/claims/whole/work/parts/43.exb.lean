theorem tI_sub {x y : Int32} (h1 : -2147483648 ≤ x.toInt - y.toInt) (h2 : x.toInt - y.toInt ≤ 2147483647) : (x - y).toInt = x.toInt - y.toInt := by
  rw [Int32.toInt_sub]
  exact Int.bmod_eq_of_le (by omega) (by omega)
theorem tI_add {x y : Int32} (h1 : -2147483648 ≤ x.toInt + y.toInt) (h2 : x.toInt + y.toInt ≤ 2147483647) : (x + y).toInt = x.toInt + y.toInt := by
  rw [Int32.toInt_add]
  exact Int.bmod_eq_of_le (by omega) (by omega)
theorem i_hasRow {X : St} {o n : Nat} {p1 p2 : Int32} {Q : Int32 → St → Prop} (hn : n ≤ 40) (e : gI X o 1 = nI n) (h1 : 0 ≤ p1.toInt → 0 ≤ p2.toInt → p2.toInt ≤ n → p1.toInt + p2.toInt ≤ n → Q 1 X) (h0 : ¬ (0 ≤ p1.toInt ∧ 0 ≤ p2.toInt ∧ p2.toInt ≤ n ∧ p1.toInt + p2.toInt ≤ n) → Q 0 X) : wX2_hasRow o p1 p2 X Q := by
  have y0 : (0 : Int32).toInt = 0 := rfl
  have en : (nI n).toInt = n := nI_toInt (by omega)
  unfold wX2_hasRow
  rw [e]
  refine ⟨fun c => h0 ?_, fun c => ⟨fun d => h0 ?_, fun d => ⟨fun g => h0 ?_, fun g => ?_⟩⟩⟩
  · rw [Int32.lt_iff_toInt_lt] at c; omega
  · rw [Int32.lt_iff_toInt_lt] at d; omega
  · rw [Int32.lt_iff_toInt_lt] at g; omega
  · rw [Int32.lt_iff_toInt_lt] at c d g
    have es : (nI n - p2).toInt = n - p2.toInt := by rw [tI_sub (by omega) (by omega), en]
    refine ⟨fun k => h0 ?_, fun k => h1 ?_ ?_ ?_ ?_⟩
    · rw [Int32.lt_iff_toInt_lt, es] at k; omega
    · omega
    · omega
    · omega
    · rw [Int32.lt_iff_toInt_lt, es] at k; omega
theorem f_exaLoop {TR : OT → Int32 → (Nat → Int32) → Prop} {s n : Nat} {a from9 : Int32} (hs : s < 4) (ea : a = nI s) (hn : n ≤ 5) : ∀ (m i : Nat) (came : Int32) (X S : St), i + m = n → Rel TR X S → ¬ gA S 16 39 s = 0 → (i = 0 ∨ (0 ≤ from9.toInt ∧ from9.toInt ≤ 40)) → ∃ (r : Int32) (X1 S1 : St), Rel TR X1 S1 ∧ (∀ Q : Int32 → St → Prop, Q r X1 → wX5_exarchate_l67 (m + 1) from9 (nI n) (12 + s) came (nI i) X Q) ∧ ∀ Q : Int32 → St → Prop, Q r S1 → wX6_exarchate_l75 (m + 1) a from9 (nI n) came (nI i) S Q := by
  intro m
  have y0 : (0 : Int32).toInt = 0 := rfl
  have hv : vp_in a 4 := by rw [ea]; exact vp_in_nI hs (by decide)
  have hc : a.toNatClampNeg = s := by rw [ea]; exact nI_clamp (by omega)
  induction m with
  | zero =>
    intro i came X S hi hR hT hF
    have e : i = n := by omega
    subst e
    refine ⟨came, X, S, hR, fun Q h => ?_, fun Q h => ?_⟩
    · apply wX5_exarchate_l67_1
      exact ⟨fun _ => h, fun c => absurd (Int32.le_refl _) c⟩
    · apply wX6_exarchate_l75_1
      exact ⟨fun _ => h, fun c => absurd (Int32.le_refl _) c⟩
  | succ m ih =>
    intro i came X S hi hR hT hF
    obtain ⟨hW, hI, hTx, hP, hSh, hid⟩ := id hR
    rcases sheet_of hSh hs with ⟨m1, m2⟩ | ⟨q0, q1, q2, q3, z, hz, q4, q5, q6⟩
    · exact absurd m2 hT
    have ez : (nI z).toInt = z := nI_toInt (by omega)
    have e3 : (3 : Int32) * nI i = nI (3 * i) := (Int32.ofNat_mul 3 i).symm
    have e3i : (nI (3 * i)).toInt = 3 * i := by rw [nI_toInt (by omega)]; omega
    have y3 : (3 : Int32).toInt = 3 := rfl
    have hle : ¬ nI n ≤ nI i := nle (by omega) (by omega)
    -- the first place, and the reference's bound
    have ef : (from9 + 3 * nI i).toInt = from9.toInt + 3 * i := by
      rw [e3]
      rcases hF with hF | hF
      · subst hF
        have e0 : nI (3 * 0) = 0 := rfl
        rw [e0, Int32.add_zero]; omega
      · rw [tI_add (by omega) (by omega), e3i]
    have eb : ((nI z - 3 * nI i) - 3).toInt = (z : Int) - 3 * i - 3 := by
      rw [e3]
      have e1 : (nI z - nI (3 * i)).toInt = (z : Int) - 3 * i := by rw [tI_sub (by omega) (by omega), ez, e3i]
      rw [tI_sub (by omega) (by omega), e1, y3]
    by_cases hin : 0 ≤ from9.toInt ∧ from9.toInt + 3 * i + 3 ≤ z
    · obtain ⟨f, hf, hf2⟩ : ∃ f : Nat, from9 = nI f ∧ f + 3 * i + 3 ≤ z := ⟨from9.toInt.toNat, Int32.toInt_inj.mp (by rw [nI_toInt (by omega)]; omega), by omega⟩
      have e16 : from9 + 3 * nI i = nI (f + 3 * i) := by rw [e3, hf, nI_add]
      have e18 : ((40 * a) + from9) + (3 * nI i) = nI (40 * s + f + 3 * i) := by
        rw [e3, hf, ea, show (40 : Int32) * nI s = nI (40 * s) from (Int32.ofNat_mul 40 s).symm, nI_add, nI_add]
      have u1 : nI (f + 3 * i) + 1 = nI (f + 3 * i + 1) := nI_add _ 1
      have u2 : nI (f + 3 * i) + 2 = nI (f + 3 * i + 2) := nI_add _ 2
      have v1 : nI (40 * s + f + 3 * i) + 1 = nI (40 * s + f + 3 * i + 1) := nI_add _ 1
      have v2 : nI (40 * s + f + 3 * i) + 2 = nI (40 * s + f + 3 * i + 2) := nI_add _ 2
      have g0 : gA X (12 + s) 0 (f + 3 * i) = gA S 16 42 (40 * s + f + 3 * i) := by rw [q6 _ (by omega)]; congr 1; omega
      have g1 : gA X (12 + s) 0 (f + 3 * i + 1) = gA S 16 42 (40 * s + f + 3 * i + 1) := by rw [q6 _ (by omega)]; congr 1; omega
      have g2 : gA X (12 + s) 0 (f + 3 * i + 2) = gA S 16 42 (40 * s + f + 3 * i + 2) := by rw [q6 _ (by omega)]; congr 1; omega
      obtain ⟨r, X1, S1, hR1, fr1, fr2, c1, c2⟩ := f_person (gA S 16 42 (40 * s + f + 3 * i)) (gA S 16 42 (40 * s + f + 3 * i + 1)) (gA S 16 42 (40 * s + f + 3 * i + 2)) hR
      have hT1 : ¬ gA S1 16 39 s = 0 := by rw [fr2 39 (by decide)]; exact hT
      obtain ⟨r2, X2, S2, hR2, d1, d2⟩ := ih (i + 1) (if r < 0 then came else came + 1) X1 S1 (by omega) hR1 hT1 (Or.inr ⟨hin.1, by omega⟩)
      refine ⟨r2, X2, S2, hR2, fun Q h => ?_, fun Q h => ?_⟩
      · apply wX5_exarchate_l67_1
        refine ⟨fun c => absurd c hle, fun _ x16 ex => ?_⟩
        rw [e16] at ex
        subst ex
        refine i_hasRow hz q4 (fun _ _ _ _ => ⟨fun _ => ⟨vp_in_nI (by omega) (by decide), by rw [u1]; exact vp_in_nI (by omega) (by decide), by rw [u2]; exact vp_in_nI (by omega) (by decide), ?_⟩, fun c => absurd c ne10⟩) (fun q => absurd ⟨by rw [nI_toInt (by omega)]; omega, by decide, by rw [y3]; omega, by rw [nI_toInt (by omega), y3]; omega⟩ q)
        rw [u1, u2, nI_clamp (by omega), nI_clamp (by omega), nI_clamp (by omega), g0, g1, g2]
        refine c1 _ ⟨fun hr x26 ex => ?_, fun hr x27 ex x26 ex2 => ?_⟩
        · rw [ex, nI_1]
          have h9 := d1 Q h
          rw [if_pos hr] at h9
          exact h9
        · rw [ex2, ex, nI_1]
          have h9 := d1 Q h
          rw [if_neg hr] at h9
          exact h9
      · apply wX6_exarchate_l75_1
        refine ⟨fun c => absurd c hle, fun _ => ⟨fun c => ?_, fun c => ⟨hv, ?_⟩⟩⟩
        · rw [Int32.lt_iff_toInt_lt] at c; omega
        rw [hc, q5]
        refine ⟨fun _ x18 ex => ?_, fun g => absurd (by rw [Int32.le_iff_toInt_le, eb]; omega) g⟩
        rw [e18] at ex
        subst ex
        refine ⟨vp_in_nI (by omega) (by decide), by rw [v1]; exact vp_in_nI (by omega) (by decide), by rw [v2]; exact vp_in_nI (by omega) (by decide), ?_⟩
        rw [v1, v2, nI_clamp (by omega), nI_clamp (by omega), nI_clamp (by omega)]
        refine c2 _ ⟨fun hr x25 ex x26 ex2 => ?_, fun hr x25 ex x26 ex2 => ?_⟩
        · rw [ex2, ex, nI_1, Int32.add_zero]
          have h9 := d2 Q h
          rw [if_pos hr] at h9
          exact h9
        · rw [ex2, ex, nI_1]
          have h9 := d2 Q h
          rw [if_neg hr] at h9
          exact h9
    · refine ⟨-12, X, S, hR, fun Q h => ?_, fun Q h => ?_⟩
      · apply wX5_exarchate_l67_1
        refine ⟨fun c => absurd c hle, fun _ x16 e16 => ?_⟩
        subst e16
        refine i_hasRow hz q4 (fun g1 _ _ g4 => ?_) (fun _ => ⟨fun c => absurd rfl c, fun _ => h⟩)
        rw [ef] at g1 g4
        rcases hF with hF | hF <;> omega
      · apply wX6_exarchate_l75_1
        refine ⟨fun c => absurd c hle, fun _ => ⟨fun _ => h, fun c => ⟨hv, ?_⟩⟩⟩
        rw [hc, q5]
        refine ⟨fun g => ?_, fun _ => h⟩
        rw [Int32.le_iff_toInt_le, eb] at g
        rw [Int32.lt_iff_toInt_lt] at c
        exfalso
        apply hin
        omega
theorem sim26 {TR : OT → Int32 → (Nat → Int32) → Prop} : Sim26 (Rel TR) := by
  intro X S a b c d hR
  obtain ⟨hW, hI, hT, hP, hSh, hid⟩ := id hR
  have z0 : (0 : Int64).toInt = 0 := rfl
  have z2 : (2 : Int64).toInt = 2 := rfl
  have z5 : (5 : Int64).toInt = 5 := rfl
  have y0 : (0 : Int32).toInt = 0 := rfl
  have y3 : (3 : Int32).toInt = 3 := rfl
  have y4 : (4 : Int32).toInt = 4 := rfl
  have y5 : (5 : Int32).toInt = 5 := rfl
  unfold wX5_exarchate
  refine i_isIn (fun p1 p2 => ⟨fun c => absurd c ne10, fun _ => ?_⟩) (fun h => ⟨fun _ => ?_, fun c => absurd rfl c⟩)
  · rw [y4] at p2
    obtain ⟨s, hs, es⟩ : ∃ s, s < 4 ∧ a = nI s := by
      refine ⟨a.toInt.toNat, by omega, Int32.toInt_inj.mp ?_⟩
      rw [nI_toInt (by omega)]; omega
    have hv : vp_in a 4 := by rw [es]; exact vp_in_nI hs (by decide)
    have hc : a.toNatClampNeg = s := by rw [es]; exact nI_clamp (by omega)
    refine i_isIn (fun q1 q2 => ⟨fun c => absurd c ne10, fun _ => ?_⟩) (fun h => ⟨fun _ => ?_, fun c => absurd rfl c⟩)
    · rw [y3] at q2
      have model : ∀ Q : Int32 → St → Prop, ((0 ≤ d.toInt ∧ d.toInt ≤ 5) → (gA S 16 39 s = 0 → wX6_exarchate_j57 a c d S Q) ∧ (¬ gA S 16 39 s = 0 → gA S 16 40 s = b → wX6_exarchate_j57 a c d S Q) ∧ (¬ gA S 16 39 s = 0 → ¬ gA S 16 40 s = b → Q (-13) S)) → (¬ (0 ≤ d.toInt ∧ d.toInt ≤ 5) → Q (-2) S) → wX6_exarchate a b c d S Q := by
        intro Q g1 g0
        unfold wX6_exarchate
        refine i_isSheet (fun _ _ => ⟨fun c => absurd c ne10, fun _ => ?_⟩) (fun h => absurd ⟨p1, p2⟩ h)
        refine i_in (fun _ _ => ⟨fun c => absurd c ne10, fun _ => ?_⟩) (fun h => absurd ⟨by rw [i64]; omega, by rw [i64]; omega⟩ h)
        refine i_in (fun h1 h2 => ⟨fun _ => ⟨hv, ?_⟩, fun c => absurd c ne10⟩) (fun h => ⟨fun c => absurd rfl c, fun _ => g0 (fun q => h ⟨by rw [i64]; omega, by rw [i64]; omega⟩)⟩)
        rw [i64] at h1 h2
        rw [hc]
        obtain ⟨k1, k2, k3⟩ := g1 ⟨by omega, by omega⟩
        exact ⟨k1, fun q => ⟨hv, k2 q, k3 q⟩⟩
      refine ⟨fun h => ?_, fun h => ⟨fun h2 => ⟨hv, fun o10 e10 => ?_⟩, fun h2 => ?_⟩⟩
      · rw [Int32.lt_iff_toInt_lt] at h
        exact model _ (fun q => by omega) (fun _ => ⟨rfl, hR⟩)
      · rw [Int32.lt_iff_toInt_lt] at h
        rw [Int32.le_iff_toInt_le] at h2
        have hd : 0 ≤ d.toInt ∧ d.toInt ≤ 5 := ⟨by omega, by omega⟩
        obtain ⟨n, hn, en⟩ := rg_of (x := d) (n := 5) hd.1 hd.2 (by decide)
        rw [hc] at e10
        subst e10
        rcases sheet_of hSh hs with ⟨m1, m2⟩ | ⟨q0, q1', q2', q3, z, hz, q4, q5, q6⟩
        · refine i_miss (fun q => absurd m1 q) (fun _ => ⟨fun c => absurd c ne10, fun _ => ?_⟩)
          refine model _ (fun _ => ⟨fun _ => ⟨hv, ?_⟩, fun q => absurd m2 q, fun q => absurd m2 q⟩) (fun q => absurd hd q)
          rw [hc]
          exact ⟨fun q => absurd m2 q, fun _ => ⟨rfl, hR⟩⟩
        · refine i_miss (fun _ => ⟨fun _ => ⟨fun hb => ?_, fun hb => ?_⟩, fun c => absurd rfl c⟩) (fun q => absurd q q0)
          · obtain ⟨r, X1, S1, hR1, d1, d2⟩ := f_exaLoop (from9 := c) hs es hn n 0 0 X S (by omega) hR q1' (Or.inl rfl)
            rw [en]
            refine ⟨n + 1, d1 _ ?_⟩
            rw [← en]
            refine model _ (fun _ => ⟨fun q => absurd q q1', fun _ _ => ⟨hv, ?_⟩, fun _ q => absurd (q2'.symm.trans hb) q⟩) (fun q => absurd hd q)
            rw [hc]
            refine ⟨fun _ => ?_, fun q => absurd q q1'⟩
            rw [en]
            exact ⟨n + 1, d2 _ ⟨rfl, hR1⟩⟩
          · exact model _ (fun _ => ⟨fun q => absurd q q1', fun _ q => absurd (q2'.trans q) hb, fun _ _ => ⟨rfl, hR⟩⟩) (fun q => absurd hd q)
      · rw [Int32.le_iff_toInt_le] at h2
        exact model _ (fun q => by omega) (fun _ => ⟨rfl, hR⟩)
    · rw [y3] at h
      unfold wX6_exarchate
      refine i_isSheet (fun _ _ => ⟨fun c => absurd c ne10, fun _ => ?_⟩) (fun h => absurd ⟨p1, p2⟩ h)
      exact i_in (fun g1 g2 => by rw [i64] at g1 g2; omega) (fun _ => ⟨fun _ => ⟨rfl, hR⟩, fun c => absurd rfl c⟩)
  · rw [y4] at h
    unfold wX6_exarchate
    exact i_isSheet (fun g1 g2 => absurd ⟨g1, g2⟩ h) (fun _ => ⟨fun _ => ⟨rfl, hR⟩, fun c => absurd rfl c⟩)
