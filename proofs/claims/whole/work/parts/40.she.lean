/-! sheets -/
theorem i_shBecome {X : St} {o : Nat} {p1 p2 : Int32} {Q : St → Prop} (h : ∀ Y : St, (∀ p, ¬ p = o → Y p = X p) → gI Y o 2 = p1 → gI Y o 1 = p2 → (∀ i, i < 40 → gA Y o 0 i = 0) → Q Y) : wX2_become o p1 p2 X Q := by
  have main : ∀ (m k : Nat) (Y : St), k + m = 40 → (∀ p, ¬ p = o → Y p = X p) → gI Y o 2 = p1 → gI Y o 1 = p2 → (∀ i, i < k → gA Y o 0 i = 0) → wX2_become_l12 (m + 1) o (nI k) Y Q := by
    intro m
    induction m with
    | zero =>
      intro k Y hk f1 f2 f3 f4
      have e : k = 40 := by omega
      subst e
      apply wX2_become_l12_1
      exact ⟨fun _ => h Y f1 f2 f3 f4, fun c => absurd (Int32.le_refl _) c⟩
    | succ m ih =>
      intro k Y hk f1 f2 f3 f4
      apply wX2_become_l12_1
      have hc : (nI k).toNatClampNeg = k := nI_clamp (by omega)
      refine ⟨fun c => absurd c (nle (N := 40) (k := k) (by omega) (by decide)), fun _ => ⟨vp_in_nI (by omega) (by decide), fun Y1 e1 x hx => ?_⟩⟩
      rw [hx, nI_1]
      rw [hc] at e1
      subst e1
      refine ih (k + 1) _ (by omega) (fun p hp => by rw [o_sA hp]; exact f1 p hp) (by rw [gI_sA]; exact f2) (by rw [gI_sA]; exact f3) (fun i hi => ?_)
      rw [gA_sA]
      by_cases e : i = k
      · simp [e]
      · simp [e]; exact f4 i (by omega)
  unfold wX2_become
  intro Y1 e1 Y2 e2
  subst e1 e2
  refine ⟨41, main 40 0 _ rfl (fun p hp => by rw [o_sI hp, o_sI hp]) ?_ ?_ (fun i hi => absurd hi (Nat.not_lt_zero i))⟩
  · simp [gI_sI]
  · simp [gI_sI]
theorem i_isSheet {S : St} {p : Int32} {Q : Int32 → St → Prop} (h1 : 0 ≤ p.toInt → p.toInt < 4 → Q 1 S) (h0 : ¬ (0 ≤ p.toInt ∧ p.toInt < 4) → Q 0 S) : wX6_isSheet p S Q := by
  have z0 : (0 : Int64).toInt = 0 := rfl
  have z3 : (3 : Int64).toInt = 3 := rfl
  unfold wX6_isSheet
  refine i_in (fun g1 g2 => ⟨Or.inr rfl, h1 ?_ ?_⟩) (fun g => ⟨Or.inl rfl, h0 (fun q => g ?_)⟩)
  · rw [i64] at g1; omega
  · rw [i64] at g2; omega
  · rw [i64]; omega
theorem i_shLoop {S : St} {s n : Nat} {a1 a2 : Int32} {Q : Int32 → St → Prop} (hs : s < 4) (hn : n ≤ 40) (ea : a1 = nI s) (h2 : ¬ a2 < 0) (h : ∀ T : St, (∀ f, gI T 16 f = gI S 16 f) → (∀ f, gJ T 16 f = gJ S 16 f) → (∀ f, ¬ f = 42 → gA T 16 f = gA S 16 f) → (∀ i, i < n → gA T 16 42 (40 * s + i) = 0) → (∀ j, ¬ (40 * s ≤ j ∧ j < 40 * s + n) → gA T 16 42 j = gA S 16 42 j) → Q 1 T) : ∃ m : Nat, wX6_sheet_l77 m a1 a2 (nI n) 0 S Q := by
  have main : ∀ (m k : Nat) (T : St), k + m = n → (∀ f, gI T 16 f = gI S 16 f) → (∀ f, gJ T 16 f = gJ S 16 f) → (∀ f, ¬ f = 42 → gA T 16 f = gA S 16 f) → (∀ i, i < k → gA T 16 42 (40 * s + i) = 0) → (∀ j, ¬ (40 * s ≤ j ∧ j < 40 * s + k) → gA T 16 42 j = gA S 16 42 j) → wX6_sheet_l77 (m + 1) a1 a2 (nI n) (nI k) T Q := by
    intro m
    induction m with
    | zero =>
      intro k T hk f1 f2 f3 f4 f5
      have e : k = n := by omega
      subst e
      apply wX6_sheet_l77_1
      exact ⟨fun _ => h T f1 f2 f3 f4 f5, fun c => absurd (Int32.le_refl _) c⟩
    | succ m ih =>
      intro k T hk f1 f2 f3 f4 f5
      apply wX6_sheet_l77_1
      have e0 : ((40 * a1) + nI k : Int32) = nI (40 * s + k) := by
        rw [ea, show (40 : Int32) * nI s = nI (40 * s) from (Int32.ofNat_mul 40 s).symm, nI_add]
      refine ⟨fun c => absurd c (nle (N := n) (k := k) (by omega) (by omega)), fun _ => ⟨fun q => absurd q h2, fun _ => ⟨by rw [e0]; exact vp_in_nI (by omega) (by decide), fun T1 e1 x hx => ?_⟩⟩⟩
      rw [hx, nI_1]
      rw [e0, nI_clamp (by omega)] at e1
      subst e1
      refine ih (k + 1) _ (by omega) (fun f => by rw [gI_sA]; exact f1 f) (fun f => by rw [gJ_sA]; exact f2 f) (fun f hf => by rw [gA_sAf _ _ _ _ _ (fun q => hf q.2)]; exact f3 f hf) (fun i hi => ?_) (fun j hj => ?_)
      · rw [gA_sA]
        by_cases e : i = k
        · simp [e]
        · simp [e]; exact f4 i (by omega)
      · rw [gA_sA, if_neg (by omega)]
        exact f5 j (by omega)
  exact ⟨n + 1, main n 0 S (by omega) (fun _ => rfl) (fun _ => rfl) (fun _ _ => rfl) (fun i hi => absurd hi (Nat.not_lt_zero i)) (fun _ _ => rfl)⟩
theorem sim23 {TR : OT → Int32 → (Nat → Int32) → Prop} : Sim23 (Rel TR) := by
  intro X S a b c hR
  obtain ⟨hW, hI, hT, hP, hSh, hid⟩ := id hR
  have zm : (-1 : Int64).toInt = -1 := rfl
  have z2 : (2 : Int64).toInt = 2 := rfl
  have y4 : (4 : Int32).toInt = 4 := rfl
  have y0 : (0 : Int32).toInt = 0 := rfl
  have y3 : (3 : Int32).toInt = 3 := rfl
  have y40 : (40 : Int32).toInt = 40 := rfl
  have ym : (-1 : Int32).toInt = -1 := rfl
  unfold wX5_sheet
  refine i_isIn (fun p1 p2 => ⟨fun c => absurd c ne10, fun _ => ?_⟩) (fun h => ⟨fun _ => ?_, fun c => absurd rfl c⟩)
  · rw [y4] at p2
    obtain ⟨s, hs, es⟩ : ∃ s, s < 4 ∧ a = nI s := by
      refine ⟨a.toInt.toNat, by omega, Int32.toInt_inj.mp ?_⟩
      rw [nI_toInt (by omega)]; omega
    have hv : vp_in a 4 := by rw [es]; exact vp_in_nI hs (by decide)
    have hc : a.toNatClampNeg = s := by rw [es]; exact nI_clamp (by omega)
    have bad : (¬ ((-1 : Int) ≤ b.toInt ∧ b.toInt ≤ 2)) → ∀ (Q : Int32 → St → Prop), Q (-2) S → wX6_sheet a b c S Q := by
      intro h Q g
      unfold wX6_sheet
      refine i_isSheet (fun _ _ => ⟨fun c => absurd c ne10, fun _ => ?_⟩) (fun h => absurd ⟨p1, p2⟩ h)
      exact i_in (fun g1 g2 => by rw [i64] at g1 g2; omega) (fun _ => ⟨fun _ => g, fun c => absurd rfl c⟩)
    have good : ((-1 : Int) ≤ b.toInt ∧ b.toInt ≤ 2) → ∀ (Q : Int32 → St → Prop), (b < 0 → wX6_sheet_j34 a b c S Q) → (¬ b < 0 → c ≤ 40 → wX6_sheet_j34 a b c S Q) → (¬ b < 0 → ¬ c ≤ 40 → Q (-2) S) → wX6_sheet a b c S Q := by
      intro h Q g1 g2 g3
      unfold wX6_sheet
      refine i_isSheet (fun _ _ => ⟨fun c => absurd c ne10, fun _ => ?_⟩) (fun h => absurd ⟨p1, p2⟩ h)
      exact i_in (fun _ _ => ⟨fun c => absurd c ne10, fun _ => ⟨g1, fun q => ⟨g2 q, g3 q⟩⟩⟩) (fun q => absurd ⟨by rw [i64]; omega, by rw [i64]; omega⟩ q)
    refine ⟨fun h1 => ?_, fun h1 => ⟨fun h2 => ⟨fun h3 => ⟨fun h4 => ⟨fun h5 => ?_, fun h5 => ?_⟩, fun h4 => ?_⟩, fun h3 => ?_⟩, fun h2 => ?_⟩⟩
    · rw [Int32.lt_iff_toInt_lt] at h1
      exact bad (by omega) _ ⟨rfl, hR⟩
    · -- a row of a sort
      rw [Int32.lt_iff_toInt_lt] at h1 h2
      have h3' : ¬ b.toInt = -1 := fun q => h3 (Int32.toInt_inj.mp (q.trans ym.symm))
      have hb0 : ¬ b < 0 := by rw [Int32.lt_iff_toInt_lt]; omega
      have h5' := Int32.le_iff_toInt_le.mp h5
      have h4' := Int32.le_iff_toInt_le.mp h4
      obtain ⟨n, hn, en⟩ := rg_of (x := c) (n := 40) (by omega) (by omega) (by decide)
      refine ⟨hv, fun o10 e10 => i_shBecome (fun Y f1 f2 f3 f4 => ?_)⟩
      rw [hc] at e10
      subst e10
      refine good (by omega) _ (fun q => absurd q hb0) (fun _ _ => ⟨fun q => absurd q hb0, fun _ => ⟨fun _ => ⟨fun q => absurd q hb0, fun _ => ?_⟩, fun q => absurd h5 q⟩⟩) (fun _ q => absurd h4 q)
      refine ⟨hv, Or.inr rfl, fun S1 t1 => ⟨hv, fun S2 t2 => ⟨hv, fun S3 t3 => ?_⟩⟩⟩
      rw [hc] at t1 t2 t3
      rw [en]
      refine i_shLoop hs hn es hb0 (fun T g1 g2 g3 g4 g5 => ?_)
      subst t1 t2 t3
      have k39 : gA T 16 39 = gA (sA S 16 39 s 1) 16 39 := by rw [g3 39 (by decide)]; simp [gI_sI, gI_sJ, gI_sA, gI_sB, gI_sAr, gJ_sI, gJ_sJ, gJ_sA, gJ_sB, gJ_sAr, gA_sI, gA_sJ, gA_sAf, gA_sArf, gA_sArs, gA_sB, gB_sI, gB_sJ, gB_sA, o_sI, o_sJ, o_sA, o_sB, o_sAr]
      have k40 : gA T 16 40 = gA (sA S 16 40 s b) 16 40 := by rw [g3 40 (by decide), gA_sAf _ _ _ _ _ (by decide)]; unfold sA; rw [gA_sArs, gA_sArs]; simp [gI_sI, gI_sJ, gI_sA, gI_sB, gI_sAr, gJ_sI, gJ_sJ, gJ_sA, gJ_sB, gJ_sAr, gA_sI, gA_sJ, gA_sAf, gA_sArf, gA_sArs, gA_sB, gB_sI, gB_sJ, gB_sA, o_sI, o_sJ, o_sA, o_sB, o_sAr]
      have k41 : gA T 16 41 = gA (sA S 16 41 s c) 16 41 := by rw [g3 41 (by decide)]; unfold sA; rw [gA_sArs, gA_sArs]; simp [gI_sI, gI_sJ, gI_sA, gI_sB, gI_sAr, gJ_sI, gJ_sJ, gJ_sA, gJ_sB, gJ_sAr, gA_sI, gA_sJ, gA_sAf, gA_sArf, gA_sArs, gA_sB, gB_sI, gB_sJ, gB_sA, o_sI, o_sJ, o_sA, o_sB, o_sAr]
      refine ⟨rfl, ?_, ?_, ?_, ?_, ?_, ?_⟩
      · exact RW_cong (X := X) (S := S) (f1 1 (by omega)) (by rw [g2]; simp [gI_sI, gI_sJ, gI_sA, gI_sB, gI_sAr, gJ_sI, gJ_sJ, gJ_sA, gJ_sB, gJ_sAr, gA_sI, gA_sJ, gA_sAf, gA_sArf, gA_sArs, gA_sB, gB_sI, gB_sJ, gB_sA, o_sI, o_sJ, o_sA, o_sB, o_sAr]) (by rw [g1]; simp [gI_sI, gI_sJ, gI_sA, gI_sB, gI_sAr, gJ_sI, gJ_sJ, gJ_sA, gJ_sB, gJ_sAr, gA_sI, gA_sJ, gA_sAf, gA_sArf, gA_sArs, gA_sB, gB_sI, gB_sJ, gB_sA, o_sI, o_sJ, o_sA, o_sB, o_sAr]) (by rw [g1]; simp [gI_sI, gI_sJ, gI_sA, gI_sB, gI_sAr, gJ_sI, gJ_sJ, gJ_sA, gJ_sB, gJ_sAr, gA_sI, gA_sJ, gA_sAf, gA_sArf, gA_sArs, gA_sB, gB_sI, gB_sJ, gB_sA, o_sI, o_sJ, o_sA, o_sB, o_sAr]) (by rw [g1]; simp [gI_sI, gI_sJ, gI_sA, gI_sB, gI_sAr, gJ_sI, gJ_sJ, gJ_sA, gJ_sB, gJ_sAr, gA_sI, gA_sJ, gA_sAf, gA_sArf, gA_sArs, gA_sB, gB_sI, gB_sJ, gB_sA, o_sI, o_sJ, o_sA, o_sB, o_sAr]) (by rw [g3 _ (by decide)]; simp [gI_sI, gI_sJ, gI_sA, gI_sB, gI_sAr, gJ_sI, gJ_sJ, gJ_sA, gJ_sB, gJ_sAr, gA_sI, gA_sJ, gA_sAf, gA_sArf, gA_sArs, gA_sB, gB_sI, gB_sJ, gB_sA, o_sI, o_sJ, o_sA, o_sB, o_sAr]) (by rw [g3 _ (by decide)]; simp [gI_sI, gI_sJ, gI_sA, gI_sB, gI_sAr, gJ_sI, gJ_sJ, gJ_sA, gJ_sB, gJ_sAr, gA_sI, gA_sJ, gA_sAf, gA_sArf, gA_sArs, gA_sB, gB_sI, gB_sJ, gB_sA, o_sI, o_sJ, o_sA, o_sB, o_sAr]) (by rw [g3 _ (by decide)]; simp [gI_sI, gI_sJ, gI_sA, gI_sB, gI_sAr, gJ_sI, gJ_sJ, gJ_sA, gJ_sB, gJ_sAr, gA_sI, gA_sJ, gA_sAf, gA_sArf, gA_sArs, gA_sB, gB_sI, gB_sJ, gB_sA, o_sI, o_sJ, o_sA, o_sB, o_sAr]) hW
      · exact RI_cong (X := X) (S := S) (gI_same (f1 0 (by omega))) (f1 3 (by omega)) (by rw [g2]; simp [gI_sI, gI_sJ, gI_sA, gI_sB, gI_sAr, gJ_sI, gJ_sJ, gJ_sA, gJ_sB, gJ_sAr, gA_sI, gA_sJ, gA_sAf, gA_sArf, gA_sArs, gA_sB, gB_sI, gB_sJ, gB_sA, o_sI, o_sJ, o_sA, o_sB, o_sAr]) (by rw [g1]; simp [gI_sI, gI_sJ, gI_sA, gI_sB, gI_sAr, gJ_sI, gJ_sJ, gJ_sA, gJ_sB, gJ_sAr, gA_sI, gA_sJ, gA_sAf, gA_sArf, gA_sArs, gA_sB, gB_sI, gB_sJ, gB_sA, o_sI, o_sJ, o_sA, o_sB, o_sAr]) (by rw [g1]; simp [gI_sI, gI_sJ, gI_sA, gI_sB, gI_sAr, gJ_sI, gJ_sJ, gJ_sA, gJ_sB, gJ_sAr, gA_sI, gA_sJ, gA_sAf, gA_sArf, gA_sArs, gA_sB, gB_sI, gB_sJ, gB_sA, o_sI, o_sJ, o_sA, o_sB, o_sAr]) (by rw [g1]; simp [gI_sI, gI_sJ, gI_sA, gI_sB, gI_sAr, gJ_sI, gJ_sJ, gJ_sA, gJ_sB, gJ_sAr, gA_sI, gA_sJ, gA_sAf, gA_sArf, gA_sArs, gA_sB, gB_sI, gB_sJ, gB_sA, o_sI, o_sJ, o_sA, o_sB, o_sAr]) (by rw [g3 _ (by decide)]; simp [gI_sI, gI_sJ, gI_sA, gI_sB, gI_sAr, gJ_sI, gJ_sJ, gJ_sA, gJ_sB, gJ_sAr, gA_sI, gA_sJ, gA_sAf, gA_sArf, gA_sArs, gA_sB, gB_sI, gB_sJ, gB_sA, o_sI, o_sJ, o_sA, o_sB, o_sAr]) (by rw [g3 _ (by decide)]; simp [gI_sI, gI_sJ, gI_sA, gI_sB, gI_sAr, gJ_sI, gJ_sJ, gJ_sA, gJ_sB, gJ_sAr, gA_sI, gA_sJ, gA_sAf, gA_sArf, gA_sArs, gA_sB, gB_sI, gB_sJ, gB_sA, o_sI, o_sJ, o_sA, o_sB, o_sAr]) (by rw [g3 _ (by decide)]; simp [gI_sI, gI_sJ, gI_sA, gI_sB, gI_sAr, gJ_sI, gJ_sJ, gJ_sA, gJ_sB, gJ_sAr, gA_sI, gA_sJ, gA_sAf, gA_sArf, gA_sArs, gA_sB, gB_sI, gB_sJ, gB_sA, o_sI, o_sJ, o_sA, o_sB, o_sAr]) hI
      · exact RT_cong (X := X) (S := S) (gI_same (f1 4 (by omega))) (fun t ht => f1 (6 + t) (by omega)) (by rw [g1]; simp [gI_sI, gI_sJ, gI_sA, gI_sB, gI_sAr, gJ_sI, gJ_sJ, gJ_sA, gJ_sB, gJ_sAr, gA_sI, gA_sJ, gA_sAf, gA_sArf, gA_sArs, gA_sB, gB_sI, gB_sJ, gB_sA, o_sI, o_sJ, o_sA, o_sB, o_sAr]) (by rw [g1]; simp [gI_sI, gI_sJ, gI_sA, gI_sB, gI_sAr, gJ_sI, gJ_sJ, gJ_sA, gJ_sB, gJ_sAr, gA_sI, gA_sJ, gA_sAf, gA_sArf, gA_sArs, gA_sB, gB_sI, gB_sJ, gB_sA, o_sI, o_sJ, o_sA, o_sB, o_sAr]) (by rw [g1]; simp [gI_sI, gI_sJ, gI_sA, gI_sB, gI_sAr, gJ_sI, gJ_sJ, gJ_sA, gJ_sB, gJ_sAr, gA_sI, gA_sJ, gA_sAf, gA_sArf, gA_sArs, gA_sB, gB_sI, gB_sJ, gB_sA, o_sI, o_sJ, o_sA, o_sB, o_sAr]) (by rw [g1]; simp [gI_sI, gI_sJ, gI_sA, gI_sB, gI_sAr, gJ_sI, gJ_sJ, gJ_sA, gJ_sB, gJ_sAr, gA_sI, gA_sJ, gA_sAf, gA_sArf, gA_sArs, gA_sB, gB_sI, gB_sJ, gB_sA, o_sI, o_sJ, o_sA, o_sB, o_sAr]) (by rw [g3 _ (by decide)]; simp [gI_sI, gI_sJ, gI_sA, gI_sB, gI_sAr, gJ_sI, gJ_sJ, gJ_sA, gJ_sB, gJ_sAr, gA_sI, gA_sJ, gA_sAf, gA_sArf, gA_sArs, gA_sB, gB_sI, gB_sJ, gB_sA, o_sI, o_sJ, o_sA, o_sB, o_sAr]) (by rw [g3 _ (by decide)]; simp [gI_sI, gI_sJ, gI_sA, gI_sB, gI_sAr, gJ_sI, gJ_sJ, gJ_sA, gJ_sB, gJ_sAr, gA_sI, gA_sJ, gA_sAf, gA_sArf, gA_sArs, gA_sB, gB_sI, gB_sJ, gB_sA, o_sI, o_sJ, o_sA, o_sB, o_sAr]) hT
      · exact RP_cong (X := X) (S := S) (f1 5 (by omega)) (by rw [g1]; simp [gI_sI, gI_sJ, gI_sA, gI_sB, gI_sAr, gJ_sI, gJ_sJ, gJ_sA, gJ_sB, gJ_sAr, gA_sI, gA_sJ, gA_sAf, gA_sArf, gA_sArs, gA_sB, gB_sI, gB_sJ, gB_sA, o_sI, o_sJ, o_sA, o_sB, o_sAr]) (by rw [g3 _ (by decide)]; simp [gI_sI, gI_sJ, gI_sA, gI_sB, gI_sAr, gJ_sI, gJ_sJ, gJ_sA, gJ_sB, gJ_sAr, gA_sI, gA_sJ, gA_sAf, gA_sArf, gA_sArs, gA_sB, gB_sI, gB_sJ, gB_sA, o_sI, o_sJ, o_sA, o_sB, o_sAr]) hP
      · intro r hr
        by_cases e : r = s
        · subst e
          refine Or.inr ⟨by rw [k39, gA_sA]; simp, by rw [k40, gA_sA, f2]; simp, by rw [k40, gA_sA]; simp; exact rg_of (by omega) (by omega) (by decide), n, hn, by rw [f3, en], by rw [k41, gA_sA]; simp [en], fun i hi => ?_⟩
          rw [f4 i (by omega), g4 i hi]
        · have h9 := hSh r hr
          have e1 : gA T 16 39 r = gA S 16 39 r := by rw [k39, gA_sA, if_neg (by omega)]
          have e2 : gA T 16 40 r = gA S 16 40 r := by rw [k40, gA_sA, if_neg (by omega)]
          have e3 : gA T 16 41 r = gA S 16 41 r := by rw [k41, gA_sA, if_neg (by omega)]
          have e4 : Y (12 + r) = X (12 + r) := f1 (12 + r) (by omega)
          rw [gI_same e4, gI_same e4, gA_same e4, e1, e2, e3]
          rcases h9 with h9 | ⟨q1, q2, q3, m, hm, q4, q5, q6⟩
          · exact Or.inl h9
          · refine Or.inr ⟨q1, q2, q3, m, hm, q4, q5, fun i hi => ?_⟩
            rw [q6 i hi, g5 _ (by omega)]
            simp [gI_sI, gI_sJ, gI_sA, gI_sB, gI_sAr, gJ_sI, gJ_sJ, gJ_sA, gJ_sB, gJ_sAr, gA_sI, gA_sJ, gA_sAf, gA_sArf, gA_sArs, gA_sB, gB_sI, gB_sJ, gB_sA, o_sI, o_sJ, o_sA, o_sB, o_sAr]
      · rw [g1]; simp [gI_sI, gI_sJ, gI_sA, gI_sB, gI_sAr, gJ_sI, gJ_sJ, gJ_sA, gJ_sB, gJ_sAr, gA_sI, gA_sJ, gA_sAf, gA_sArf, gA_sArs, gA_sB, gB_sI, gB_sJ, gB_sA, o_sI, o_sJ, o_sA, o_sB, o_sAr]; exact hid
    · rw [Int32.lt_iff_toInt_lt] at h1 h2
      have h3' : ¬ b.toInt = -1 := fun q => h3 (Int32.toInt_inj.mp (q.trans ym.symm))
      have hb0 : ¬ b < 0 := by rw [Int32.lt_iff_toInt_lt]; omega
      exact good (by omega) _ (fun q => absurd q hb0) (fun _ _ => ⟨fun q => absurd q hb0, fun _ => ⟨fun q => absurd q h5, fun _ => ⟨rfl, hR⟩⟩⟩) (fun _ q => absurd h4 q)
    · rw [Int32.lt_iff_toInt_lt] at h1 h2
      have h3' : ¬ b.toInt = -1 := fun q => h3 (Int32.toInt_inj.mp (q.trans ym.symm))
      have hb0 : ¬ b < 0 := by rw [Int32.lt_iff_toInt_lt]; omega
      exact good (by omega) _ (fun q => absurd q hb0) (fun _ q => absurd q h4) (fun _ _ => ⟨rfl, hR⟩)
    · -- missing
      subst h3
      have hb0 : (-1 : Int32) < 0 := by decide
      refine ⟨hv, fun o10 e10 => i_shBecome (fun Y f1 f2 f3 f4 => ?_)⟩
      rw [hc] at e10
      subst e10
      refine good (by decide) _ (fun _ => ⟨fun _ => ⟨fun _ => ?_, fun q => absurd hb0 q⟩, fun q => absurd hb0 q⟩) (fun q => absurd hb0 q) (fun q => absurd hb0 q)
      refine ⟨hv, Or.inl rfl, fun S1 t1 => ⟨hv, fun S2 t2 => ⟨hv, fun S3 t3 => ⟨1, ?_⟩⟩⟩⟩
      rw [hc] at t1 t2 t3
      have fin : (1 : Int32) = 1 ∧ Rel TR Y S3 := by
        subst t1 t2 t3
        refine ⟨rfl, ?_, ?_, ?_, ?_, ?_, ?_⟩
        · exact RW_cong (X := X) (S := S) (f1 1 (by omega)) (by simp [gI_sI, gI_sJ, gI_sA, gI_sB, gI_sAr, gJ_sI, gJ_sJ, gJ_sA, gJ_sB, gJ_sAr, gA_sI, gA_sJ, gA_sAf, gA_sArf, gA_sArs, gA_sB, gB_sI, gB_sJ, gB_sA, o_sI, o_sJ, o_sA, o_sB, o_sAr]) (by simp [gI_sI, gI_sJ, gI_sA, gI_sB, gI_sAr, gJ_sI, gJ_sJ, gJ_sA, gJ_sB, gJ_sAr, gA_sI, gA_sJ, gA_sAf, gA_sArf, gA_sArs, gA_sB, gB_sI, gB_sJ, gB_sA, o_sI, o_sJ, o_sA, o_sB, o_sAr]) (by simp [gI_sI, gI_sJ, gI_sA, gI_sB, gI_sAr, gJ_sI, gJ_sJ, gJ_sA, gJ_sB, gJ_sAr, gA_sI, gA_sJ, gA_sAf, gA_sArf, gA_sArs, gA_sB, gB_sI, gB_sJ, gB_sA, o_sI, o_sJ, o_sA, o_sB, o_sAr]) (by simp [gI_sI, gI_sJ, gI_sA, gI_sB, gI_sAr, gJ_sI, gJ_sJ, gJ_sA, gJ_sB, gJ_sAr, gA_sI, gA_sJ, gA_sAf, gA_sArf, gA_sArs, gA_sB, gB_sI, gB_sJ, gB_sA, o_sI, o_sJ, o_sA, o_sB, o_sAr]) (by simp [gI_sI, gI_sJ, gI_sA, gI_sB, gI_sAr, gJ_sI, gJ_sJ, gJ_sA, gJ_sB, gJ_sAr, gA_sI, gA_sJ, gA_sAf, gA_sArf, gA_sArs, gA_sB, gB_sI, gB_sJ, gB_sA, o_sI, o_sJ, o_sA, o_sB, o_sAr]) (by simp [gI_sI, gI_sJ, gI_sA, gI_sB, gI_sAr, gJ_sI, gJ_sJ, gJ_sA, gJ_sB, gJ_sAr, gA_sI, gA_sJ, gA_sAf, gA_sArf, gA_sArs, gA_sB, gB_sI, gB_sJ, gB_sA, o_sI, o_sJ, o_sA, o_sB, o_sAr]) (by simp [gI_sI, gI_sJ, gI_sA, gI_sB, gI_sAr, gJ_sI, gJ_sJ, gJ_sA, gJ_sB, gJ_sAr, gA_sI, gA_sJ, gA_sAf, gA_sArf, gA_sArs, gA_sB, gB_sI, gB_sJ, gB_sA, o_sI, o_sJ, o_sA, o_sB, o_sAr]) hW
        · exact RI_cong (X := X) (S := S) (gI_same (f1 0 (by omega))) (f1 3 (by omega)) (by simp [gI_sI, gI_sJ, gI_sA, gI_sB, gI_sAr, gJ_sI, gJ_sJ, gJ_sA, gJ_sB, gJ_sAr, gA_sI, gA_sJ, gA_sAf, gA_sArf, gA_sArs, gA_sB, gB_sI, gB_sJ, gB_sA, o_sI, o_sJ, o_sA, o_sB, o_sAr]) (by simp [gI_sI, gI_sJ, gI_sA, gI_sB, gI_sAr, gJ_sI, gJ_sJ, gJ_sA, gJ_sB, gJ_sAr, gA_sI, gA_sJ, gA_sAf, gA_sArf, gA_sArs, gA_sB, gB_sI, gB_sJ, gB_sA, o_sI, o_sJ, o_sA, o_sB, o_sAr]) (by simp [gI_sI, gI_sJ, gI_sA, gI_sB, gI_sAr, gJ_sI, gJ_sJ, gJ_sA, gJ_sB, gJ_sAr, gA_sI, gA_sJ, gA_sAf, gA_sArf, gA_sArs, gA_sB, gB_sI, gB_sJ, gB_sA, o_sI, o_sJ, o_sA, o_sB, o_sAr]) (by simp [gI_sI, gI_sJ, gI_sA, gI_sB, gI_sAr, gJ_sI, gJ_sJ, gJ_sA, gJ_sB, gJ_sAr, gA_sI, gA_sJ, gA_sAf, gA_sArf, gA_sArs, gA_sB, gB_sI, gB_sJ, gB_sA, o_sI, o_sJ, o_sA, o_sB, o_sAr]) (by simp [gI_sI, gI_sJ, gI_sA, gI_sB, gI_sAr, gJ_sI, gJ_sJ, gJ_sA, gJ_sB, gJ_sAr, gA_sI, gA_sJ, gA_sAf, gA_sArf, gA_sArs, gA_sB, gB_sI, gB_sJ, gB_sA, o_sI, o_sJ, o_sA, o_sB, o_sAr]) (by simp [gI_sI, gI_sJ, gI_sA, gI_sB, gI_sAr, gJ_sI, gJ_sJ, gJ_sA, gJ_sB, gJ_sAr, gA_sI, gA_sJ, gA_sAf, gA_sArf, gA_sArs, gA_sB, gB_sI, gB_sJ, gB_sA, o_sI, o_sJ, o_sA, o_sB, o_sAr]) (by simp [gI_sI, gI_sJ, gI_sA, gI_sB, gI_sAr, gJ_sI, gJ_sJ, gJ_sA, gJ_sB, gJ_sAr, gA_sI, gA_sJ, gA_sAf, gA_sArf, gA_sArs, gA_sB, gB_sI, gB_sJ, gB_sA, o_sI, o_sJ, o_sA, o_sB, o_sAr]) hI
        · exact RT_cong (X := X) (S := S) (gI_same (f1 4 (by omega))) (fun t ht => f1 (6 + t) (by omega)) (by simp [gI_sI, gI_sJ, gI_sA, gI_sB, gI_sAr, gJ_sI, gJ_sJ, gJ_sA, gJ_sB, gJ_sAr, gA_sI, gA_sJ, gA_sAf, gA_sArf, gA_sArs, gA_sB, gB_sI, gB_sJ, gB_sA, o_sI, o_sJ, o_sA, o_sB, o_sAr]) (by simp [gI_sI, gI_sJ, gI_sA, gI_sB, gI_sAr, gJ_sI, gJ_sJ, gJ_sA, gJ_sB, gJ_sAr, gA_sI, gA_sJ, gA_sAf, gA_sArf, gA_sArs, gA_sB, gB_sI, gB_sJ, gB_sA, o_sI, o_sJ, o_sA, o_sB, o_sAr]) (by simp [gI_sI, gI_sJ, gI_sA, gI_sB, gI_sAr, gJ_sI, gJ_sJ, gJ_sA, gJ_sB, gJ_sAr, gA_sI, gA_sJ, gA_sAf, gA_sArf, gA_sArs, gA_sB, gB_sI, gB_sJ, gB_sA, o_sI, o_sJ, o_sA, o_sB, o_sAr]) (by simp [gI_sI, gI_sJ, gI_sA, gI_sB, gI_sAr, gJ_sI, gJ_sJ, gJ_sA, gJ_sB, gJ_sAr, gA_sI, gA_sJ, gA_sAf, gA_sArf, gA_sArs, gA_sB, gB_sI, gB_sJ, gB_sA, o_sI, o_sJ, o_sA, o_sB, o_sAr]) (by simp [gI_sI, gI_sJ, gI_sA, gI_sB, gI_sAr, gJ_sI, gJ_sJ, gJ_sA, gJ_sB, gJ_sAr, gA_sI, gA_sJ, gA_sAf, gA_sArf, gA_sArs, gA_sB, gB_sI, gB_sJ, gB_sA, o_sI, o_sJ, o_sA, o_sB, o_sAr]) (by simp [gI_sI, gI_sJ, gI_sA, gI_sB, gI_sAr, gJ_sI, gJ_sJ, gJ_sA, gJ_sB, gJ_sAr, gA_sI, gA_sJ, gA_sAf, gA_sArf, gA_sArs, gA_sB, gB_sI, gB_sJ, gB_sA, o_sI, o_sJ, o_sA, o_sB, o_sAr]) hT
        · exact RP_cong (X := X) (S := S) (f1 5 (by omega)) (by simp [gI_sI, gI_sJ, gI_sA, gI_sB, gI_sAr, gJ_sI, gJ_sJ, gJ_sA, gJ_sB, gJ_sAr, gA_sI, gA_sJ, gA_sAf, gA_sArf, gA_sArs, gA_sB, gB_sI, gB_sJ, gB_sA, o_sI, o_sJ, o_sA, o_sB, o_sAr]) (by simp [gI_sI, gI_sJ, gI_sA, gI_sB, gI_sAr, gJ_sI, gJ_sJ, gJ_sA, gJ_sB, gJ_sAr, gA_sI, gA_sJ, gA_sAf, gA_sArf, gA_sArs, gA_sB, gB_sI, gB_sJ, gB_sA, o_sI, o_sJ, o_sA, o_sB, o_sAr]) hP
        · intro r hr
          by_cases e : r = s
          · subst e
            refine Or.inl ⟨f2, ?_⟩
            rw [gA_sAf _ _ _ _ _ (by decide), gA_sAf _ _ _ _ _ (by decide), gA_sA]; simp
          · have h9 := hSh r hr
            have e4 : Y (12 + r) = X (12 + r) := f1 (12 + r) (by omega)
            rw [gI_same e4, gI_same e4, gA_same e4]
            have e1 : gA (sA (sA (sA S 16 39 s 0) 16 40 s (-1)) 16 41 s c) 16 39 r = gA S 16 39 r := by
              rw [gA_sAf _ _ _ _ _ (by decide), gA_sAf _ _ _ _ _ (by decide), gA_sA, if_neg (by omega)]
            have e2 : gA (sA (sA (sA S 16 39 s 0) 16 40 s (-1)) 16 41 s c) 16 40 r = gA S 16 40 r := by
              rw [gA_sAf _ _ _ _ _ (by decide), gA_sA, if_neg (by omega), gA_sAf _ _ _ _ _ (by decide)]
            have e3 : gA (sA (sA (sA S 16 39 s 0) 16 40 s (-1)) 16 41 s c) 16 41 r = gA S 16 41 r := by
              rw [gA_sA, if_neg (by omega), gA_sAf _ _ _ _ _ (by decide), gA_sAf _ _ _ _ _ (by decide)]
            have e5 : gA (sA (sA (sA S 16 39 s 0) 16 40 s (-1)) 16 41 s c) 16 42 = gA S 16 42 := by simp [gI_sI, gI_sJ, gI_sA, gI_sB, gI_sAr, gJ_sI, gJ_sJ, gJ_sA, gJ_sB, gJ_sAr, gA_sI, gA_sJ, gA_sAf, gA_sArf, gA_sArs, gA_sB, gB_sI, gB_sJ, gB_sA, o_sI, o_sJ, o_sA, o_sB, o_sAr]
            rw [e1, e2, e3, e5]
            exact h9
        · simp [gI_sI, gI_sJ, gI_sA, gI_sB, gI_sAr, gJ_sI, gJ_sJ, gJ_sA, gJ_sB, gJ_sAr, gA_sI, gA_sJ, gA_sAf, gA_sArf, gA_sArs, gA_sB, gB_sI, gB_sJ, gB_sA, o_sI, o_sJ, o_sA, o_sB, o_sAr]; exact hid
      apply wX6_sheet_l77_1
      exact ⟨fun _ => fin, fun _ => ⟨fun _ => fin, fun q => absurd hb0 q⟩⟩
    · rw [Int32.lt_iff_toInt_lt] at h1 h2
      exact bad (by omega) _ ⟨rfl, hR⟩
  · rw [y4] at h
    unfold wX6_sheet
    exact i_isSheet (fun g1 g2 => absurd ⟨g1, g2⟩ h) (fun _ => ⟨fun _ => ⟨rfl, hR⟩, fun c => absurd rfl c⟩)
