/-! the reference: one looks, a day, days -/
theorem gA_sAs (σ : St) (o f i : Nat) (v : Int32) : gA (sA σ o f i v) o f = upd (gA σ o f) i v := by
  unfold sA
  rw [gA_sArs]
theorem m_look {f : Nat → Int32 → Int32 → Int32 → Int32 → Int32 → Int32 → Int32} {S : St} {p : Nat} {Q : St → Prop} (hp : p < 5) (hM : MR f S) (hok : ∀ c, c < 64 → rg (gA S 16 9 c) 3) (h : ∀ S', FrM S S' → gI S' 16 7 = gI S 16 7 → (gJ S' 16 8, gA S' 16 10, gA S' 16 11) = lookF f (gA S 16 9) (gI S 16 7) (gI S 16 13) true p (gJ S 16 8) (gA S 16 10) (gA S 16 11) → Q S') : wX6_looks (nI p) S Q := by
  unfold wX6_looks
  intro x1 e1
  rw [mul5] at e1
  subst e1
  rw [ad2, ad3, nI_clamp (n := 5 * p + 2) (by omega), nI_clamp (n := 5 * p + 3) (by omega)]
  have v2 : vp_in (nI (5 * p + 2)) 25 := vp_in_nI (by omega) (by decide)
  have v3 : vp_in (nI (5 * p + 3)) 25 := vp_in_nI (by omega) (by decide)
  refine ⟨v2, i_within ⟨v2, fun σ6 e6 => ⟨v2, ?_⟩⟩⟩
  have F6 : FrM S σ6 := by rw [e6]; exact FrM_11
  have r6 : gA σ6 16 11 = setR (gA S 16 11) p := by rw [e6, gA_sAs]; rfl
  have b6 : gA σ6 16 10 = gA S 16 10 := by rw [e6, gA_sAf _ _ _ _ _ (by decide)]
  have j6 : gJ σ6 16 8 = gJ S 16 8 := by rw [e6, gJ_sA]
  have d6 : gI σ6 16 7 = gI S 16 7 := by rw [e6, gI_sA]
  have w6 := (FrM_w F6).1
  refine m_need hp (MR_M F6 hM) (fun S8 F8 => ?_)
  have g8 := FrP_w F8
  rw [j6, d6, b6, r6]
  unfold lookF at h
  refine ⟨fun c => ?_, fun c => ?_⟩
  · refine h S8 (FrM_trans F6 (FrP_M F8)) (by rw [g8.2.1, d6]) ?_
    rw [if_pos c, g8.1, g8.2.2.1, g8.2.2.2.1, j6, b6, r6]
  · refine m_give hp (MR_M (FrM_trans F6 (FrP_M F8)) hM) (fun S11 F11 => m_turn hp (MR_M (FrM_trans (FrM_trans F6 (FrP_M F8)) (FrP_M F11)) hM) (fun S13 F13 => ?_))
    have F := FrP_trans (FrP_trans F8 F11) F13
    have g13 := FrP_w F
    have g11 := FrP_w (FrP_trans F8 F11)
    rw [g8.2.2.2.2.1, w6, g8.1, g8.2.1, g8.2.2.1, g8.2.2.2.1, g11.1, g11.2.1, g11.2.2.1, g11.2.2.2.1, j6, d6, b6, r6]
    refine ⟨v3, i_within ⟨v3, fun σ19 e19 => ?_⟩⟩
    rw [g13.2.2.2.1, r6] at e19
    have F19 : FrM S σ19 := by rw [e19]; exact FrM_trans (FrM_trans F6 (FrP_M F)) FrM_11
    have r19 : gA σ19 16 11 = gavR (gI S 16 13) true (setR (gA S 16 11) p) p := by
      rw [e19, gA_sAs, g13.2.2.2.1, r6]
      unfold gavR
      rw [if_neg (by simp)]
    have b19 : gA σ19 16 10 = gA S 16 10 := by rw [e19, gA_sAf _ _ _ _ _ (by decide), g13.2.2.1, b6]
    have j19 : gJ σ19 16 8 = gJ S 16 8 := by rw [e19, gJ_sA, g13.1, j6]
    have d19 : gI σ19 16 7 = gI S 16 7 := by rw [e19, gI_sA, g13.2.1, d6]
    have w19 := FrM_w F19
    rw [w19.2.2.2.2.2]
    rw [if_neg c] at h
    have j94 : ∀ (T : St) (t : Int32), (∀ σ, FrM T σ → gI σ 16 7 = gI T 16 7 → gJ σ 16 8 = gJ T 16 8 → gA σ 16 10 = gA T 16 10 → gA σ 16 11 = trnR (gA T 16 11) p t → Q σ) → wX6_looks_j94 (nI (5 * p)) t T Q := by
      intro T t hh
      unfold wX6_looks_j94
      rw [ad1, ad2, nI_clamp (n := 5 * p + 2) (by omega), nI_clamp (n := 5 * p + 1) (by omega)]
      refine ⟨vp_in_nI (by omega) (by decide), fun σ22 e22 => ⟨v2, fun σ24 e24 => ?_⟩⟩
      apply hh
      · rw [e24, e22]; exact FrM_trans FrM_11 FrM_11
      · rw [e24, e22, gI_sA, gI_sA]
      · rw [e24, e22, gJ_sA, gJ_sA]
      · rw [e24, e22, gA_sAf _ _ _ _ _ (by decide), gA_sAf _ _ _ _ _ (by decide)]
      · rw [e24, e22, gA_sAs, gA_sAs]; rfl
    refine ⟨fun q => j94 _ _ (fun σ F9 d9 j9 b9 r9 => ?_), fun q => m_go (giveF_rg hok) (fun T FT dT rT jT bT => j94 _ _ (fun σ F9 d9 j9 b9 r9 => ?_))⟩
    · refine h σ (FrM_trans F19 F9) (by rw [d9, d19]) ?_
      rw [if_pos q, j9, b9, r9, j19, b19, r19]
    · refine h σ (FrM_trans (FrM_trans F19 FT) F9) (by rw [d9, dT, d19]) ?_
      rw [if_neg q, j9, b9, r9, jT, bT, rT, j19, b19, r19, w19.1]
def aM (S : St) : Int32 × Int64 × (Nat → Int32) × (Nat → Int32) := (gI S 16 7, gJ S 16 8, gA S 16 10, gA S 16 11)
theorem m_day {f : Nat → Int32 → Int32 → Int32 → Int32 → Int32 → Int32 → Int32} {S : St} {n : Nat} {Q : St → Prop} (hn : n ≤ 5) (en : gI S 16 12 = nI n) (hM : MR f S) (hok : ∀ c, c < 64 → rg (gA S 16 9 c) 3) (h : ∀ S', FrM S S' → aM S' = dayF f (gA S 16 9) (gI S 16 13) true n (aM S) → Q S') : wX6_passes S Q := by
  have main : ∀ (m p : Nat) (T : St), p + m = n → FrM S T → gI T 16 7 = gI S 16 7 → dayL f (gA S 16 9) (gI S 16 7) (gI S 16 13) true m p (gJ T 16 8, gA T 16 10, gA T 16 11) = dayL f (gA S 16 9) (gI S 16 7) (gI S 16 13) true n 0 (gJ S 16 8, gA S 16 10, gA S 16 11) → wX6_passes_l2 (m + 1) (nI p) T Q := by
    intro m
    induction m with
    | zero =>
      intro p T hp F d e
      have ep : p = n := by omega
      subst ep
      apply wX6_passes_l2_1
      have w := FrM_w F
      refine ⟨fun _ σ2 e2 => ?_, fun c => absurd (by rw [w.2.2.2.2.1, en]; exact Int32.le_refl _) c⟩
      refine h σ2 (by rw [e2]; exact FrM_trans F FrM_7) ?_
      unfold aM dayF
      rw [← e, e2, gI_sIs, gJ_sI, gA_sI, gA_sI, d]
      rfl
    | succ m ih =>
      intro p T hp F d e
      apply wX6_passes_l2_1
      have w := FrM_w F
      refine ⟨fun c => absurd c (by rw [w.2.2.2.2.1, en]; exact nle (by omega) (by omega)), fun _ => ?_⟩
      refine m_look (by omega) (MR_M F hM) (by rw [w.1]; exact hok) (fun S' F' d' e' x4 e4 => ?_)
      rw [e4, nI_1]
      refine ih (p + 1) S' (by omega) (FrM_trans F F') (d'.trans d) ?_
      rw [e', ← e, w.1, w.2.2.2.2.2, d]
      rfl
  exact ⟨n + 1, main n 0 S (by omega) (FrM_refl S) rfl rfl⟩
theorem m_days {f : Nat → Int32 → Int32 → Int32 → Int32 → Int32 → Int32 → Int32} {S : St} {n k : Nat} {Q : St → Prop} (hn : n ≤ 5) (hk : k < 1000) (en : gI S 16 12 = nI n) (hM : MR f S) (hok : ∀ c, c < 64 → rg (gA S 16 9 c) 3) (h : ∀ S', FrM S S' → aM S' = daysF f (gA S 16 9) (gI S 16 13) true n k (aM S) → Q S') : wX6_goes (nI k) S Q := by
  have main : ∀ (m p : Nat) (T : St), p + m = k → FrM S T → daysF f (gA S 16 9) (gI S 16 13) true n m (aM T) = daysF f (gA S 16 9) (gI S 16 13) true n k (aM S) → wX6_goes_l2 (m + 1) (nI k) (nI p) T Q := by
    intro m
    induction m with
    | zero =>
      intro p T hp F e
      have ep : p = k := by omega
      subst ep
      apply wX6_goes_l2_1
      exact ⟨fun _ => h T F e, fun c => absurd (Int32.le_refl _) c⟩
    | succ m ih =>
      intro p T hp F e
      apply wX6_goes_l2_1
      have w := FrM_w F
      refine ⟨fun c => absurd c (nle (by omega) (by omega)), fun _ => ?_⟩
      refine m_day hn (by rw [w.2.2.2.2.1]; exact en) (MR_M F hM) (by rw [w.1]; exact hok) (fun S' F' e' x4 e4 => ?_)
      rw [e4, nI_1]
      refine ih (p + 1) S' (by omega) (FrM_trans F F') ?_
      rw [e', ← e, w.1, w.2.2.2.2.2]
      rfl
  exact ⟨k + 1, main k 0 S (by omega) (FrM_refl S) rfl⟩
/-- laid aside and back -/
def FrL (S S' : St) : Prop := (∀ f, (f < 14 ∨ 29 ≤ f) → gI S' 16 f = gI S 16 f) ∧ (∀ f, ¬ f = 29 → gA S' 16 f = gA S 16 f) ∧ ∀ f, ¬ f = 25 → ¬ f = 30 → gJ S' 16 f = gJ S 16 f
theorem FrL_refl (S : St) : FrL S S := ⟨fun _ _ => rfl, fun _ _ => rfl, fun _ _ _ => rfl⟩
theorem FrL_trans {A B C : St} (h : FrL A B) (g : FrL B C) : FrL A C := ⟨fun f hf => (g.1 f hf).trans (h.1 f hf), fun f hf => (g.2.1 f hf).trans (h.2.1 f hf), fun f h1 hf => (g.2.2 f h1 hf).trans (h.2.2 f h1 hf)⟩
theorem m_aside {S : St} {Q : St → Prop} (h : ∀ S', FrL S S' → (∀ k, k < 25 → gA S' 16 29 k = gA S 16 11 k) → (∀ k, k < 4 → gA S' 16 29 (25 + k) = gA S 16 10 k) → gA S' 16 29 29 = gI S 16 7 → gJ S' 16 30 = gJ S 16 8 → Q S') : wX6_laysAside S Q := by
  refine i_X6_laysAside_l2 ⟨fun _ => i_X6_laysAside_l28 ⟨fun _ => ?_, fun c => absurd (Int32.le_refl _) c⟩, fun c => absurd (Int32.le_refl _) c⟩
  rw [sAr_sAr, gA_sArs]
  intro σ2 e2 σ3 e3
  have c29 : (29 : Int32).toNatClampNeg = 29 := rfl
  rw [c29] at e2
  subst e3 e2
  apply h
  · refine ⟨fun f hf => ?_, fun f hf => ?_, fun f h1 h2 => ?_⟩
    · rw [gI_sJ, gI_sA, gI_sAr]
    · rw [gA_sJ, gA_sAf _ _ _ _ _ (by omega), gA_sArf _ _ _ _ (by omega)]
    · rw [gJ_sJf _ _ _ _ (by omega), gJ_sA, gJ_sAr]
  · intro k hk
    rw [gA_sJ, gA_sA, if_neg (by omega), gA_sArs, cpo_out (by omega)]
    have := cpo_in (d := 0) (s := 0) (k := 25) (f := gA S 16 29) (g := gA S 16 11) hk
    rw [Nat.zero_add] at this
    exact this
  · intro k hk
    rw [gA_sJ, gA_sA, if_neg (by omega), gA_sArs, cpo_in hk, Nat.zero_add, gA_sArf _ _ _ _ (by decide)]
  · rw [gA_sJ, gA_sA, if_pos ⟨rfl, rfl, rfl⟩, gI_sAr]
  · rw [gJ_sJs, gJ_sA, gJ_sAr]
theorem m_back {S : St} {Q : St → Prop} (h : ∀ S', (∀ f, ¬ f = 7 → gI S' 16 f = gI S 16 f) → (∀ f, ¬ f = 10 → ¬ f = 11 → gA S' 16 f = gA S 16 f) → (∀ f, ¬ f = 8 → gJ S' 16 f = gJ S 16 f) → (∀ k, k < 25 → gA S' 16 11 k = gA S 16 29 k) → (∀ k, 25 ≤ k → gA S' 16 11 k = gA S 16 11 k) → (∀ k, k < 4 → gA S' 16 10 k = gA S 16 29 (25 + k)) → (∀ k, 4 ≤ k → gA S' 16 10 k = gA S 16 10 k) → gI S' 16 7 = gA S 16 29 29 → gJ S' 16 8 = gJ S 16 30 → Q S') : wX6_laysBack S Q := by
  refine i_X6_laysBack_l2 ⟨fun _ => i_X6_laysBack_l28 ⟨fun _ => ?_, fun c => absurd (Int32.le_refl _) c⟩, fun c => absurd (Int32.le_refl _) c⟩
  intro σ2 e2 σ3 e3
  have c29 : (29 : Int32).toNatClampNeg = 29 := rfl
  rw [c29] at e2
  subst e3 e2
  apply h
  · intro f hf
    rw [gI_sJ, gI_sIf _ _ _ _ (by omega), gI_sAr, gI_sAr]
  · intro f h1 h2
    rw [gA_sJ, gA_sI, gA_sArf _ _ _ _ (by omega), gA_sArf _ _ _ _ (by omega)]
  · intro f hf
    rw [gJ_sJf _ _ _ _ (by omega), gJ_sI, gJ_sAr, gJ_sAr]
  · intro k hk
    rw [gA_sJ, gA_sI, gA_sArf _ _ _ _ (by decide), gA_sArs]
    have := cpo_in (d := 0) (s := 0) (k := 25) (f := gA S 16 11) (g := gA S 16 29) hk
    rw [Nat.zero_add] at this
    exact this
  · intro k hk
    rw [gA_sJ, gA_sI, gA_sArf _ _ _ _ (by decide), gA_sArs, cpo_out (by omega)]
  · intro k hk
    rw [gA_sJ, gA_sI, gA_sArs]
    have := cpo_in (d := 0) (s := 25) (k := 4) (f := gA (sAr S 16 11 (cpo 0 0 25 (gA S 16 11) (gA S 16 29))) 16 10) (g := gA (sAr S 16 11 (cpo 0 0 25 (gA S 16 11) (gA S 16 29))) 16 29) hk
    rw [Nat.zero_add] at this
    rw [this, gA_sArf _ _ _ _ (by decide)]
  · intro k hk
    rw [gA_sJ, gA_sI, gA_sArs, cpo_out (by omega), gA_sArf _ _ _ _ (by decide)]
  · rw [gI_sJ, gI_sIs, gA_sArf _ _ _ _ (by decide), gA_sArf _ _ _ _ (by decide)]
  · rw [gJ_sJs, gJ_sI, gJ_sAr, gJ_sAr]
