/-! World.become; image, back -/
def WEq (Y : St) (o : Nat) (X : St) (a : Nat) : Prop := (gJ Y o 1 = gJ X a 1 ∧ gI Y o 2 = gI X a 2 ∧ gI Y o 3 = gI X a 3 ∧ gI Y o 5 = gI X a 5) ∧ (∀ c, c < 4 → gB Y o 0 c = gB X a 0 c ∧ gA Y o 4 c = gA X a 4 c) ∧ ∀ p, p < 5 → gA Y o 6 p = gA X a 6 p ∧ gA Y o 7 p = gA X a 7 p ∧ gA Y o 8 p = gA X a 8 p ∧ gA Y o 9 p = gA X a 9 p ∧ gA Y o 10 p = gA X a 10 p
theorem WRel_WEq {X Y : St} {o a : Nat} {fl : Int64} {dy ru mn : Int32} {bx rw wt : Nat → Int32} (e : WEq Y o X a) (h : WRel X a fl dy ru mn bx rw wt) : WRel Y o fl dy ru mn bx rw wt := by
  obtain ⟨⟨e1, e2, e3, e4⟩, e5, e6⟩ := e
  obtain ⟨⟨h1, h2, h3, h4, h5⟩, h6, h7, h8⟩ := h
  refine ⟨⟨e1.trans h1, e2.trans h2, e3.trans h3, e4.trans h4, h5⟩, fun c hc => ⟨(e5 c hc).2.trans (h6 c hc).1, (h6 c hc).2⟩, fun p hp => ?_, fun c hc => ⟨(h8 c hc).1, fun k hk => by rw [(e5 k hk).1]; exact (h8 c hc).2 k hk⟩⟩
  obtain ⟨f6, f7, f8, f9, f10⟩ := e6 p hp
  obtain ⟨⟨g6, g7, g8, g9, g10⟩, g⟩ := h7 p hp
  exact ⟨⟨f6.trans g6, f7.trans g7, f8.trans g8, f9.trans g9, f10.trans g10⟩, g⟩
theorem WRel_pt {X : St} {o : Nat} {fl : Int64} {dy ru mn : Int32} {bx rw wt bx' rw' wt' : Nat → Int32} (e1 : ∀ c, c < 4 → bx' c = bx c) (e2 : ∀ k, k < 25 → rw' k = rw k) (e3 : ∀ c, c < 64 → wt' c = wt c) (h : WRel X o fl dy ru mn bx rw wt) : WRel X o fl dy ru mn bx' rw' wt' := by
  obtain ⟨h1, h6, h7, h8⟩ := h
  refine ⟨h1, fun c hc => by rw [e1 c hc]; exact h6 c hc, fun p hp => ?_, fun c hc => by rw [e3 c hc]; exact h8 c hc⟩
  rw [e2 (5 * p + 4) (by omega), e2 (5 * p) (by omega), e2 (5 * p + 1) (by omega), e2 (5 * p + 2) (by omega), e2 (5 * p + 3) (by omega)]
  exact h7 p hp
theorem i_become {X : St} {o a : Nat} {Q : St → Prop} (hne : ¬ a = o) (h : ∀ Y : St, (∀ p, ¬ p = o → Y p = X p) → WEq Y o X a → Q Y) : wX4_become o a X Q := by
  have fr : ∀ {Y : St} {f : Nat}, (∀ p, ¬ p = o → Y p = X p) → gA Y a f = gA X a f := fun hY => gA_same (hY a hne)
  have frB : ∀ {Y : St} {f : Nat}, (∀ p, ¬ p = o → Y p = X p) → gB Y a f = gB X a f := fun hY => gB_same (hY a hne)
  have l2 : ∀ (m k : Nat) (Y : St), k + m = 5 → (∀ p, ¬ p = o → Y p = X p) → (gJ Y o 1 = gJ X a 1 ∧ gI Y o 2 = gI X a 2 ∧ gI Y o 3 = gI X a 3 ∧ gI Y o 5 = gI X a 5) → (∀ c, c < 4 → gB Y o 0 c = gB X a 0 c ∧ gA Y o 4 c = gA X a 4 c) → (∀ p, p < k → gA Y o 6 p = gA X a 6 p ∧ gA Y o 7 p = gA X a 7 p ∧ gA Y o 8 p = gA X a 8 p ∧ gA Y o 9 p = gA X a 9 p ∧ gA Y o 10 p = gA X a 10 p) → wX4_become_l71 (m + 1) o a (nI k) Y Q := by
    intro m
    induction m with
    | zero =>
      intro k Y hk f1 f2 f3 f4
      have e5 : k = 5 := by omega
      subst e5
      apply wX4_become_l71_1
      exact ⟨fun _ => h Y f1 ⟨f2, f3, f4⟩, fun c => absurd (Int32.le_refl _) c⟩
    | succ m ih =>
      intro k Y hk f1 f2 f3 f4
      apply wX4_become_l71_1
      have hc : (nI k).toNatClampNeg = k := nI_clamp (by omega)
      have hv : vp_in (nI k) 5 := vp_in_nI (by omega) (by decide)
      refine ⟨fun c => absurd c (nle (N := 5) (k := k) (by omega) (by decide)), fun _ => ⟨hv, hv, fun Y1 e1 => ⟨hv, hv, fun Y2 e2 => ⟨hv, hv, fun Y3 e3 => ⟨hv, hv, fun Y4 e4 => ⟨hv, hv, fun Y5 e5 x hx => ?_⟩⟩⟩⟩⟩⟩
      rw [hx, nI_1]
      rw [hc] at e1 e2 e3 e4 e5
      have g1 : ∀ p, ¬ p = o → Y1 p = X p := fun p hp => by rw [e1, o_sA hp]; exact f1 p hp
      have g2 : ∀ p, ¬ p = o → Y2 p = X p := fun p hp => by rw [e2, o_sA hp]; exact g1 p hp
      have g3 : ∀ p, ¬ p = o → Y3 p = X p := fun p hp => by rw [e3, o_sA hp]; exact g2 p hp
      have g4 : ∀ p, ¬ p = o → Y4 p = X p := fun p hp => by rw [e4, o_sA hp]; exact g3 p hp
      have g5 : ∀ p, ¬ p = o → Y5 p = X p := fun p hp => by rw [e5, o_sA hp]; exact g4 p hp
      rw [fr f1] at e1
      rw [fr g1] at e2
      rw [fr g2] at e3
      rw [fr g3] at e4
      rw [fr g4] at e5
      subst e1 e2 e3 e4 e5
      refine ih (k + 1) _ (by omega) g5 ?_ ?_ ?_
      · simp only [gJ_sA, gI_sA]; exact f2
      · intro c hc4
        simp only [gB_sA]
        have := f3 c hc4
        simp [gA_sA]
        exact this
      · intro p hp
        by_cases e : p = k
        · subst e
          simp [gA_sA]
        · have := f4 p (by omega)
          simp [gA_sA, e]
          exact this
  have l1 : ∀ (m k : Nat) (Y : St), k + m = 4 → (∀ p, ¬ p = o → Y p = X p) → (gJ Y o 1 = gJ X a 1 ∧ gI Y o 2 = gI X a 2 ∧ gI Y o 3 = gI X a 3 ∧ gI Y o 5 = gI X a 5) → (∀ c, c < k → gB Y o 0 c = gB X a 0 c ∧ gA Y o 4 c = gA X a 4 c) → wX4_become_l34 (m + 1) o a (nI k) Y Q := by
    intro m
    induction m with
    | zero =>
      intro k Y hk f1 f2 f3
      have e5 : k = 4 := by omega
      subst e5
      apply wX4_become_l34_1
      exact ⟨fun _ => ⟨6, l2 5 0 Y rfl f1 f2 f3 (fun p hp => absurd hp (Nat.not_lt_zero p))⟩, fun c => absurd (Int32.le_refl _) c⟩
    | succ m ih =>
      intro k Y hk f1 f2 f3
      apply wX4_become_l34_1
      have hc : (nI k).toNatClampNeg = k := nI_clamp (by omega)
      have hv : vp_in (nI k) 4 := vp_in_nI (by omega) (by decide)
      refine ⟨fun c => absurd c (nle (N := 4) (k := k) (by omega) (by decide)), fun _ => ⟨hv, hv, fun Y1 e1 => ⟨hv, hv, fun Y2 e2 x hx => ?_⟩⟩⟩
      rw [hx, nI_1]
      rw [hc] at e1 e2
      have g1 : ∀ p, ¬ p = o → Y1 p = X p := fun p hp => by rw [e1, o_sB hp]; exact f1 p hp
      have g2 : ∀ p, ¬ p = o → Y2 p = X p := fun p hp => by rw [e2, o_sA hp]; exact g1 p hp
      rw [frB f1] at e1
      rw [fr g1] at e2
      subst e1 e2
      refine ih (k + 1) _ (by omega) g2 ?_ ?_
      · simp only [gJ_sA, gI_sA, gJ_sB, gI_sB]; exact f2
      · intro p hp
        by_cases e : p = k
        · subst e
          simp [gA_sA, gB_sA, gB_sB]
        · have := f3 p (by omega)
          simp [gA_sA, gB_sA, gB_sB, gA_sB, e]
          exact this
  unfold wX4_become
  intro Y1 e1 Y2 e2 Y3 e3 Y4 e4
  have g1 : ∀ p, ¬ p = o → Y1 p = X p := fun p hp => by rw [e1, o_sJ hp]
  have g2 : ∀ p, ¬ p = o → Y2 p = X p := fun p hp => by rw [e2, o_sI hp]; exact g1 p hp
  have g3 : ∀ p, ¬ p = o → Y3 p = X p := fun p hp => by rw [e3, o_sI hp]; exact g2 p hp
  have g4 : ∀ p, ¬ p = o → Y4 p = X p := fun p hp => by rw [e4, o_sI hp]; exact g3 p hp
  rw [gI_same (g1 a hne)] at e2
  rw [gI_same (g2 a hne)] at e3
  rw [gI_same (g3 a hne)] at e4
  subst e1 e2 e3 e4
  refine ⟨5, l1 4 0 _ rfl g4 ?_ (fun c hc => absurd hc (Nat.not_lt_zero c))⟩
  simp [gJ_sI, gJ_sJ, gI_sI, gI_sJ]
theorem rg_ne1 {x : Int32} {n : Nat} (h : rg x n) (hn : n < 2 ^ 31) : ¬ x = -1 := by
  intro q
  have := rg_in h hn
  rw [q] at this
  have e : (-1 : Int32).toInt = -1 := rfl
  omega
/-- image -/
theorem sim20 {TR : OT → Int32 → (Nat → Int32) → Prop} : Sim20 (Rel TR) := by
  intro X S hR
  obtain ⟨hW, hI, hT, hP, hSh, hid⟩ := id hR
  obtain ⟨k, k1, k2, e1, e2, e3, e4, e5⟩ := id hT
  unfold wX5_image
  refine i_become (by decide) (fun Y hY hE Y2 h2 => ?_)
  subst h2
  refine i_X6_image_l2 ⟨fun _ => i_X6_image_l28 ⟨fun _ => i_X6_image_l54 ⟨fun _ S4 t4 S5 t5 S6 t6 S7 t7 => ?_, fun c => absurd (Int32.le_refl _) c⟩, fun c => absurd (Int32.le_refl _) c⟩, fun c => absurd (Int32.le_refl _) c⟩
  subst t4 t5 t6 t7
  have y1 : Y 1 = X 1 := hY 1 (by decide)
  have hw := hW.1.1
  refine ⟨by simp [gI_sI, gI_sJ, gI_sA, gI_sB, gI_sAr, gJ_sI, gJ_sJ, gJ_sA, gJ_sB, gJ_sAr, gA_sI, gA_sJ, gA_sAf, gA_sArf, gA_sArs, gA_sB, gB_sI, gB_sJ, gB_sA, o_sI, o_sJ, o_sA, o_sB, o_sAr]; rw [gI_same y1]; exact hw.2.2.2.1, ?_, ?_, ?_, ?_, ?_, ?_⟩
  · exact RW_cong (X := X) (S := S) (by simp [gI_sI, gI_sJ, gI_sA, gI_sB, gI_sAr, gJ_sI, gJ_sJ, gJ_sA, gJ_sB, gJ_sAr, gA_sI, gA_sJ, gA_sAf, gA_sArf, gA_sArs, gA_sB, gB_sI, gB_sJ, gB_sA, o_sI, o_sJ, o_sA, o_sB, o_sAr]; exact y1) (by simp [gI_sI, gI_sJ, gI_sA, gI_sB, gI_sAr, gJ_sI, gJ_sJ, gJ_sA, gJ_sB, gJ_sAr, gA_sI, gA_sJ, gA_sAf, gA_sArf, gA_sArs, gA_sB, gB_sI, gB_sJ, gB_sA, o_sI, o_sJ, o_sA, o_sB, o_sAr]) (by simp [gI_sI, gI_sJ, gI_sA, gI_sB, gI_sAr, gJ_sI, gJ_sJ, gJ_sA, gJ_sB, gJ_sAr, gA_sI, gA_sJ, gA_sAf, gA_sArf, gA_sArs, gA_sB, gB_sI, gB_sJ, gB_sA, o_sI, o_sJ, o_sA, o_sB, o_sAr]) (by simp [gI_sI, gI_sJ, gI_sA, gI_sB, gI_sAr, gJ_sI, gJ_sJ, gJ_sA, gJ_sB, gJ_sAr, gA_sI, gA_sJ, gA_sAf, gA_sArf, gA_sArs, gA_sB, gB_sI, gB_sJ, gB_sA, o_sI, o_sJ, o_sA, o_sB, o_sAr]) (by simp [gI_sI, gI_sJ, gI_sA, gI_sB, gI_sAr, gJ_sI, gJ_sJ, gJ_sA, gJ_sB, gJ_sAr, gA_sI, gA_sJ, gA_sAf, gA_sArf, gA_sArs, gA_sB, gB_sI, gB_sJ, gB_sA, o_sI, o_sJ, o_sA, o_sB, o_sAr]) (by simp [gI_sI, gI_sJ, gI_sA, gI_sB, gI_sAr, gJ_sI, gJ_sJ, gJ_sA, gJ_sB, gJ_sAr, gA_sI, gA_sJ, gA_sAf, gA_sArf, gA_sArs, gA_sB, gB_sI, gB_sJ, gB_sA, o_sI, o_sJ, o_sA, o_sB, o_sAr]) (by simp [gI_sI, gI_sJ, gI_sA, gI_sB, gI_sAr, gJ_sI, gJ_sJ, gJ_sA, gJ_sB, gJ_sAr, gA_sI, gA_sJ, gA_sAf, gA_sArf, gA_sArs, gA_sB, gB_sI, gB_sJ, gB_sA, o_sI, o_sJ, o_sA, o_sB, o_sAr]) (by simp [gI_sI, gI_sJ, gI_sA, gI_sB, gI_sAr, gJ_sI, gJ_sJ, gJ_sA, gJ_sB, gJ_sAr, gA_sI, gA_sJ, gA_sAf, gA_sArf, gA_sArs, gA_sB, gB_sI, gB_sJ, gB_sA, o_sI, o_sJ, o_sA, o_sB, o_sAr]) hW
  · refine Or.inr ⟨by simp [gI_sI, gI_sJ, gI_sA, gI_sB, gI_sAr, gJ_sI, gJ_sJ, gJ_sA, gJ_sB, gJ_sAr, gA_sI, gA_sJ, gA_sAf, gA_sArf, gA_sArs, gA_sB, gB_sI, gB_sJ, gB_sA, o_sI, o_sJ, o_sA, o_sB, o_sAr], by simp [gI_sI, gI_sJ, gI_sA, gI_sB, gI_sAr, gJ_sI, gJ_sJ, gJ_sA, gJ_sB, gJ_sAr, gA_sI, gA_sJ, gA_sAf, gA_sArf, gA_sArs, gA_sB, gB_sI, gB_sJ, gB_sA, o_sI, o_sJ, o_sA, o_sB, o_sAr]; exact rg_ne1 hw.2.2.2.2 (by decide), ?_, by simp [gI_sI, gI_sJ, gI_sA, gI_sB, gI_sAr, gJ_sI, gJ_sJ, gJ_sA, gJ_sB, gJ_sAr, gA_sI, gA_sJ, gA_sAf, gA_sArf, gA_sArs, gA_sB, gB_sI, gB_sJ, gB_sA, o_sI, o_sJ, o_sA, o_sB, o_sAr]; exact hW.2⟩
    simp [gI_sI, gI_sJ, gI_sA, gI_sB, gI_sAr, gJ_sI, gJ_sJ, gJ_sA, gJ_sB, gJ_sAr, gA_sI, gA_sJ, gA_sAf, gA_sArf, gA_sArs, gA_sB, gB_sI, gB_sJ, gB_sA, o_sI, o_sJ, o_sA, o_sB, o_sAr]
    refine WRel_same (X := Y) (by simp [gI_sI, gI_sJ, gI_sA, gI_sB, gI_sAr, gJ_sI, gJ_sJ, gJ_sA, gJ_sB, gJ_sAr, gA_sI, gA_sJ, gA_sAf, gA_sArf, gA_sArs, gA_sB, gB_sI, gB_sJ, gB_sA, o_sI, o_sJ, o_sA, o_sB, o_sAr]) ?_
    exact WRel_pt (fun c hc => by have := cpo_in (d := 0) (s := 0) (k := 4) (f := gA S 16 34) (g := gA S 16 10) hc; simpa using this) (fun c hc => by have := cpo_in (d := 0) (s := 0) (k := 25) (f := gA S 16 32) (g := gA S 16 11) hc; simpa using this) (fun c hc => by have := cpo_in (d := 0) (s := 0) (k := 64) (f := gA S 16 33) (g := gA S 16 9) hc; simpa using this) (WRel_WEq hE hW.1)
  · refine ⟨k, k1, k2, by simp [gI_sI, gI_sJ, gI_sA, gI_sB, gI_sAr, gJ_sI, gJ_sJ, gJ_sA, gJ_sB, gJ_sAr, gA_sI, gA_sJ, gA_sAf, gA_sArf, gA_sArs, gA_sB, gB_sI, gB_sJ, gB_sA, o_sI, o_sJ, o_sA, o_sB, o_sAr]; rw [gI_same (hY 4 (by decide))]; exact e1, by simp [gI_sI, gI_sJ, gI_sA, gI_sB, gI_sAr, gJ_sI, gJ_sJ, gJ_sA, gJ_sB, gJ_sAr, gA_sI, gA_sJ, gA_sAf, gA_sArf, gA_sArs, gA_sB, gB_sI, gB_sJ, gB_sA, o_sI, o_sJ, o_sA, o_sB, o_sAr]; exact e2, by simp [gI_sI, gI_sJ, gI_sA, gI_sB, gI_sAr, gJ_sI, gJ_sJ, gJ_sA, gJ_sB, gJ_sAr, gA_sI, gA_sJ, gA_sAf, gA_sArf, gA_sArs, gA_sB, gB_sI, gB_sJ, gB_sA, o_sI, o_sJ, o_sA, o_sB, o_sAr]; exact e3, Or.inr (by simp [gI_sI, gI_sJ, gI_sA, gI_sB, gI_sAr, gJ_sI, gJ_sJ, gJ_sA, gJ_sB, gJ_sAr, gA_sI, gA_sJ, gA_sAf, gA_sArf, gA_sArs, gA_sB, gB_sI, gB_sJ, gB_sA, o_sI, o_sJ, o_sA, o_sB, o_sAr]; exact e3), fun t ht => ?_⟩
    rw [o_sI (by omega), hY (6 + t) (by omega)]
    simp [gI_sI, gI_sJ, gI_sA, gI_sB, gI_sAr, gJ_sI, gJ_sJ, gJ_sA, gJ_sB, gJ_sAr, gA_sI, gA_sJ, gA_sAf, gA_sArf, gA_sArs, gA_sB, gB_sI, gB_sJ, gB_sA, o_sI, o_sJ, o_sA, o_sB, o_sAr]
    exact e5 t ht
  · exact RP_cong (X := X) (S := S) (by simp [gI_sI, gI_sJ, gI_sA, gI_sB, gI_sAr, gJ_sI, gJ_sJ, gJ_sA, gJ_sB, gJ_sAr, gA_sI, gA_sJ, gA_sAf, gA_sArf, gA_sArs, gA_sB, gB_sI, gB_sJ, gB_sA, o_sI, o_sJ, o_sA, o_sB, o_sAr]; exact hY 5 (by decide)) (by simp [gI_sI, gI_sJ, gI_sA, gI_sB, gI_sAr, gJ_sI, gJ_sJ, gJ_sA, gJ_sB, gJ_sAr, gA_sI, gA_sJ, gA_sAf, gA_sArf, gA_sArs, gA_sB, gB_sI, gB_sJ, gB_sA, o_sI, o_sJ, o_sA, o_sB, o_sAr]) (by simp [gI_sI, gI_sJ, gI_sA, gI_sB, gI_sAr, gJ_sI, gJ_sJ, gJ_sA, gJ_sB, gJ_sAr, gA_sI, gA_sJ, gA_sAf, gA_sArf, gA_sArs, gA_sB, gB_sI, gB_sJ, gB_sA, o_sI, o_sJ, o_sA, o_sB, o_sAr]) hP
  · exact RSh_cong (X := X) (S := S) (fun s hs => by rw [o_sI (by omega), hY (12 + s) (by omega)]) (by simp [gI_sI, gI_sJ, gI_sA, gI_sB, gI_sAr, gJ_sI, gJ_sJ, gJ_sA, gJ_sB, gJ_sAr, gA_sI, gA_sJ, gA_sAf, gA_sArf, gA_sArs, gA_sB, gB_sI, gB_sJ, gB_sA, o_sI, o_sJ, o_sA, o_sB, o_sAr]) (by simp [gI_sI, gI_sJ, gI_sA, gI_sB, gI_sAr, gJ_sI, gJ_sJ, gJ_sA, gJ_sB, gJ_sAr, gA_sI, gA_sJ, gA_sAf, gA_sArf, gA_sArs, gA_sB, gB_sI, gB_sJ, gB_sA, o_sI, o_sJ, o_sA, o_sB, o_sAr]) (by simp [gI_sI, gI_sJ, gI_sA, gI_sB, gI_sAr, gJ_sI, gJ_sJ, gJ_sA, gJ_sB, gJ_sAr, gA_sI, gA_sJ, gA_sAf, gA_sArf, gA_sArs, gA_sB, gB_sI, gB_sJ, gB_sA, o_sI, o_sJ, o_sA, o_sB, o_sAr]) (by simp [gI_sI, gI_sJ, gI_sA, gI_sB, gI_sAr, gJ_sI, gJ_sJ, gJ_sA, gJ_sB, gJ_sAr, gA_sI, gA_sJ, gA_sAf, gA_sArf, gA_sArs, gA_sB, gB_sI, gB_sJ, gB_sA, o_sI, o_sJ, o_sA, o_sB, o_sAr]) hSh
  · simp [gI_sI, gI_sJ, gI_sA, gI_sB, gI_sAr, gJ_sI, gJ_sJ, gJ_sA, gJ_sB, gJ_sAr, gA_sI, gA_sJ, gA_sAf, gA_sArf, gA_sArs, gA_sB, gB_sI, gB_sJ, gB_sA, o_sI, o_sJ, o_sA, o_sB, o_sAr]; exact hid
/-- back -/
theorem sim21 {TR : OT → Int32 → (Nat → Int32) → Prop} : Sim21 (Rel TR) := by
  intro X S hR
  obtain ⟨hW, hI, hT, hP, hSh, hid⟩ := id hR
  obtain ⟨k, k1, k2, e1, e2, e3, e4, e5⟩ := id hT
  unfold wX5_back
  refine ⟨fun c => ?_, fun c => ?_⟩
  · rcases id hI with hI2 | ⟨i1, i2, i3, i4⟩
    · exact absurd hI2.1 c
    refine i_become (by decide) (fun Y hY hE => ?_)
    unfold wX6_back
    refine ⟨fun _ => i_X6_back_l13 ⟨fun _ => i_X6_back_l39 ⟨fun _ => i_X6_back_l65 ⟨fun _ S4 t4 S5 t5 S6 t6 S7 t7 => ?_, fun c => absurd (Int32.le_refl _) c⟩, fun c => absurd (Int32.le_refl _) c⟩, fun c => absurd (Int32.le_refl _) c⟩, fun q => absurd q i2⟩
    subst t4 t5 t6 t7
    have y3 : Y 3 = X 3 := hY 3 (by decide)
    have hw := i3.1
    refine ⟨by simp [gI_sI, gI_sJ, gI_sA, gI_sB, gI_sAr, gJ_sI, gJ_sJ, gJ_sA, gJ_sB, gJ_sAr, gA_sI, gA_sJ, gA_sAf, gA_sArf, gA_sArs, gA_sB, gB_sI, gB_sJ, gB_sA, o_sI, o_sJ, o_sA, o_sB, o_sAr]; rw [hE.1.2.2.2]; exact hw.2.2.2.1, ?_, ?_, ?_, ?_, ?_, ?_⟩
    · refine ⟨?_, by simp [gI_sI, gI_sJ, gI_sA, gI_sB, gI_sAr, gJ_sI, gJ_sJ, gJ_sA, gJ_sB, gJ_sAr, gA_sI, gA_sJ, gA_sAf, gA_sArf, gA_sArs, gA_sB, gB_sI, gB_sJ, gB_sA, o_sI, o_sJ, o_sA, o_sB, o_sAr]; exact i4⟩
      simp [gI_sI, gI_sJ, gI_sA, gI_sB, gI_sAr, gJ_sI, gJ_sJ, gJ_sA, gJ_sB, gJ_sAr, gA_sI, gA_sJ, gA_sAf, gA_sArf, gA_sArs, gA_sB, gB_sI, gB_sJ, gB_sA, o_sI, o_sJ, o_sA, o_sB, o_sAr]
      exact WRel_pt (fun c hc => by have := cpo_in (d := 0) (s := 0) (k := 4) (f := gA S 16 10) (g := gA S 16 34) hc; simpa using this) (fun c hc => by have := cpo_in (d := 0) (s := 0) (k := 25) (f := gA S 16 11) (g := gA S 16 32) hc; simpa using this) (fun c hc => by have := cpo_in (d := 0) (s := 0) (k := 64) (f := gA S 16 9) (g := gA S 16 33) hc; simpa using this) (WRel_WEq hE i3)
    · exact RI_cong (X := X) (S := S) (gI_same (hY 0 (by decide))) y3 (by simp [gI_sI, gI_sJ, gI_sA, gI_sB, gI_sAr, gJ_sI, gJ_sJ, gJ_sA, gJ_sB, gJ_sAr, gA_sI, gA_sJ, gA_sAf, gA_sArf, gA_sArs, gA_sB, gB_sI, gB_sJ, gB_sA, o_sI, o_sJ, o_sA, o_sB, o_sAr]) (by simp [gI_sI, gI_sJ, gI_sA, gI_sB, gI_sAr, gJ_sI, gJ_sJ, gJ_sA, gJ_sB, gJ_sAr, gA_sI, gA_sJ, gA_sAf, gA_sArf, gA_sArs, gA_sB, gB_sI, gB_sJ, gB_sA, o_sI, o_sJ, o_sA, o_sB, o_sAr]) (by simp [gI_sI, gI_sJ, gI_sA, gI_sB, gI_sAr, gJ_sI, gJ_sJ, gJ_sA, gJ_sB, gJ_sAr, gA_sI, gA_sJ, gA_sAf, gA_sArf, gA_sArs, gA_sB, gB_sI, gB_sJ, gB_sA, o_sI, o_sJ, o_sA, o_sB, o_sAr]) (by simp [gI_sI, gI_sJ, gI_sA, gI_sB, gI_sAr, gJ_sI, gJ_sJ, gJ_sA, gJ_sB, gJ_sAr, gA_sI, gA_sJ, gA_sAf, gA_sArf, gA_sArs, gA_sB, gB_sI, gB_sJ, gB_sA, o_sI, o_sJ, o_sA, o_sB, o_sAr]) (by simp [gI_sI, gI_sJ, gI_sA, gI_sB, gI_sAr, gJ_sI, gJ_sJ, gJ_sA, gJ_sB, gJ_sAr, gA_sI, gA_sJ, gA_sAf, gA_sArf, gA_sArs, gA_sB, gB_sI, gB_sJ, gB_sA, o_sI, o_sJ, o_sA, o_sB, o_sAr]) (by simp [gI_sI, gI_sJ, gI_sA, gI_sB, gI_sAr, gJ_sI, gJ_sJ, gJ_sA, gJ_sB, gJ_sAr, gA_sI, gA_sJ, gA_sAf, gA_sArf, gA_sArs, gA_sB, gB_sI, gB_sJ, gB_sA, o_sI, o_sJ, o_sA, o_sB, o_sAr]) (by simp [gI_sI, gI_sJ, gI_sA, gI_sB, gI_sAr, gJ_sI, gJ_sJ, gJ_sA, gJ_sB, gJ_sAr, gA_sI, gA_sJ, gA_sAf, gA_sArf, gA_sArs, gA_sB, gB_sI, gB_sJ, gB_sA, o_sI, o_sJ, o_sA, o_sB, o_sAr]) hI
    · refine ⟨k, k1, k2, by rw [gI_same (hY 4 (by decide))]; exact e1, by simp [gI_sI, gI_sJ, gI_sA, gI_sB, gI_sAr, gJ_sI, gJ_sJ, gJ_sA, gJ_sB, gJ_sAr, gA_sI, gA_sJ, gA_sAf, gA_sArf, gA_sArs, gA_sB, gB_sI, gB_sJ, gB_sA, o_sI, o_sJ, o_sA, o_sB, o_sAr]; exact e2, ?_, by simp [gI_sI, gI_sJ, gI_sA, gI_sB, gI_sAr, gJ_sI, gJ_sJ, gJ_sA, gJ_sB, gJ_sAr, gA_sI, gA_sJ, gA_sAf, gA_sArf, gA_sArs, gA_sB, gB_sI, gB_sJ, gB_sA, o_sI, o_sJ, o_sA, o_sB, o_sAr]; exact e4, fun t ht => ?_⟩
      · simp [gI_sI, gI_sJ, gI_sA, gI_sB, gI_sAr, gJ_sI, gJ_sJ, gJ_sA, gJ_sB, gJ_sAr, gA_sI, gA_sJ, gA_sAf, gA_sArf, gA_sArs, gA_sB, gB_sI, gB_sJ, gB_sA, o_sI, o_sJ, o_sA, o_sB, o_sAr]
        rcases e4 with e4 | e4
        · exact absurd e4 i2
        · exact e4
      · rw [hY (6 + t) (by omega)]
        simp [gI_sI, gI_sJ, gI_sA, gI_sB, gI_sAr, gJ_sI, gJ_sJ, gJ_sA, gJ_sB, gJ_sAr, gA_sI, gA_sJ, gA_sAf, gA_sArf, gA_sArs, gA_sB, gB_sI, gB_sJ, gB_sA, o_sI, o_sJ, o_sA, o_sB, o_sAr]
        exact e5 t ht
    · exact RP_cong (X := X) (S := S) (hY 5 (by decide)) (by simp [gI_sI, gI_sJ, gI_sA, gI_sB, gI_sAr, gJ_sI, gJ_sJ, gJ_sA, gJ_sB, gJ_sAr, gA_sI, gA_sJ, gA_sAf, gA_sArf, gA_sArs, gA_sB, gB_sI, gB_sJ, gB_sA, o_sI, o_sJ, o_sA, o_sB, o_sAr]) (by simp [gI_sI, gI_sJ, gI_sA, gI_sB, gI_sAr, gJ_sI, gJ_sJ, gJ_sA, gJ_sB, gJ_sAr, gA_sI, gA_sJ, gA_sAf, gA_sArf, gA_sArs, gA_sB, gB_sI, gB_sJ, gB_sA, o_sI, o_sJ, o_sA, o_sB, o_sAr]) hP
    · exact RSh_cong (X := X) (S := S) (fun s hs => hY (12 + s) (by omega)) (by simp [gI_sI, gI_sJ, gI_sA, gI_sB, gI_sAr, gJ_sI, gJ_sJ, gJ_sA, gJ_sB, gJ_sAr, gA_sI, gA_sJ, gA_sAf, gA_sArf, gA_sArs, gA_sB, gB_sI, gB_sJ, gB_sA, o_sI, o_sJ, o_sA, o_sB, o_sAr]) (by simp [gI_sI, gI_sJ, gI_sA, gI_sB, gI_sAr, gJ_sI, gJ_sJ, gJ_sA, gJ_sB, gJ_sAr, gA_sI, gA_sJ, gA_sAf, gA_sArf, gA_sArs, gA_sB, gB_sI, gB_sJ, gB_sA, o_sI, o_sJ, o_sA, o_sB, o_sAr]) (by simp [gI_sI, gI_sJ, gI_sA, gI_sB, gI_sAr, gJ_sI, gJ_sJ, gJ_sA, gJ_sB, gJ_sAr, gA_sI, gA_sJ, gA_sAf, gA_sArf, gA_sArs, gA_sB, gB_sI, gB_sJ, gB_sA, o_sI, o_sJ, o_sA, o_sB, o_sAr]) (by simp [gI_sI, gI_sJ, gI_sA, gI_sB, gI_sAr, gJ_sI, gJ_sJ, gJ_sA, gJ_sB, gJ_sAr, gA_sI, gA_sJ, gA_sAf, gA_sArf, gA_sArs, gA_sB, gB_sI, gB_sJ, gB_sA, o_sI, o_sJ, o_sA, o_sB, o_sAr]) hSh
    · simp [gI_sI, gI_sJ, gI_sA, gI_sB, gI_sAr, gJ_sI, gJ_sJ, gJ_sA, gJ_sB, gJ_sAr, gA_sI, gA_sJ, gA_sAf, gA_sArf, gA_sArs, gA_sB, gB_sI, gB_sJ, gB_sA, o_sI, o_sJ, o_sA, o_sB, o_sAr]; exact hid
  · unfold wX6_back
    rcases id hI with hI2 | hI2
    · exact ⟨fun q => absurd hI2.2 q, fun _ => ⟨rfl, hR⟩⟩
    · exact absurd c hI2.1
