/-! rows that are laid into rows -/
def cpo (d s k : Nat) (f g : Nat → Int32) : Nat → Int32 := fun j => if d ≤ j ∧ j < d + k then g (j - d + s) else f j
theorem cpo_0 (d s : Nat) (f g : Nat → Int32) : cpo d s 0 f g = f := by
  funext j
  unfold cpo
  rw [if_neg (by omega)]
theorem cpo_1 (d s k : Nat) (f g : Nat → Int32) : upd (cpo d s k f g) (d + k) (g (s + k)) = cpo d s (k + 1) f g := by
  funext j
  unfold cpo upd
  by_cases h : j = d + k
  · subst h
    rw [if_pos rfl, if_pos (by omega)]
    congr 1; omega
  · rw [if_neg h]
    show (if d ≤ j ∧ j < d + k then g (j - d + s) else f j) = _
    by_cases h2 : d ≤ j ∧ j < d + k
    · rw [if_pos h2, if_pos (by omega)]
    · rw [if_neg h2, if_neg (by omega)]
theorem cpo_in {d s k : Nat} {f g : Nat → Int32} {i : Nat} (h : i < k) : cpo d s k f g (d + i) = g (s + i) := by
  unfold cpo
  rw [if_pos (by omega)]
  congr 1; omega
theorem cpo_out {d s k : Nat} {f g : Nat → Int32} {j : Nat} (h : ¬ (d ≤ j ∧ j < d + k)) : cpo d s k f g j = f j := by
  unfold cpo
  rw [if_neg h]
theorem sAr_sAr (σ : St) (o f : Nat) (g h : Nat → Int32) : sAr (sAr σ o f g) o f h = sAr σ o f h := by
  unfold sAr va_up
  funext p
  by_cases e : p = o
  · subst e
    simp
    funext q
    by_cases e2 : q = f <;> simp [e2]
  · simp [e]
theorem sAr_self (σ : St) (o f : Nat) : sAr σ o f (gA σ o f) = σ := by
  unfold sAr va_up gA
  funext p
  by_cases e : p = o
  · subst e
    simp
    have e3 : (fun j => if j = f then (σ p).2.2.1 f else (σ p).2.2.1 j) = (σ p).2.2.1 := by
      funext q
      by_cases e2 : q = f <;> simp [e2]
    rw [e3]
  · simp [e]
theorem cpo_st {σ : St} {o a b d s k : Nat} (hab : ¬ a = b) (v : Int32) (hv : v = gA σ o b (s + k)) : sA (sAr σ o a (cpo d s k (gA σ o a) (gA σ o b))) o a (d + k) v = sAr σ o a (cpo d s (k + 1) (gA σ o a) (gA σ o b)) := by
  unfold sA
  rw [gA_sAr, if_pos ⟨rfl, rfl⟩, hv, cpo_1, sAr_sAr]
theorem gA_sArf (σ : St) (o f : Nat) (g : Nat → Int32) {o' f' : Nat} (h : ¬ (o' = o ∧ f' = f)) : gA (sAr σ o f g) o' f' = gA σ o' f' := by
  rw [gA_sAr, if_neg h]
theorem gA_sArs (σ : St) (o f : Nat) (g : Nat → Int32) : gA (sAr σ o f g) o f = g := by
  rw [gA_sAr, if_pos ⟨rfl, rfl⟩]
theorem nle {N k : Nat} (h : k < N) (hN : N < 2 ^ 31) : ¬ nI N ≤ nI k := nI_ge h hN
theorem i_X6_image_l2 {σ : St} {Q : Int32 → St → Prop} (h : wX6_image_l2s (fun _ _ => True) (nI 25) (sAr σ 16 32 (cpo 0 0 25 (gA σ 16 32) (gA σ 16 11))) Q) : ∃ n : Nat, wX6_image_l2 n 0 σ Q := by
  have main : ∀ (m k : Nat), k + m = 25 → wX6_image_l2 (m + 1) (nI k) (sAr σ 16 32 (cpo 0 0 k (gA σ 16 32) (gA σ 16 11))) Q := by
    intro m
    induction m with
    | zero =>
      intro k hk
      rw [show k = 25 by omega]
      apply wX6_image_l2_1
      exact ⟨h.1, fun c => absurd (Int32.le_refl _) c⟩
    | succ m ih =>
      intro k hk
      apply wX6_image_l2_1
      have hc : (nI k).toNatClampNeg = k := nI_clamp (by omega)
      refine ⟨fun c => absurd c (nle (N := 25) (k := k) (by omega) (by decide)), fun _ => ⟨(by have h9 := vp_in_nI (n := k) (N := 25) (by omega) (by decide); exact h9), (by have h9 := vp_in_nI (n := k) (N := 25) (by omega) (by decide); exact h9), fun τ hτ x hx => ?_⟩⟩
      rw [hx, nI_1]
      have e9 : τ = sAr σ 16 32 (cpo 0 0 (k + 1) (gA σ 16 32) (gA σ 16 11)) := by
        rw [hτ]
        have ed : (nI k).toNatClampNeg = 0 + k := by rw [hc]; omega
        have es : (nI k).toNatClampNeg = 0 + k := by rw [hc]; omega
        first | rw [ed, es] | rw [ed]
        exact cpo_st (by decide) _ (by rw [gA_sArf _ _ _ _ (by decide)])
      rw [e9]
      exact ih (k + 1) (by omega)
  have h0 := main 25 0 (by omega)
  rw [cpo_0, sAr_self] at h0
  exact ⟨_, h0⟩
theorem i_X6_image_l28 {σ : St} {Q : Int32 → St → Prop} (h : wX6_image_l28s (fun _ _ => True) (nI 64) (sAr σ 16 33 (cpo 0 0 64 (gA σ 16 33) (gA σ 16 9))) Q) : ∃ n : Nat, wX6_image_l28 n 0 σ Q := by
  have main : ∀ (m k : Nat), k + m = 64 → wX6_image_l28 (m + 1) (nI k) (sAr σ 16 33 (cpo 0 0 k (gA σ 16 33) (gA σ 16 9))) Q := by
    intro m
    induction m with
    | zero =>
      intro k hk
      rw [show k = 64 by omega]
      apply wX6_image_l28_1
      exact ⟨h.1, fun c => absurd (Int32.le_refl _) c⟩
    | succ m ih =>
      intro k hk
      apply wX6_image_l28_1
      have hc : (nI k).toNatClampNeg = k := nI_clamp (by omega)
      refine ⟨fun c => absurd c (nle (N := 64) (k := k) (by omega) (by decide)), fun _ => ⟨(by have h9 := vp_in_nI (n := k) (N := 64) (by omega) (by decide); exact h9), (by have h9 := vp_in_nI (n := k) (N := 64) (by omega) (by decide); exact h9), fun τ hτ x hx => ?_⟩⟩
      rw [hx, nI_1]
      have e9 : τ = sAr σ 16 33 (cpo 0 0 (k + 1) (gA σ 16 33) (gA σ 16 9)) := by
        rw [hτ]
        have ed : (nI k).toNatClampNeg = 0 + k := by rw [hc]; omega
        have es : (nI k).toNatClampNeg = 0 + k := by rw [hc]; omega
        first | rw [ed, es] | rw [ed]
        exact cpo_st (by decide) _ (by rw [gA_sArf _ _ _ _ (by decide)])
      rw [e9]
      exact ih (k + 1) (by omega)
  have h0 := main 64 0 (by omega)
  rw [cpo_0, sAr_self] at h0
  exact ⟨_, h0⟩
theorem i_X6_image_l54 {σ : St} {Q : Int32 → St → Prop} (h : wX6_image_l54s (fun _ _ => True) (nI 4) (sAr σ 16 34 (cpo 0 0 4 (gA σ 16 34) (gA σ 16 10))) Q) : ∃ n : Nat, wX6_image_l54 n 0 σ Q := by
  have main : ∀ (m k : Nat), k + m = 4 → wX6_image_l54 (m + 1) (nI k) (sAr σ 16 34 (cpo 0 0 k (gA σ 16 34) (gA σ 16 10))) Q := by
    intro m
    induction m with
    | zero =>
      intro k hk
      rw [show k = 4 by omega]
      apply wX6_image_l54_1
      exact ⟨h.1, fun c => absurd (Int32.le_refl _) c⟩
    | succ m ih =>
      intro k hk
      apply wX6_image_l54_1
      have hc : (nI k).toNatClampNeg = k := nI_clamp (by omega)
      refine ⟨fun c => absurd c (nle (N := 4) (k := k) (by omega) (by decide)), fun _ => ⟨(by have h9 := vp_in_nI (n := k) (N := 4) (by omega) (by decide); exact h9), (by have h9 := vp_in_nI (n := k) (N := 4) (by omega) (by decide); exact h9), fun τ hτ x hx => ?_⟩⟩
      rw [hx, nI_1]
      have e9 : τ = sAr σ 16 34 (cpo 0 0 (k + 1) (gA σ 16 34) (gA σ 16 10)) := by
        rw [hτ]
        have ed : (nI k).toNatClampNeg = 0 + k := by rw [hc]; omega
        have es : (nI k).toNatClampNeg = 0 + k := by rw [hc]; omega
        first | rw [ed, es] | rw [ed]
        exact cpo_st (by decide) _ (by rw [gA_sArf _ _ _ _ (by decide)])
      rw [e9]
      exact ih (k + 1) (by omega)
  have h0 := main 4 0 (by omega)
  rw [cpo_0, sAr_self] at h0
  exact ⟨_, h0⟩
theorem i_X6_back_l13 {σ : St} {Q : Int32 → St → Prop} (h : wX6_back_l13s (fun _ _ => True) (nI 25) (sAr σ 16 11 (cpo 0 0 25 (gA σ 16 11) (gA σ 16 32))) Q) : ∃ n : Nat, wX6_back_l13 n 0 σ Q := by
  have main : ∀ (m k : Nat), k + m = 25 → wX6_back_l13 (m + 1) (nI k) (sAr σ 16 11 (cpo 0 0 k (gA σ 16 11) (gA σ 16 32))) Q := by
    intro m
    induction m with
    | zero =>
      intro k hk
      rw [show k = 25 by omega]
      apply wX6_back_l13_1
      exact ⟨h.1, fun c => absurd (Int32.le_refl _) c⟩
    | succ m ih =>
      intro k hk
      apply wX6_back_l13_1
      have hc : (nI k).toNatClampNeg = k := nI_clamp (by omega)
      refine ⟨fun c => absurd c (nle (N := 25) (k := k) (by omega) (by decide)), fun _ => ⟨(by have h9 := vp_in_nI (n := k) (N := 25) (by omega) (by decide); exact h9), (by have h9 := vp_in_nI (n := k) (N := 25) (by omega) (by decide); exact h9), fun τ hτ x hx => ?_⟩⟩
      rw [hx, nI_1]
      have e9 : τ = sAr σ 16 11 (cpo 0 0 (k + 1) (gA σ 16 11) (gA σ 16 32)) := by
        rw [hτ]
        have ed : (nI k).toNatClampNeg = 0 + k := by rw [hc]; omega
        have es : (nI k).toNatClampNeg = 0 + k := by rw [hc]; omega
        first | rw [ed, es] | rw [ed]
        exact cpo_st (by decide) _ (by rw [gA_sArf _ _ _ _ (by decide)])
      rw [e9]
      exact ih (k + 1) (by omega)
  have h0 := main 25 0 (by omega)
  rw [cpo_0, sAr_self] at h0
  exact ⟨_, h0⟩
theorem i_X6_back_l39 {σ : St} {Q : Int32 → St → Prop} (h : wX6_back_l39s (fun _ _ => True) (nI 64) (sAr σ 16 9 (cpo 0 0 64 (gA σ 16 9) (gA σ 16 33))) Q) : ∃ n : Nat, wX6_back_l39 n 0 σ Q := by
  have main : ∀ (m k : Nat), k + m = 64 → wX6_back_l39 (m + 1) (nI k) (sAr σ 16 9 (cpo 0 0 k (gA σ 16 9) (gA σ 16 33))) Q := by
    intro m
    induction m with
    | zero =>
      intro k hk
      rw [show k = 64 by omega]
      apply wX6_back_l39_1
      exact ⟨h.1, fun c => absurd (Int32.le_refl _) c⟩
    | succ m ih =>
      intro k hk
      apply wX6_back_l39_1
      have hc : (nI k).toNatClampNeg = k := nI_clamp (by omega)
      refine ⟨fun c => absurd c (nle (N := 64) (k := k) (by omega) (by decide)), fun _ => ⟨(by have h9 := vp_in_nI (n := k) (N := 64) (by omega) (by decide); exact h9), (by have h9 := vp_in_nI (n := k) (N := 64) (by omega) (by decide); exact h9), fun τ hτ x hx => ?_⟩⟩
      rw [hx, nI_1]
      have e9 : τ = sAr σ 16 9 (cpo 0 0 (k + 1) (gA σ 16 9) (gA σ 16 33)) := by
        rw [hτ]
        have ed : (nI k).toNatClampNeg = 0 + k := by rw [hc]; omega
        have es : (nI k).toNatClampNeg = 0 + k := by rw [hc]; omega
        first | rw [ed, es] | rw [ed]
        exact cpo_st (by decide) _ (by rw [gA_sArf _ _ _ _ (by decide)])
      rw [e9]
      exact ih (k + 1) (by omega)
  have h0 := main 64 0 (by omega)
  rw [cpo_0, sAr_self] at h0
  exact ⟨_, h0⟩
theorem i_X6_back_l65 {σ : St} {Q : Int32 → St → Prop} (h : wX6_back_l65s (fun _ _ => True) (nI 4) (sAr σ 16 10 (cpo 0 0 4 (gA σ 16 10) (gA σ 16 34))) Q) : ∃ n : Nat, wX6_back_l65 n 0 σ Q := by
  have main : ∀ (m k : Nat), k + m = 4 → wX6_back_l65 (m + 1) (nI k) (sAr σ 16 10 (cpo 0 0 k (gA σ 16 10) (gA σ 16 34))) Q := by
    intro m
    induction m with
    | zero =>
      intro k hk
      rw [show k = 4 by omega]
      apply wX6_back_l65_1
      exact ⟨h.1, fun c => absurd (Int32.le_refl _) c⟩
    | succ m ih =>
      intro k hk
      apply wX6_back_l65_1
      have hc : (nI k).toNatClampNeg = k := nI_clamp (by omega)
      refine ⟨fun c => absurd c (nle (N := 4) (k := k) (by omega) (by decide)), fun _ => ⟨(by have h9 := vp_in_nI (n := k) (N := 4) (by omega) (by decide); exact h9), (by have h9 := vp_in_nI (n := k) (N := 4) (by omega) (by decide); exact h9), fun τ hτ x hx => ?_⟩⟩
      rw [hx, nI_1]
      have e9 : τ = sAr σ 16 10 (cpo 0 0 (k + 1) (gA σ 16 10) (gA σ 16 34)) := by
        rw [hτ]
        have ed : (nI k).toNatClampNeg = 0 + k := by rw [hc]; omega
        have es : (nI k).toNatClampNeg = 0 + k := by rw [hc]; omega
        first | rw [ed, es] | rw [ed]
        exact cpo_st (by decide) _ (by rw [gA_sArf _ _ _ _ (by decide)])
      rw [e9]
      exact ih (k + 1) (by omega)
  have h0 := main 4 0 (by omega)
  rw [cpo_0, sAr_self] at h0
  exact ⟨_, h0⟩
theorem i_X6_laysAside_l2 {σ : St} {Q : St → Prop} (h : wX6_laysAside_l2s (fun _ _ => True) (nI 25) (sAr σ 16 29 (cpo 0 0 25 (gA σ 16 29) (gA σ 16 11))) Q) : ∃ n : Nat, wX6_laysAside_l2 n 0 σ Q := by
  have main : ∀ (m k : Nat), k + m = 25 → wX6_laysAside_l2 (m + 1) (nI k) (sAr σ 16 29 (cpo 0 0 k (gA σ 16 29) (gA σ 16 11))) Q := by
    intro m
    induction m with
    | zero =>
      intro k hk
      rw [show k = 25 by omega]
      apply wX6_laysAside_l2_1
      exact ⟨h.1, fun c => absurd (Int32.le_refl _) c⟩
    | succ m ih =>
      intro k hk
      apply wX6_laysAside_l2_1
      have hc : (nI k).toNatClampNeg = k := nI_clamp (by omega)
      refine ⟨fun c => absurd c (nle (N := 25) (k := k) (by omega) (by decide)), fun _ => ⟨(by have h9 := vp_in_nI (n := k) (N := 25) (by omega) (by decide); exact h9), (by have h9 := vp_in_nI (n := k) (N := 30) (by omega) (by decide); exact h9), fun τ hτ x hx => ?_⟩⟩
      rw [hx, nI_1]
      have e9 : τ = sAr σ 16 29 (cpo 0 0 (k + 1) (gA σ 16 29) (gA σ 16 11)) := by
        rw [hτ]
        have ed : (nI k).toNatClampNeg = 0 + k := by rw [hc]; omega
        have es : (nI k).toNatClampNeg = 0 + k := by rw [hc]; omega
        first | rw [ed, es] | rw [ed]
        exact cpo_st (by decide) _ (by rw [gA_sArf _ _ _ _ (by decide)])
      rw [e9]
      exact ih (k + 1) (by omega)
  have h0 := main 25 0 (by omega)
  rw [cpo_0, sAr_self] at h0
  exact ⟨_, h0⟩
theorem i_X6_laysAside_l28 {σ : St} {Q : St → Prop} (h : wX6_laysAside_l28s (fun _ _ => True) (nI 4) (sAr σ 16 29 (cpo 25 0 4 (gA σ 16 29) (gA σ 16 10))) Q) : ∃ n : Nat, wX6_laysAside_l28 n 0 σ Q := by
  have main : ∀ (m k : Nat), k + m = 4 → wX6_laysAside_l28 (m + 1) (nI k) (sAr σ 16 29 (cpo 25 0 k (gA σ 16 29) (gA σ 16 10))) Q := by
    intro m
    induction m with
    | zero =>
      intro k hk
      rw [show k = 4 by omega]
      apply wX6_laysAside_l28_1
      exact ⟨h.1, fun c => absurd (Int32.le_refl _) c⟩
    | succ m ih =>
      intro k hk
      apply wX6_laysAside_l28_1
      have hc : (nI k).toNatClampNeg = k := nI_clamp (by omega)
      refine ⟨fun c => absurd c (nle (N := 4) (k := k) (by omega) (by decide)), fun _ => ⟨(by have h9 := vp_in_nI (n := k) (N := 4) (by omega) (by decide); exact h9), (by have h9 := vp_in_nI (n := 25 + k) (N := 30) (by omega) (by decide); rw [← nI_add] at h9; exact h9), fun τ hτ x hx => ?_⟩⟩
      rw [hx, nI_1]
      have e9 : τ = sAr σ 16 29 (cpo 25 0 (k + 1) (gA σ 16 29) (gA σ 16 10)) := by
        rw [hτ]
        have ed : (25 + nI k : Int32).toNatClampNeg = 25 + k := by rw [show (25 : Int32) = nI 25 from rfl, nI_add]; exact nI_clamp (by omega)
        have es : (nI k).toNatClampNeg = 0 + k := by rw [hc]; omega
        first | rw [ed, es] | rw [ed]
        exact cpo_st (by decide) _ (by rw [gA_sArf _ _ _ _ (by decide)])
      rw [e9]
      exact ih (k + 1) (by omega)
  have h0 := main 4 0 (by omega)
  rw [cpo_0, sAr_self] at h0
  exact ⟨_, h0⟩
theorem i_X6_laysBack_l2 {σ : St} {Q : St → Prop} (h : wX6_laysBack_l2s (fun _ _ => True) (nI 25) (sAr σ 16 11 (cpo 0 0 25 (gA σ 16 11) (gA σ 16 29))) Q) : ∃ n : Nat, wX6_laysBack_l2 n 0 σ Q := by
  have main : ∀ (m k : Nat), k + m = 25 → wX6_laysBack_l2 (m + 1) (nI k) (sAr σ 16 11 (cpo 0 0 k (gA σ 16 11) (gA σ 16 29))) Q := by
    intro m
    induction m with
    | zero =>
      intro k hk
      rw [show k = 25 by omega]
      apply wX6_laysBack_l2_1
      exact ⟨h.1, fun c => absurd (Int32.le_refl _) c⟩
    | succ m ih =>
      intro k hk
      apply wX6_laysBack_l2_1
      have hc : (nI k).toNatClampNeg = k := nI_clamp (by omega)
      refine ⟨fun c => absurd c (nle (N := 25) (k := k) (by omega) (by decide)), fun _ => ⟨(by have h9 := vp_in_nI (n := k) (N := 30) (by omega) (by decide); exact h9), (by have h9 := vp_in_nI (n := k) (N := 25) (by omega) (by decide); exact h9), fun τ hτ x hx => ?_⟩⟩
      rw [hx, nI_1]
      have e9 : τ = sAr σ 16 11 (cpo 0 0 (k + 1) (gA σ 16 11) (gA σ 16 29)) := by
        rw [hτ]
        have ed : (nI k).toNatClampNeg = 0 + k := by rw [hc]; omega
        have es : (nI k).toNatClampNeg = 0 + k := by rw [hc]; omega
        first | rw [ed, es] | rw [ed]
        exact cpo_st (by decide) _ (by rw [gA_sArf _ _ _ _ (by decide)])
      rw [e9]
      exact ih (k + 1) (by omega)
  have h0 := main 25 0 (by omega)
  rw [cpo_0, sAr_self] at h0
  exact ⟨_, h0⟩
theorem i_X6_laysBack_l28 {σ : St} {Q : St → Prop} (h : wX6_laysBack_l28s (fun _ _ => True) (nI 4) (sAr σ 16 10 (cpo 0 25 4 (gA σ 16 10) (gA σ 16 29))) Q) : ∃ n : Nat, wX6_laysBack_l28 n 0 σ Q := by
  have main : ∀ (m k : Nat), k + m = 4 → wX6_laysBack_l28 (m + 1) (nI k) (sAr σ 16 10 (cpo 0 25 k (gA σ 16 10) (gA σ 16 29))) Q := by
    intro m
    induction m with
    | zero =>
      intro k hk
      rw [show k = 4 by omega]
      apply wX6_laysBack_l28_1
      exact ⟨h.1, fun c => absurd (Int32.le_refl _) c⟩
    | succ m ih =>
      intro k hk
      apply wX6_laysBack_l28_1
      have hc : (nI k).toNatClampNeg = k := nI_clamp (by omega)
      refine ⟨fun c => absurd c (nle (N := 4) (k := k) (by omega) (by decide)), fun _ => ⟨(by have h9 := vp_in_nI (n := 25 + k) (N := 30) (by omega) (by decide); rw [← nI_add] at h9; exact h9), (by have h9 := vp_in_nI (n := k) (N := 4) (by omega) (by decide); exact h9), fun τ hτ x hx => ?_⟩⟩
      rw [hx, nI_1]
      have e9 : τ = sAr σ 16 10 (cpo 0 25 (k + 1) (gA σ 16 10) (gA σ 16 29)) := by
        rw [hτ]
        have ed : (nI k).toNatClampNeg = 0 + k := by rw [hc]; omega
        have es : (25 + nI k : Int32).toNatClampNeg = 25 + k := by rw [show (25 : Int32) = nI 25 from rfl, nI_add]; exact nI_clamp (by omega)
        first | rw [ed, es] | rw [ed]
        exact cpo_st (by decide) _ (by rw [gA_sArf _ _ _ _ (by decide)])
      rw [e9]
      exact ih (k + 1) (by omega)
  have h0 := main 4 0 (by omega)
  rw [cpo_0, sAr_self] at h0
  exact ⟨_, h0⟩
