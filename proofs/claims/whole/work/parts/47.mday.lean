/-! the day of the reference -/
def FrP (S S' : St) : Prop := (∀ f, (f < 14 ∨ 29 ≤ f) → gI S' 16 f = gI S 16 f) ∧ (∀ f, gA S' 16 f = gA S 16 f) ∧ ∀ f, ¬ f = 25 → gJ S' 16 f = gJ S 16 f
def FrM (S S' : St) : Prop := (∀ f, ¬ f = 7 → (f < 14 ∨ 29 ≤ f) → gI S' 16 f = gI S 16 f) ∧ (∀ f, ¬ f = 10 → ¬ f = 11 → gA S' 16 f = gA S 16 f) ∧ ∀ f, ¬ f = 8 → ¬ f = 25 → gJ S' 16 f = gJ S 16 f
theorem FrP_refl (S : St) : FrP S S := ⟨fun _ _ => rfl, fun _ => rfl, fun _ _ => rfl⟩
theorem FrM_refl (S : St) : FrM S S := ⟨fun _ _ _ => rfl, fun _ _ _ => rfl, fun _ _ _ => rfl⟩
theorem FrP_trans {A B C : St} (h : FrP A B) (g : FrP B C) : FrP A C := ⟨fun f hf => (g.1 f hf).trans (h.1 f hf), fun f => (g.2.1 f).trans (h.2.1 f), fun f hf => (g.2.2 f hf).trans (h.2.2 f hf)⟩
theorem FrM_trans {A B C : St} (h : FrM A B) (g : FrM B C) : FrM A C := ⟨fun f h1 hf => (g.1 f h1 hf).trans (h.1 f h1 hf), fun f h1 h2 => (g.2.1 f h1 h2).trans (h.2.1 f h1 h2), fun f h1 hf => (g.2.2 f h1 hf).trans (h.2.2 f h1 hf)⟩
theorem FrP_M {A B : St} (h : FrP A B) : FrM A B := ⟨fun f _ hf => h.1 f hf, fun f _ _ => h.2.1 f, fun f _ hf => h.2.2 f hf⟩
theorem FrP_sI {S : St} {f : Nat} {v : Int32} (h : 14 ≤ f) (h2 : f < 29) : FrP S (sI S 16 f v) := ⟨fun g hg => gI_sIf _ _ _ _ (by omega), fun g => gA_sI _ _ _ _ _ _, fun g _ => gJ_sI _ _ _ _ _ _⟩
theorem FrP_sJ {S : St} {v : Int64} : FrP S (sJ S 16 25 v) := ⟨fun g hg => gI_sJ _ _ _ _ _ _, fun g => gA_sJ _ _ _ _ _ _, fun g hg => gJ_sJf _ _ _ _ (by omega)⟩
theorem FrM_11 {S : St} {i : Nat} {v : Int32} : FrM S (sA S 16 11 i v) := ⟨fun g _ hg => gI_sA _ _ _ _ _ _ _, fun g _ h => gA_sAf _ _ _ _ _ (by omega), fun g _ _ => gJ_sA _ _ _ _ _ _ _⟩
theorem FrM_10 {S : St} {i : Nat} {v : Int32} : FrM S (sA S 16 10 i v) := ⟨fun g _ hg => gI_sA _ _ _ _ _ _ _, fun g h _ => gA_sAf _ _ _ _ _ (by omega), fun g _ _ => gJ_sA _ _ _ _ _ _ _⟩
theorem FrM_8 {S : St} {v : Int64} : FrM S (sJ S 16 8 v) := ⟨fun g _ hg => gI_sJ _ _ _ _ _ _, fun g _ _ => gA_sJ _ _ _ _ _ _, fun g hg _ => gJ_sJf _ _ _ _ (by omega)⟩
theorem FrM_7 {S : St} {v : Int32} : FrM S (sI S 16 7 v) := ⟨fun g h _ => gI_sIf _ _ _ _ (by omega), fun g _ _ => gA_sI _ _ _ _ _ _, fun g _ _ => gJ_sI _ _ _ _ _ _⟩
theorem FrP_w {S T : St} (h : FrP S T) : gJ T 16 8 = gJ S 16 8 ∧ gI T 16 7 = gI S 16 7 ∧ gA T 16 10 = gA S 16 10 ∧ gA T 16 11 = gA S 16 11 ∧ gA T 16 9 = gA S 16 9 ∧ gI T 16 4 = gI S 16 4 ∧ gA T 16 2 = gA S 16 2 ∧ gA T 16 1 = gA S 16 1 ∧ gI T 16 12 = gI S 16 12 ∧ gI T 16 13 = gI S 16 13 :=
  ⟨h.2.2 8 (by decide), h.1 7 (by decide), h.2.1 10, h.2.1 11, h.2.1 9, h.1 4 (by decide), h.2.1 2, h.2.1 1, h.1 12 (by decide), h.1 13 (by decide)⟩
theorem FrM_w {S T : St} (h : FrM S T) : gA T 16 9 = gA S 16 9 ∧ gI T 16 4 = gI S 16 4 ∧ gA T 16 2 = gA S 16 2 ∧ gA T 16 1 = gA S 16 1 ∧ gI T 16 12 = gI S 16 12 ∧ gI T 16 13 = gI S 16 13 :=
  ⟨h.2.1 9 (by decide) (by decide), h.1 4 (by decide) (by decide), h.2.1 2 (by decide) (by decide), h.2.1 1 (by decide) (by decide), h.1 12 (by decide) (by decide), h.1 13 (by decide) (by decide)⟩
/-- what a TEXT's bytes say -/
def MEv (f : Nat → Int32 → Int32 → Int32 → Int32 → Int32 → Int32 → Int32) (sz : Int32) (by1 : Nat → Int32) : Prop :=
  ∀ (S : St) (t wh : Nat) (Q : Int32 → St → Prop), t < 6 → wh < 3 → gA S 16 2 t = sz → (∀ i, i < 160 → gA S 16 1 (160 * t + i) = by1 i) →
  (∀ S', FrP S S' → Q (f wh (gI S 16 14) (gI S 16 15) (gI S 16 16) (gI S 16 17) (gI S 16 18) (gI S 16 19)) S') → wX6_read (nI t) (nI wh) S Q
/-- the rule of a state says f -/
def MR (f : Nat → Int32 → Int32 → Int32 → Int32 → Int32 → Int32 → Int32) (S : St) : Prop := ∃ r, r < 6 ∧ gI S 16 4 = nI r ∧ MEv f (gA S 16 2 r) (fun i => gA S 16 1 (160 * r + i))
theorem MR_M {f : Nat → Int32 → Int32 → Int32 → Int32 → Int32 → Int32 → Int32} {S T : St} (h : FrM S T) (hm : MR f S) : MR f T := by
  obtain ⟨r, h1, h2, h3⟩ := hm
  have hw := FrM_w h
  refine ⟨r, h1, by rw [hw.2.1]; exact h2, ?_⟩
  rw [hw.2.2.1, hw.2.2.2.1]
  exact h3
theorem mul5 (p : Nat) : (5 : Int32) * nI p = nI (5 * p) := (Int32.ofNat_mul 5 p).symm
theorem cl0 : (0 : Int32).toNatClampNeg = 0 := rfl
theorem cl1 : (1 : Int32).toNatClampNeg = 1 := rfl
theorem cl2 : (2 : Int32).toNatClampNeg = 2 := rfl
theorem cl3 : (3 : Int32).toNatClampNeg = 3 := rfl
theorem ad1 (q : Nat) : nI q + 1 = nI (q + 1) := nI_add q 1
theorem ad2 (q : Nat) : nI q + 2 = nI (q + 2) := nI_add q 2
theorem ad3 (q : Nat) : nI q + 3 = nI (q + 3) := nI_add q 3
theorem ad4 (q : Nat) : nI q + 4 = nI (q + 4) := nI_add q 4
theorem i_boxAll {S : St} {Q : Int32 → St → Prop} (h : Q (boxF (gA S 16 10)) S) : wX6_boxAll S Q := h
theorem m_says {f : Nat → Int32 → Int32 → Int32 → Int32 → Int32 → Int32 → Int32} {S : St} {p wh : Nat} {Q : Int32 → St → Prop} (hp : p < 5) (hw : wh < 3) (hM : MR f S) (h : ∀ S', FrP S S' → Q (sayF f (gJ S 16 8) (gI S 16 7) (gA S 16 10) (gA S 16 11) wh p) S') : wX6_says (nI wh) (nI p) S Q := by
  obtain ⟨r, hr, hru, hM⟩ := hM
  unfold wX6_says
  rw [mul5, ad1, ad2, nI_clamp (n := 5 * p + 2) (by omega), nI_clamp (n := 5 * p + 1) (by omega), nI_clamp (n := 5 * p) (by omega)]
  refine ⟨vp_in_nI (by omega) (by decide), fun σ2 e2 => ⟨vp_in_nI (by omega) (by decide), fun σ4 e4 => ⟨vp_in_nI (by omega) (by decide), fun σ6 e6 σ7 e7 => i_bitsOf (fun σ10 e10 => i_boxAll (fun σ13 e13 => ?_))⟩⟩⟩
  have F : FrP S σ13 := by
    rw [e13, e10, e7, e6, e4, e2]
    exact FrP_trans (FrP_trans (FrP_trans (FrP_trans (FrP_trans (FrP_sI (by decide) (by decide)) (FrP_sI (by decide) (by decide))) (FrP_sI (by decide) (by decide))) (FrP_sI (by decide) (by decide))) (FrP_sI (by decide) (by decide))) (FrP_sI (by decide) (by decide))
  have v1 : gI σ13 16 14 = gA S 16 11 (5 * p + 2) := by rw [e13, e10, e7, e6, e4, e2]; simp [gI_sI]
  have v2 : gI σ13 16 15 = gA S 16 11 (5 * p + 1) := by rw [e13, e10, e7, e6, e4, e2]; simp [gI_sI, gA_sI]
  have v3 : gI σ13 16 16 = gA S 16 11 (5 * p) := by rw [e13, e10, e7, e6, e4, e2]; simp [gI_sI, gA_sI]
  have v4 : gI σ13 16 17 = gI S 16 7 := by rw [e13, e10, e7, e6, e4, e2]; simp [gI_sI]
  have v5 : gI σ13 16 18 = nI (pc (gJ S 16 8)) := by rw [e13, e10, e7, e6, e4, e2]; simp [gI_sI, gJ_sI]
  have v6 : gI σ13 16 19 = boxF (gA S 16 10) := by rw [e13, e10, e7, e6, e4, e2]; simp [gI_sI, gA_sI]
  have w := FrP_w F
  rw [w.2.2.2.2.2.1, hru]
  apply hM σ13 r wh _ hr hw (by rw [w.2.2.2.2.2.2.1]) (fun i _ => by rw [w.2.2.2.2.2.2.2.1])
  intro S' hS'
  have h9 := h S' (FrP_trans F hS')
  unfold sayF at h9
  rw [v1, v2, v3, v4, v5, v6]
  refine ⟨fun q => ?_, fun q => ?_⟩
  · have : ¬ wh = 0 := fun e => q (by rw [e]; rfl)
    rw [if_neg this] at h9
    exact i_within h9
  · have : wh = 0 := by
      rw [show (0 : Int32) = nI 0 from rfl, nI_eq (by omega) (by decide)] at q
      exact q
    rw [if_pos this] at h9
    exact i_within h9
theorem m_need {f : Nat → Int32 → Int32 → Int32 → Int32 → Int32 → Int32 → Int32} {S : St} {p : Nat} {Q : Int32 → St → Prop} (hp : p < 5) (hM : MR f S) (h : ∀ S', FrP S S' → Q (needF f (gJ S 16 8) (gI S 16 7) (gA S 16 10) (gA S 16 11) p) S') : wX6_needsOf (nI p) S Q := by
  unfold wX6_needsOf
  rw [mul5, ad4, nI_clamp (n := 5 * p + 4) (by omega)]
  refine ⟨vp_in_nI (by omega) (by decide), fun x2 e2 => ?_⟩
  unfold needF at h
  rw [← e2] at h
  have j39 : ¬ x2 = 5 → ¬ (x2 = 4 ∧ boxF (gA S 16 10) = 0) → wX6_needsOf_j39 (nI p) x2 S Q := by
    intro n5 n4
    unfold wX6_needsOf_j39
    rw [mul5, nI_clamp (n := 5 * p) (by omega)]
    refine m_says (wh := 0) hp (by decide) hM (fun S' F => ?_)
    have h9 := h S' F
    rw [if_neg n5, if_neg n4] at h9
    refine ⟨fun a1 => ⟨fun a3 => ⟨fun a0 => ⟨vp_in_nI (by omega) (by decide), i_within ?_⟩, fun a0 => i_within ?_⟩, fun a3 => i_within ?_⟩, fun a1 => i_within ?_⟩
    · rw [if_neg a1, if_neg a3, if_neg a0] at h9; rw [(FrP_w F).2.2.2.1]; exact h9
    · rw [if_neg a1, if_neg a3, if_pos a0] at h9; exact h9
    · rw [if_neg a1, if_pos a3] at h9; exact h9
    · rw [if_pos a1] at h9; exact h9
  refine ⟨fun a => ⟨fun b => absurd a b, fun _ => ?_⟩, fun a => ⟨fun b => j39 a (fun q => b q.1), fun b => i_boxAll ⟨fun c => j39 a (fun q => c q.2), fun c => ⟨fun _ => ?_, fun d => absurd d a⟩⟩⟩⟩
  · have h9 := h S (FrP_refl S)
    rw [if_pos a] at h9; exact h9
  · have h9 := h S (FrP_refl S)
    rw [if_neg a, if_pos ⟨b, c⟩] at h9; exact h9
theorem m_first {S : St} {g : Int32} {P : Nat → Bool} {Q : Int32 → St → Prop} (hP : ∀ c, c < 64 → P c = (!tb (gJ S 16 8) c && (decide (g = -1) || decide (gA S 16 9 c = g)))) (h : Q (if frm P 64 0 < 64 then nI (frm P 64 0) else -1) S) : wX6_firstEmpty g S Q := by
  obtain ⟨N, hN⟩ : ∃ N, frm P 64 0 = N := ⟨_, rfl⟩
  rw [hN] at h
  have main : ∀ (m k : Nat), k + m = 64 → frm P m k = N → wX6_firstEmpty_l2 (m + 1) g (nI k) S Q := by
    intro m
    induction m with
    | zero =>
      intro k hk e
      have e64 : k = 64 := by omega
      subst e64
      apply wX6_firstEmpty_l2_1
      refine ⟨fun _ => ?_, fun c => absurd (Int32.le_refl _) c⟩
      have : N = 64 := e.symm
      rw [this] at h
      exact h
    | succ m ih =>
      intro k hk e
      apply wX6_firstEmpty_l2_1
      have hc : (nI k).toNatClampNeg = k := nI_clamp (by omega)
      have hPk := hP k (by omega)
      have no : P k = false → wX6_firstEmpty_j36 g (nI k) S (fun a0 a1 σ => wX6_firstEmpty_l2 (m + 1) a0 a1 σ Q) Q := by
        intro q x5 e5
        rw [e5, nI_1]
        refine ih (k + 1) (by omega) ?_
        unfold frm at e
        rw [q] at e
        simpa using e
      have ye : P k = true → Q (nI k) S := by
        intro q
        unfold frm at e
        rw [if_pos q] at e
        rw [← e, if_pos (by omega)] at h
        exact h
      refine ⟨fun c => absurd c (nle (N := 64) (k := k) (by omega) (by decide)), fun _ => i_has (by omega) (fun t => ⟨fun _ => no ?_, fun q => absurd q ne10⟩) (fun t => ⟨fun q => absurd rfl q, fun _ => ⟨fun q => ye ?_, fun q => ⟨vp_in_nI (by omega) (by decide), ?_⟩⟩⟩)⟩
      · rw [hPk, t]; rfl
      · rw [hPk, t, q]; rfl
      · rw [hc]
        refine ⟨fun d => no ?_, fun d => ye ?_⟩
        · rw [hPk, t]; simp [q, d]
        · rw [hPk, t]; simp [d]
  exact ⟨65, main 64 0 rfl hN⟩
theorem m_give {f : Nat → Int32 → Int32 → Int32 → Int32 → Int32 → Int32 → Int32} {S : St} {p : Nat} {Q : Int32 → St → Prop} (hp : p < 5) (hM : MR f S) (h : ∀ S', FrP S S' → Q (giveF f (gA S 16 9) (gJ S 16 8) (gI S 16 7) (gA S 16 10) (gA S 16 11) p) S') : wX6_givesOf (nI p) S Q := by
  unfold wX6_givesOf
  rw [mul5, ad4, ad1, nI_clamp (n := 5 * p + 4) (by omega), nI_clamp (n := 5 * p + 1) (by omega)]
  refine ⟨vp_in_nI (by omega) (by decide), fun x2 e2 => ⟨vp_in_nI (by omega) (by decide), fun x4 e4 => ?_⟩⟩
  unfold giveF at h
  rw [← e2, ← e4] at h
  have j42 : (x2 = 1 ∨ (x2 = 3 ∧ irm (gI S 16 7) 2 = 1)) → wX6_givesOf_j42 (nI p) S Q := by
    intro q
    unfold wX6_givesOf_j42
    refine m_says (wh := 1) hp (by decide) hM (fun S' F => i_round ?_)
    have h9 := h S' F
    rw [if_pos q] at h9
    exact h9
  have j52 : ¬ (x2 = 1 ∨ (x2 = 3 ∧ irm (gI S 16 7) 2 = 1)) → wX6_givesOf_j52 (nI p) x2 x4 S Q := by
    intro q
    have h9 := h S (FrP_refl S)
    rw [if_neg q] at h9
    refine m_first (P := fun c => !tb (gJ S 16 8) c) (fun c hc => by simp) ?_
    have e6 : frm (fun c => !tb (gJ S 16 8) c) 64 0 = emF (gJ S 16 8) := rfl
    rw [e6]
    have j78 : ¬ (x2 = 4 ∧ emF (gJ S 16 8) < 64) → wX6_givesOf_j78 (nI p) x2 x4 S Q := by
      intro z
      rw [if_neg z] at h9
      unfold wX6_givesOf_j78
      rw [mul5, nI_clamp (n := 5 * p) (by omega)]
      refine ⟨fun a => i_round ?_, fun a => ⟨fun b => ⟨fun c => i_round ?_, fun c => ⟨vp_in_nI (by omega) (by decide), i_round ?_⟩⟩, fun b => i_round ?_⟩⟩
      · rw [if_pos (Or.inl a)] at h9; exact h9
      · rw [if_neg (by rintro (q | q); exact a q; exact b q), if_neg c] at h9; exact h9
      · rw [if_neg (by rintro (q | q); exact a q; exact b q), if_pos c] at h9; exact h9
      · rw [if_pos (Or.inr b)] at h9; exact h9
    refine ⟨fun a => j78 (fun z => a z.1), fun a => ⟨fun b => j78 (fun z => ?_), fun b => ?_⟩⟩
    · rw [if_pos z.2] at b
      exact rg_ne1 (n := 63) ⟨_, by have := z.2; omega, rfl⟩ (by decide) b
    · by_cases z : emF (gJ S 16 8) < 64
      · rw [if_pos ⟨a, z⟩] at h9
        rw [if_pos z, nI_clamp (by omega)]
        exact ⟨vp_in_nI z (by decide), h9⟩
      · rw [if_neg z] at b; exact absurd rfl b
  refine ⟨fun a => j42 (Or.inl a), fun a => ⟨fun b => j52 ?_, fun b => ⟨fun c => j52 ?_, fun c => j42 (Or.inr ⟨b, c⟩)⟩⟩⟩
  · rintro (q | q); exact a q; exact b q.1
  · rintro (q | q); exact a q; exact c q.2
theorem m_turn {f : Nat → Int32 → Int32 → Int32 → Int32 → Int32 → Int32 → Int32} {S : St} {p : Nat} {Q : Int32 → St → Prop} (hp : p < 5) (hM : MR f S) (h : ∀ S', FrP S S' → Q (turnF f (gJ S 16 8) (gI S 16 7) (gA S 16 10) (gA S 16 11) p) S') : wX6_turnsOf (nI p) S Q := by
  unfold wX6_turnsOf
  rw [mul5, ad4, ad1, nI_clamp (n := 5 * p + 4) (by omega), nI_clamp (n := 5 * p + 1) (by omega), nI_clamp (n := 5 * p) (by omega)]
  refine ⟨vp_in_nI (by omega) (by decide), fun x2 e2 => ⟨vp_in_nI (by omega) (by decide), fun x4 e4 => ?_⟩⟩
  unfold turnF at h
  rw [← e2, ← e4] at h
  have j32 : (x2 = 1 ∨ x2 = 3) → wX6_turnsOf_j32 (nI p) x2 x4 S Q := by
    intro q
    have h9 := h S (FrP_refl S)
    unfold wX6_turnsOf_j32
    rw [mul5, nI_clamp (n := 5 * p) (by omega)]
    refine ⟨fun a => ⟨vp_in_nI (by omega) (by decide), i_round ?_⟩, fun a => i_round ?_⟩
    · rcases q with q | q
      · exact absurd q a
      · rw [if_neg a, if_pos q] at h9; exact h9
    · rw [if_pos a] at h9; exact h9
  refine ⟨fun a => j32 (Or.inl a), fun a => ⟨fun b => ?_, fun b => j32 (Or.inr b)⟩⟩
  refine m_says (wh := 2) hp (by decide) hM (fun S' F => ?_)
  have h9 := h S' F
  rw [if_neg a, if_neg b] at h9
  refine ⟨fun c => ⟨fun d => i_round ?_, fun d => ⟨vp_in_nI (by omega) (by decide), i_round ?_⟩⟩, fun c => i_round ?_⟩
  · rw [if_neg c, if_neg d] at h9; exact h9
  · rw [if_neg c, if_pos d] at h9; rw [(FrP_w F).2.2.2.1]; exact h9
  · rw [if_pos c] at h9; exact h9
theorem m_go {S : St} {g : Int32} {Q : St → Prop} (hg : rg g 3) (h : ∀ S', FrM S S' → gI S' 16 7 = gI S 16 7 → gA S' 16 11 = gA S 16 11 → gJ S' 16 8 = goFl (gA S 16 9) (gJ S 16 8) g → gA S' 16 10 = goBx (gA S 16 9) (gJ S 16 8) (gA S 16 10) g → Q S') : wX6_goesIn g S Q := by
  have hv : vp_in g 4 := by obtain ⟨j, hj, e⟩ := hg; rw [e]; exact vp_in_nI (by omega) (by decide)
  have hn : ¬ g = -1 := rg_ne1 hg (by decide)
  refine m_first (P := fun c => !tb (gJ S 16 8) c && decide (gA S 16 9 c = g)) (fun c hc => by simp [hn]) ?_
  have e6 : frm (fun c => !tb (gJ S 16 8) c && decide (gA S 16 9 c = g)) 64 0 = weF (gA S 16 9) (gJ S 16 8) g := rfl
  rw [e6]
  unfold goFl goBx at h
  by_cases z : weF (gA S 16 9) (gJ S 16 8) g < 64
  · rw [if_pos z, if_pos z] at h
    rw [if_pos z]
    have n1 : ¬ nI (weF (gA S 16 9) (gJ S 16 8) g) = -1 := rg_ne1 (n := 63) ⟨_, by omega, rfl⟩ (by decide)
    refine ⟨fun _ σ4 e4 => ⟨hv, fun _ => i_within ⟨hv, fun σ10 e10 => ?_⟩, fun q => absurd q n1⟩, fun q => absurd q n1⟩
    apply h
    · rw [e10, e4]; exact FrM_trans FrM_8 FrM_10
    · rw [e10, e4, gI_sA, gI_sJ]
    · rw [e10, e4, gA_sAf _ _ _ _ _ (by decide), gA_sJ]
    · rw [e10, e4, gJ_sA, gJ_sJs]
    · rw [e10, e4]
      unfold sA
      rw [gA_sArs, gA_sJ]
  · rw [if_neg z, if_neg z] at h
    rw [if_neg z]
    refine ⟨fun q => absurd rfl q, fun _ σ4 e4 => ⟨hv, fun q => absurd rfl q, fun _ => i_within ⟨hv, fun σ10 e10 => ?_⟩⟩⟩
    apply h
    · rw [e10, e4]; exact FrM_trans FrM_8 FrM_10
    · rw [e10, e4, gI_sA, gI_sJ]
    · rw [e10, e4, gA_sAf _ _ _ _ _ (by decide), gA_sJ]
    · rw [e10, e4, gJ_sA, gJ_sJs]
      apply tb_ext
      intro i hi
      rw [tb_or, tb_0, Bool.or_false]
    · rw [e10, e4]
      unfold sA
      rw [gA_sArs, gA_sJ]
