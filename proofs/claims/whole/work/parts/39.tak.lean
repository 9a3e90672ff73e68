/-! taken -/
theorem pred_toInt {n : Nat} (h : n < 2 ^ 31) : (nI n - 1).toInt = (n : Int) - 1 := by
  cases n with
  | zero => rfl
  | succ n => rw [nI_pred, nI_toInt (by omega)]; omega
theorem i_isOne {S : St} {p : Int32} {n : Nat} {Q : Int32 → St → Prop} (hn : n ≤ 5) (w5 : gI S 16 12 = nI n) (h1 : 0 ≤ p.toInt → p.toInt < n → Q 1 S) (h0 : ¬ (0 ≤ p.toInt ∧ p.toInt < n) → Q 0 S) : wX6_isOne p S Q := by
  have z0 : (0 : Int64).toInt = 0 := rfl
  have e := pred_toInt (n := n) (by omega)
  unfold wX6_isOne
  rw [w5]
  refine i_in (fun g1 g2 => ⟨Or.inr rfl, h1 ?_ ?_⟩) (fun g => ⟨Or.inl rfl, h0 (fun q => g ?_)⟩)
  · rw [i64] at g1; omega
  · rw [i64, i64] at g2; omega
  · rw [i64, i64]; omega
def ovr (x : Int32) : Int32 := if x = 0 then -1 else if x = 3 then 1 else if x = 4 then 2 else 0
def und : Nat → Int32 → Int32 → Bool
  | 0, _, _ => false
  | n + 1, x, k => if x = -1 then false else if x = k then true else und n (ovr x) k
def Tm : Nat → Int32 → Bool
  | 0, x => decide (x = -1)
  | n + 1, x => decide (x = -1) || Tm n (ovr x)
theorem und_ok : ∀ j, j < 6 → ∀ k, k < 6 → und 4 (nI j) (nI k) = und 6 (nI j) (nI k) := by decide +kernel
theorem Tm_ok : ∀ j, j < 6 → Tm 4 (nI j) = true := by decide +kernel
theorem abv_ok : ∀ j, j < 6 → abv j = ovr (nI j) := by decide +kernel
theorem ovr_ok : ∀ j, j < 6 → ovr (nI j) = -1 ∨ ∃ i, i < 6 ∧ ovr (nI j) = nI i := by
  intro j hj
  rcases (by omega : j = 0 ∨ j = 1 ∨ j = 2 ∨ j = 3 ∨ j = 4 ∨ j = 5) with rfl | rfl | rfl | rfl | rfl | rfl
  · exact Or.inl rfl
  · exact Or.inr ⟨0, by decide, rfl⟩
  · exact Or.inr ⟨0, by decide, rfl⟩
  · exact Or.inr ⟨1, by decide, rfl⟩
  · exact Or.inr ⟨2, by decide, rfl⟩
  · exact Or.inr ⟨0, by decide, rfl⟩
theorem i_isUnder {X : St} {x k : Int32} {Q : Int32 → St → Prop} (hx : x = -1 ∨ ∃ i, i < 6 ∧ x = nI i) (h1 : und 6 x k = true → Q 1 X) (h0 : und 6 x k = false → Q 0 X) : wX5_isUnder x k X Q := by
  have main : ∀ (m i : Nat) (x : Int32), i + m = 6 → (x = -1 ∨ ∃ i, i < 6 ∧ x = nI i) → (und m x k = true → Q 1 X) → (und m x k = false → Q 0 X) → wX5_isUnder_l4 (m + 1) k x (nI i) X Q := by
    intro m
    induction m with
    | zero =>
      intro i x hi hx h1 h0
      have e : i = 6 := by omega
      subst e
      apply wX5_isUnder_l4_1
      exact ⟨fun _ => h0 rfl, fun c => absurd (Int32.le_refl _) c⟩
    | succ m ih =>
      intro i x hi hx h1 h0
      apply wX5_isUnder_l4_1
      refine ⟨fun c => absurd c (nle (N := 6) (k := i) (by omega) (by decide)), fun _ => ?_⟩
      have y6 : (6 : Int32).toInt = 6 := rfl
      rcases hx with rfl | ⟨j, hj, rfl⟩
      · have ym : (-1 : Int32).toInt = -1 := rfl
        refine i_isIn (fun g1 _ => by omega) (fun _ => ⟨fun _ => h0 (by simp [und]), fun c => absurd rfl c⟩)
      · have ej : (nI j).toInt = j := nI_toInt (by omega)
        have hm1 : ¬ nI j = -1 := rg_ne1 ⟨j, Nat.le_refl _, rfl⟩ (by omega)
        refine i_isIn (fun _ _ => ⟨fun c => absurd c ne10, fun _ => ⟨fun hne => ⟨vp_in_nI hj (by decide), fun x7 e7 x8 e8 => ?_⟩, fun he => h1 (by rw [und, if_neg hm1, if_pos he])⟩⟩) (fun g => absurd ⟨by omega, by omega⟩ g)
        rw [e8, nI_1, e7, nI_clamp (by omega), abv_ok j hj]
        have eu : und (m + 1) (nI j) k = und m (ovr (nI j)) k := by rw [und, if_neg hm1, if_neg hne]
        rw [eu] at h1 h0
        exact ih (i + 1) _ (by omega) (ovr_ok j hj) h1 h0
  exact ⟨7, main 6 0 x rfl hx h1 h0⟩
theorem i_over {S : St} {x : Int32} {Q : Int32 → St → Prop} (h : Q (ovr x) S) : wX6_over x S Q := by
  unfold wX6_over
  unfold ovr at h
  refine ⟨fun c0 => ⟨fun c3 => ⟨fun c4 => ?_, fun c4 => ?_⟩, fun c3 => ?_⟩, fun c0 => ?_⟩
  · rw [if_neg c0, if_neg c3, if_neg c4] at h; exact h
  · rw [if_neg c0, if_neg c3, if_pos c4] at h; exact h
  · rw [if_neg c0, if_pos c3] at h; exact h
  · rw [if_pos c0] at h; exact h
theorem i_takenL {S : St} {p k : Int32} {Q : Int32 → St → Prop} (hk : ¬ k = -1) : ∀ (n : Nat) (x : Int32), Tm n x = true → (und n x k = true → vp_in (5 * p) 25 ∧ Q (gA S 16 11 (5 * p).toNatClampNeg) S) → (und n x k = false → Q (-13) S) → wX6_taken_l37 (n + 1) p k x S Q := by
  intro n
  induction n with
  | zero =>
    intro x hT h1 h0
    have e : x = -1 := by simpa [Tm] using hT
    apply wX6_taken_l37_1
    refine ⟨fun _ => ⟨fun _ => h0 rfl, fun q => absurd (q.symm.trans e) hk⟩, fun q => absurd e q⟩
  | succ n ih =>
    intro x hT h1 h0
    apply wX6_taken_l37_1
    refine ⟨fun e => ⟨fun _ => h0 (by rw [und, if_pos e]), fun q => absurd (q.symm.trans e) hk⟩, fun e => ⟨fun q => ⟨fun c => absurd q c, fun _ => h1 (by rw [und, if_neg e, if_pos q])⟩, fun q => i_over ?_⟩⟩
    have eu : und (n + 1) x k = und n (ovr x) k := by rw [und, if_neg e, if_neg q]
    rw [eu] at h1 h0
    refine ih (ovr x) ?_ h1 h0
    simpa [Tm, e] using hT
theorem sim27 {TR : OT → Int32 → (Nat → Int32) → Prop} : Sim27 (Rel TR) := by
  intro X S a b hR
  obtain ⟨hW, hI, hT, hP, hSh, hid⟩ := id hR
  obtain ⟨⟨w1, w2, w3, w4, n, hn, w5⟩, -, wr, -⟩ := id hW.1
  have z0 : (0 : Int64).toInt = 0 := rfl
  have z5 : (5 : Int64).toInt = 5 := rfl
  have y6 : (6 : Int32).toInt = 6 := rfl
  have en : (nI n).toInt = n := nI_toInt (by omega)
  unfold wX5_taken
  refine i_isIn (fun p1 p2 => ⟨fun _ => ?_, fun c => absurd c ne10⟩) (fun h => ⟨fun c => absurd rfl c, fun _ => ?_⟩)
  · obtain ⟨kb, hkb, ekb⟩ : ∃ kb, kb < 6 ∧ b = nI kb := by
      obtain ⟨j, hj, e⟩ := rg_of (x := b) (n := 5) (by omega) (by omega) (by decide)
      exact ⟨j, by omega, e⟩
    have hb1 : ¬ b = -1 := by rw [ekb]; exact rg_ne1 ⟨kb, Nat.le_refl _, rfl⟩ (by omega)
    rw [w4, w5]
    refine i_isIn (fun q1 q2 => ⟨fun _ => ?_, fun c => absurd c ne10⟩) (fun h => ⟨fun c => absurd rfl c, fun _ => ?_⟩)
    · rw [en] at q2
      obtain ⟨p, hp, ep⟩ : ∃ p, p < n ∧ a = nI p := by
        refine ⟨a.toInt.toNat, by omega, Int32.toInt_inj.mp ?_⟩
        rw [nI_toInt (by omega)]; omega
      have hv : vp_in a 5 := by rw [ep]; exact vp_in_nI (by omega) (by decide)
      have hc : a.toNatClampNeg = p := by rw [ep]; exact nI_clamp (by omega)
      have e5 : (5 * a : Int32) = nI (5 * p) := by rw [ep]; exact (Int32.ofNat_mul 5 p).symm
      have e54 : (5 * a + 4 : Int32) = nI (5 * p + 4) := by rw [e5]; exact nI_add (5 * p) 4
      obtain ⟨⟨r6, r7, -, -, -⟩, ⟨j, hj, ej⟩, -⟩ := wr p (by omega)
      refine ⟨hv, ?_⟩
      rw [hc, r6, ej]
      have model : ∀ (Q : Int32 → St → Prop), (und 6 (nI j) b = true → Q (gA S 16 11 (5 * p)) S) → (und 6 (nI j) b = false → Q (-13) S) → wX6_taken a b S Q := by
        intro Q g1 g0
        unfold wX6_taken
        refine i_in (fun _ _ => ⟨fun _ => ?_, fun c => absurd c ne10⟩) (fun h => absurd ⟨by rw [i64]; omega, by rw [i64]; omega⟩ h)
        refine i_isOne (n := n) hn w5 (fun _ _ => ⟨fun _ => ?_, fun c => absurd c ne10⟩) (fun h => absurd ⟨q1, q2⟩ h)
        rw [e54]
        refine ⟨vp_in_nI (by omega) (by decide), fun x8 e8 => ?_⟩
        rw [nI_clamp (by omega), ej] at e8
        subst e8
        refine ⟨5, i_takenL hb1 4 (nI j) (Tm_ok j (by omega)) (fun u => ?_) (fun u => g0 ?_)⟩
        · rw [e5]
          refine ⟨vp_in_nI (by omega) (by decide), ?_⟩
          rw [nI_clamp (by omega)]
          exact g1 (by rw [ekb] at u ⊢; rw [und_ok j (by omega) kb hkb] at u; exact u)
        · rw [ekb] at u ⊢
          rw [und_ok j (by omega) kb hkb] at u; exact u
      refine i_isUnder (Or.inr ⟨j, by omega, rfl⟩) (fun u => ⟨fun c => absurd c ne10, fun _ => ⟨hv, ?_⟩⟩) (fun u => ⟨fun _ => ?_, fun c => absurd rfl c⟩)
      · rw [r7]
        exact model _ (fun _ => ⟨rfl, hR⟩) (fun u2 => by rw [u] at u2; cases u2)
      · exact model _ (fun u2 => by rw [u] at u2; cases u2) (fun _ => ⟨rfl, hR⟩)
    · rw [en] at h
      unfold wX6_taken
      refine i_in (fun _ _ => ⟨fun _ => ?_, fun c => absurd c ne10⟩) (fun h => absurd ⟨by rw [i64]; omega, by rw [i64]; omega⟩ h)
      exact i_isOne (n := n) hn w5 (fun g1 g2 => absurd ⟨g1, g2⟩ h) (fun _ => ⟨fun c => absurd rfl c, fun _ => ⟨rfl, hR⟩⟩)
  · unfold wX6_taken
    exact i_in (fun g1 g2 => by rw [i64] at g1 g2; omega) (fun _ => ⟨fun c => absurd rfl c, fun _ => ⟨rfl, hR⟩⟩)
