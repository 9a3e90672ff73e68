/-! the reference reads -/
abbrev MW : Type := St → (Int32 → St → Prop) → Prop
def gTm_l5s (ra : MW) (ih : Int32 → St → Prop) (a1 : Int32) (σ : St) (Q : Int32 → St → Prop) : Prop := wX6_isSign 42 σ (fun r4 σ3 => ((r4 = 0 → Q a1 σ3) ∧ (¬ r4 = 0 → wX6_next σ3 (fun σ6 => ra σ6 (fun r8 σ7 => ∀ x9 : Int32, x9 = (a1 * r8) → (ih x9 σ7))))))
def gTm_l5 (ra : MW) (n : Nat) : Int32 → St → (Int32 → St → Prop) → Prop := @Nat.rec (fun _ => Int32 → St → (Int32 → St → Prop) → Prop) (fun _ _ _ => False) (fun _ ih a1 σ Q => gTm_l5s ra (fun a1 σ => ih a1 σ Q) a1 σ Q) n
def gTm (ra : MW) (σ : St) (Q : Int32 → St → Prop) : Prop := ra σ (fun r2 σ1 => ∃ n10 : Nat, gTm_l5 ra n10 r2 σ1 Q)
def gAd_j62 (ra : MW) (s0 : Int32) (σ : St) (K : Int32 → St → Prop) (Q : Int32 → St → Prop) : Prop := (K s0 σ)
def gAd_j39 (ra : MW) (a1 : Int32) (s0 : Int32) (σ : St) (K : Int32 → St → Prop) (Q : Int32 → St → Prop) : Prop := wX6_next σ (fun σ7 => ra σ7 (fun r9 σ8 => ((s0 = 0 → (gAd_j62 ra (a1 - r9) σ8 K Q)) ∧ (¬ s0 = 0 → (gAd_j62 ra (a1 + r9) σ8 K Q)))))
def gAd_j23 (ra : MW) (a1 : Int32) (σ : St) (K : Int32 → St → Prop) (Q : Int32 → St → Prop) : Prop := ((¬ (lg_cmp (gJ σ 16 25) 43) = 0 → (gAd_j39 ra a1 0 σ K Q)) ∧ ((lg_cmp (gJ σ 16 25) 43) = 0 → (gAd_j39 ra a1 1 σ K Q)))
def gAd_l5s (ra : MW) (ih : Int32 → St → Prop) (a1 : Int32) (σ : St) (Q : Int32 → St → Prop) : Prop := wX6_isSign 43 σ (fun r4 σ3 => ((¬ r4 = 0 → (gAd_j23 ra a1 σ3 ih Q)) ∧ (r4 = 0 → wX6_isSign 45 σ3 (fun r12 σ11 => ((r12 = 0 → Q a1 σ11) ∧ (¬ r12 = 0 → (gAd_j23 ra a1 σ11 ih Q)))))))
def gAd_l5 (ra : MW) (n : Nat) : Int32 → St → (Int32 → St → Prop) → Prop := @Nat.rec (fun _ => Int32 → St → (Int32 → St → Prop) → Prop) (fun _ _ _ => False) (fun _ ih a1 σ Q => gAd_l5s ra (fun a1 σ => ih a1 σ Q) a1 σ Q) n
def gAd (ra : MW) (σ : St) (Q : Int32 → St → Prop) : Prop := ra σ (fun r2 σ1 => ∃ n14 : Nat, gAd_l5 ra n14 r2 σ1 Q)
def gBo_j45 (ra : MW) (s0 : Int32) (σ : St) (K : Int32 → St → Prop) (Q : Int32 → St → Prop) : Prop := (K s0 σ)
def gBo_j44 (ra : MW) (σ : St) (K : Int32 → St → Prop) (Q : Int32 → St → Prop) : Prop := (gBo_j45 ra 0 σ K Q)
def gBo_l5s (ra : MW) (ih : Int32 → St → Prop) (a1 : Int32) (σ : St) (Q : Int32 → St → Prop) : Prop := wX6_isWord 97 110 100 0 0 0 0 0 σ (fun r4 σ3 => ((r4 = 0 → Q a1 σ3) ∧ (¬ r4 = 0 → wX6_next σ3 (fun σ6 => ra σ6 (fun r8 σ7 => ((a1 = 0 → (gBo_j44 ra σ7 ih Q)) ∧ (¬ a1 = 0 → ((r8 = 0 → (gBo_j44 ra σ7 ih Q)) ∧ (¬ r8 = 0 → (gBo_j45 ra 1 σ7 ih Q))))))))))
def gBo_l5 (ra : MW) (n : Nat) : Int32 → St → (Int32 → St → Prop) → Prop := @Nat.rec (fun _ => Int32 → St → (Int32 → St → Prop) → Prop) (fun _ _ _ => False) (fun _ ih a1 σ Q => gBo_l5s ra (fun a1 σ => ih a1 σ Q) a1 σ Q) n
def gBo (ra : MW) (σ : St) (Q : Int32 → St → Prop) : Prop := ra σ (fun r2 σ1 => ∃ n11 : Nat, gBo_l5 ra n11 r2 σ1 Q)
def gEi_j44 (ra : MW) (s0 : Int32) (σ : St) (K : Int32 → St → Prop) (Q : Int32 → St → Prop) : Prop := (K s0 σ)
def gEi_j39 (ra : MW) (σ : St) (K : Int32 → St → Prop) (Q : Int32 → St → Prop) : Prop := (gEi_j44 ra 1 σ K Q)
def gEi_l5s (ra : MW) (ih : Int32 → St → Prop) (a1 : Int32) (σ : St) (Q : Int32 → St → Prop) : Prop := wX6_isWord 111 114 0 0 0 0 0 0 σ (fun r4 σ3 => ((r4 = 0 → Q a1 σ3) ∧ (¬ r4 = 0 → wX6_next σ3 (fun σ6 => ra σ6 (fun r8 σ7 => ((¬ a1 = 0 → (gEi_j39 ra σ7 ih Q)) ∧ (a1 = 0 → ((r8 = 0 → (gEi_j44 ra 0 σ7 ih Q)) ∧ (¬ r8 = 0 → (gEi_j39 ra σ7 ih Q))))))))))
def gEi_l5 (ra : MW) (n : Nat) : Int32 → St → (Int32 → St → Prop) → Prop := @Nat.rec (fun _ => Int32 → St → (Int32 → St → Prop) → Prop) (fun _ _ _ => False) (fun _ ih a1 σ Q => gEi_l5s ra (fun a1 σ => ih a1 σ Q) a1 σ Q) n
def gEi (ra : MW) (σ : St) (Q : Int32 → St → Prop) : Prop := ra σ (fun r2 σ1 => ∃ n11 : Nat, gEi_l5 ra n11 r2 σ1 Q)
def gNt_j93 (ra : MW) (rn : MW) (a1 : Int32) (s0 : Int32) (σ : St) (Q : Int32 → St → Prop) : Prop := wX6_next σ (fun σ10 => ra σ10 (fun r12 σ11 => ((s0 = 0 → ((¬ a1 = r12 → Q 0 σ11) ∧ (a1 = r12 → Q 1 σ11))) ∧ (¬ s0 = 0 → ((r12 ≤ a1 → Q 0 σ11) ∧ (¬ r12 ≤ a1 → Q 1 σ11))))))
def gNt_j77 (ra : MW) (rn : MW) (a1 : Int32) (σ : St) (Q : Int32 → St → Prop) : Prop := ((¬ (lg_cmp (gJ σ 16 25) 60) = 0 → (gNt_j93 ra rn a1 0 σ Q)) ∧ ((lg_cmp (gJ σ 16 25) 60) = 0 → (gNt_j93 ra rn a1 1 σ Q)))
def gNt (ra : MW) (rn : MW) (σ : St) (Q : Int32 → St → Prop) : Prop := wX6_isWord 110 111 116 0 0 0 0 0 σ (fun r2 σ1 => ((r2 = 0 → ra σ1 (fun r5 σ4 => wX6_isSign 60 σ4 (fun r7 σ6 => ((¬ r7 = 0 → (gNt_j77 ra rn r5 σ6 Q)) ∧ (r7 = 0 → wX6_isSign 61 σ6 (fun r17 σ16 => ((¬ r17 = 0 → (gNt_j77 ra rn r5 σ16 Q)) ∧ (r17 = 0 → Q r5 σ16)))))))) ∧ (¬ r2 = 0 → wX6_opens σ1 (fun r20 σ19 => ((¬ r20 = 0 → rn σ19 (fun r23 σ22 => ∀ σ24 : St, σ24 = sI σ22 16 26 ((gI σ22 16 26) - 1) → ((¬ r23 = 0 → Q 0 σ24) ∧ (r23 = 0 → Q 1 σ24)))) ∧ (r20 = 0 → Q 0 σ19))))))
def gAt_j157 (ra : MW) (re : MW) (a1 : Int32) (σ : St) (Q : Int32 → St → Prop) : Prop := wX6_fail σ (fun σ9 => Q a1 σ9)
def gAt_j123 (ra : MW) (re : MW) (a1 : Int32) (σ : St) (Q : Int32 → St → Prop) : Prop := ((¬ (gI σ 16 27) = 0 → (gAt_j157 ra re a1 σ Q)) ∧ ((gI σ 16 27) = 0 → ((¬ (gI σ 16 23) = 1 → (gAt_j157 ra re a1 σ Q)) ∧ ((gI σ 16 23) = 1 → wX6_name σ (fun r12 σ11 => ((¬ (gI σ11 16 27) = 0 → Q r12 σ11) ∧ ((gI σ11 16 27) = 0 → wX6_next σ11 (fun σ14 => Q r12 σ14))))))))
def gAt_j71 (ra : MW) (re : MW) (a1 : Int32) (σ : St) (Q : Int32 → St → Prop) : Prop := ∀ σ26 : St, σ26 = sI σ 16 26 ((gI σ 16 26) - 1) → ((¬ (gI σ26 16 27) = 0 → Q a1 σ26) ∧ ((gI σ26 16 27) = 0 → wX6_next σ26 (fun σ28 => Q a1 σ28)))
def gAt (ra : MW) (re : MW) (σ : St) (Q : Int32 → St → Prop) : Prop := wX6_isSign 45 σ (fun r2 σ1 => ((r2 = 0 → wX6_isSign 40 σ1 (fun r5 σ4 => ((r5 = 0 → ((¬ (gI σ4 16 27) = 0 → (gAt_j123 ra re 0 σ4 Q)) ∧ ((gI σ4 16 27) = 0 → ((¬ (gI σ4 16 23) = 2 → (gAt_j123 ra re 0 σ4 Q)) ∧ ((gI σ4 16 23) = 2 → ∀ x16 : Int32, x16 = (((gJ σ4 16 25)).toInt32) → wX6_next σ4 (fun σ17 => Q x16 σ17)))))) ∧ (¬ r5 = 0 → wX6_opens σ4 (fun r19 σ18 => ((r19 = 0 → Q 0 σ18) ∧ (¬ r19 = 0 → re σ18 (fun r22 σ21 => wX6_isSign 41 σ21 (fun r24 σ23 => ((¬ r24 = 0 → (gAt_j71 ra re r22 σ23 Q)) ∧ (r24 = 0 → wX6_fail σ23 (fun σ29 => (gAt_j71 ra re r22 σ29 Q))))))))))))) ∧ (¬ r2 = 0 → wX6_opens σ1 (fun r31 σ30 => ((r31 = 0 → Q 0 σ30) ∧ (¬ r31 = 0 → ra σ30 (fun r34 σ33 => ∀ x35 : Int32, x35 = (-r34) → ∀ σ36 : St, σ36 = sI σ33 16 26 ((gI σ33 16 26) - 1) → Q x35 σ36)))))))
def FrQ (S T : St) : Prop := (∀ f, (f < 22 ∨ 29 ≤ f) → gI T 16 f = gI S 16 f) ∧ (∀ f, gA T 16 f = gA S 16 f) ∧ ∀ f, ¬ f = 25 → gJ T 16 f = gJ S 16 f
theorem FrQ_refl (S : St) : FrQ S S := ⟨fun _ _ => rfl, fun _ => rfl, fun _ _ => rfl⟩
theorem FrQ_trans {A B C : St} (h : FrQ A B) (g : FrQ B C) : FrQ A C := ⟨fun f h1 => (g.1 f h1).trans (h.1 f h1), fun f => (g.2.1 f).trans (h.2.1 f), fun f hf => (g.2.2 f hf).trans (h.2.2 f hf)⟩
theorem FrN_Q {S T : St} (h : FrN S T) : FrQ S T := ⟨fun f hf => h.1 f (by omega) (by omega) (by omega), h.2.1, h.2.2⟩
theorem FrQ_sI {S : St} {f : Nat} {v : Int32} (h : 22 ≤ f) (h2 : f ≤ 28) : FrQ S (sI S 16 f v) := ⟨fun g _ => gI_sIf _ _ _ _ (by omega), fun g => gA_sI _ _ _ _ _ _, fun g _ => gJ_sI _ _ _ _ _ _⟩
def nmS (S : St) : Int32 → Int32 := nmF (gI S 16 14) (gI S 16 15) (gI S 16 16) (gI S 16 17) (gI S 16 18) (gI S 16 19)
theorem nmS_Q {S T : St} (h : FrQ S T) : nmS T = nmS S := by
  unfold nmS
  rw [h.1 14 (by decide), h.1 15 (by decide), h.1 16 (by decide), h.1 17 (by decide), h.1 18 (by decide), h.1 19 (by decide)]
theorem MT_Q {b : Nat → Int32} {n t : Nat} {S T : St} (h : FrQ S T) (hT : MT b n t S) : MT b n t T := ⟨by rw [h.1 20 (by decide)]; exact hT.1, by rw [h.1 21 (by decide)]; exact hT.2.1, fun i hi => by rw [h.2.1]; exact hT.2.2 i hi⟩
/-- the reference's reader stands at p, k are open -/
def MP (b : Nat → Int32) (n t k : Nat) (S : St) (p : Nat) : Prop := MT b n t S ∧ gI S 16 27 = 0 ∧ gI S 16 26 = nI k ∧ MTk b n S (lxA b n p)
def Hy (b : Nat → Int32) (n t : Nat) : Prop := n ≤ 160 ∧ t < 6 ∧ ∀ i, i < n → rg (b i) 255
def MS (b : Nat → Int32) (n t k : Nat) (f : Nat → PR) (w : MW) : Prop := ∀ (S : St) (p : Nat) (Q : Int32 → St → Prop), MP b n t k S p → p ≤ n → (∀ T v, FrQ S T → (f p).1 = true → MP b n t k T (f p).2.2 → Ev (nmS S) (f p).2.1 v → Q v T) → (∀ T v, FrQ S T → (f p).1 = false → ¬ gI T 16 27 = 0 → gI T 16 28 = nI (lxA b n (f p).2.2) → Q v T) → w S Q
theorem kd_4 {b : Nat → Int32} {n a : Nat} (h : kdA b n a = 4) : tkA b n a = 1 := by
  unfold kdA at h
  unfold tkA
  split at h
  · exact absurd h (by decide)
  · next c1 =>
    rw [if_neg c1]
    split at h
    · exact absurd h (by decide)
    · next c2 =>
      rw [if_neg c2]
      split at h
      · next c3 =>
        rw [if_pos c3]
        split at h
        · exact absurd h (by decide)
        · next c4 => rw [if_neg c4]
      · next c3 =>
        rw [if_neg c3]
        split at h
        · exact absurd h (by decide)
        · next c4 => rw [if_neg c4]
/-- what kinds and TOKENS have to do with each other -/
theorem kd_tk {b : Nat → Int32} {n a : Nat} : (kdA b n a = 0 ∧ n ≤ a ∧ tkA b n a = 0) ∨ (kdA b n a = 1 ∧ a < n ∧ isLt (b a) = true ∧ tkA b n a = wtk (okW b a (sp isLt b n a)) 12 ∧ nxA b n a = sp isLt b n a) ∨ (kdA b n a = 2 ∧ a < n ∧ tkA b n a = 2 ∧ ∃ u, u < 10 ^ 8 ∧ nuA b n a = nI u) ∨ (kdA b n a = 3 ∧ a < n ∧ isSg (b a) = true ∧ tkA b n a = b a) ∨ (kdA b n a = 4 ∧ tkA b n a = 1) := by
  by_cases c1 : n ≤ a
  · exact Or.inl ⟨by unfold kdA; rw [if_pos c1], c1, by unfold tkA; rw [if_pos c1]⟩
  · by_cases c2 : isLt (b a) = true
    · exact Or.inr (Or.inl ⟨by unfold kdA; rw [if_neg c1, if_pos c2], by omega, c2, by unfold tkA; rw [if_neg c1, if_pos c2], by unfold nxA; rw [if_neg c1, if_pos c2]⟩)
    · by_cases c3 : isDg (b a) = true
      · by_cases c4 : sp isDg b n a - a ≤ 4
        · refine Or.inr (Or.inr (Or.inl ⟨by unfold kdA; rw [if_neg c1, if_neg c2, if_pos c3, if_pos c4], by omega, by unfold tkA; rw [if_neg c1, if_neg c2, if_pos c3, if_pos c4], ?_⟩))
          exact nuf_rg (b := b) (sp isDg b n a - a) a 0 0 rfl (fun j hj => sp_all (P := isDg) (b := b) (n := n) (p := a) (a + j) (by omega) (by omega)) (Nat.pow_pos (by decide)) (by omega)
        · exact Or.inr (Or.inr (Or.inr (Or.inr ⟨by unfold kdA; rw [if_neg c1, if_neg c2, if_pos c3, if_neg c4], by unfold tkA; rw [if_neg c1, if_neg c2, if_pos c3, if_neg c4]⟩)))
      · by_cases c4 : isSg (b a) = true
        · exact Or.inr (Or.inr (Or.inr (Or.inl ⟨by unfold kdA; rw [if_neg c1, if_neg c2, if_neg c3, if_pos c4], by omega, c4, by unfold tkA; rw [if_neg c1, if_neg c2, if_neg c3, if_pos c4]⟩)))
        · exact Or.inr (Or.inr (Or.inr (Or.inr ⟨by unfold kdA; rw [if_neg c1, if_neg c2, if_neg c3, if_neg c4], by unfold tkA; rw [if_neg c1, if_neg c2, if_neg c3, if_neg c4]⟩)))
theorem isSg_300 {x : Int32} (h : isSg x = true) : ∀ i, i < 12 → ¬ x = nI (300 + i) := by
  unfold isSg at h
  simp only [Bool.or_eq_true, decide_eq_true_iff] at h
  rcases h with ((((((h | h) | h) | h) | h) | h) | h) | h <;> (rw [h]; decide +kernel)
theorem wtk_sg {ok : Nat → Bool} {x : Int32} (h : isSg x = true ∨ x = 0 ∨ x = 2) : ¬ wtk ok 12 = x := by
  intro q
  rcases wtk_in ok 12 (Nat.le_refl _) with e | ⟨i, hi, -, e⟩
  · rw [q] at e
    rcases h with h | h | h
    · exact (isSg_lt h).2.2.2 e
    · rw [h] at e; exact absurd e (by decide)
    · rw [h] at e; exact absurd e (by decide)
  · rw [q] at e
    rcases h with h | h | h
    · exact isSg_300 h i hi e
    · rw [h, show (0 : Int32) = nI 0 from rfl, nI_eq (by decide) (by omega)] at e; omega
    · rw [h, show (2 : Int32) = nI 2 from rfl, nI_eq (by decide) (by omega)] at e; omega
theorem toI64_inj {x y : Int32} (h : x.toInt64 = y.toInt64) : x = y := by
  have := congrArg Int64.toInt h
  rw [i64, i64] at this
  exact Int32.toInt_inj.mp this
theorem sg_iff {b : Nat → Int32} {n a : Nat} {s : Int32} (hs : isSg s = true) : tkA b n a = s ↔ (kdA b n a = 3 ∧ b a = s) := by
  have h1 := isSg_lt hs
  rcases kd_tk (b := b) (n := n) (a := a) with ⟨k, _, e⟩ | ⟨k, _, _, e, _⟩ | ⟨k, _, e, _⟩ | ⟨k, _, _, e⟩ | ⟨k, e⟩
  · rw [k, e]; exact ⟨fun q => absurd q.symm h1.2.2.1, fun q => absurd q.1 (by decide)⟩
  · rw [k, e]; exact ⟨fun q => absurd q (wtk_sg (Or.inl hs)), fun q => absurd q.1 (by decide)⟩
  · rw [k, e]; exact ⟨fun q => absurd q.symm h1.2.1, fun q => absurd q.1 (by decide)⟩
  · rw [k, e]; exact ⟨fun q => ⟨rfl, q⟩, fun q => q.2⟩
  · rw [k, e]; exact ⟨fun q => absurd q.symm h1.2.2.2, fun q => absurd q.1 (by decide)⟩
theorem m_sign {b : Nat → Int32} {n t k p : Nat} {S : St} {s : Int32} {Q : Int32 → St → Prop} (h : MP b n t k S p) (hs : isSg s = true) (h1 : tkP b n p = s → Q 1 S) (h0 : ¬ tkP b n p = s → Q 0 S) : wX6_isSign s S Q := by
  have hi := sg_iff (b := b) (n := n) (a := lxA b n p) hs
  refine ⟨fun q => absurd h.2.1 q, fun _ => ?_⟩
  rw [h.2.2.2.1]
  refine ⟨fun q => h0 (fun z => q (hi.mp z).1), fun q => ?_⟩
  rw [h.2.2.2.2.2.2.2 q, lg_eq0]
  exact ⟨fun z => h0 (fun y => z (by rw [(hi.mp y).2])), fun z => h1 (hi.mpr ⟨q, toI64_inj z⟩)⟩
theorem m_sign_b {S : St} {s : Int32} {Q : Int32 → St → Prop} (h : ¬ gI S 16 27 = 0) (h0 : Q 0 S) : wX6_isSign s S Q := ⟨fun _ => h0, fun q => absurd q h⟩
theorem m_fail {b : Nat → Int32} {n t k p : Nat} {S : St} {Q : St → Prop} (h : MP b n t k S p) (K : ∀ T, FrQ S T → ¬ gI T 16 27 = 0 → gI T 16 28 = nI (lxA b n p) → Q T) : wX6_fail S Q := by
  refine ⟨fun q => absurd h.2.1 q, fun _ σ2 e2 σ3 e3 => K σ3 (by rw [e3]; exact FrQ_trans (by rw [e2]; exact FrQ_sI (by decide) (by decide)) (FrQ_sI (by decide) (by decide))) ?_ ?_⟩
  · rw [e3, gI_sIf _ _ _ _ (by decide), e2, gI_sIs]; decide
  · rw [e3, gI_sIs, e2, gI_sIf _ _ _ _ (by decide)]; exact h.2.2.2.2.1
theorem m_fail_b {S : St} {Q : St → Prop} (h : ¬ gI S 16 27 = 0) (h0 : Q S) : wX6_fail S Q := ⟨fun _ => h0, fun q => absurd q h⟩
theorem m_nx {b : Nat → Int32} {n t k p : Nat} {S : St} {Q : St → Prop} (hy : Hy b n t) (h : MP b n t k S p) (hp : p ≤ n) (ht : ¬ tkP b n p = 1) (K : ∀ T, FrQ S T → MP b n t k T (nxP b n p) → Q T) : wX6_next S Q := by
  have h22 : gI S 16 22 = nI (nxP b n p) := h.2.2.2.2.2.1 (fun q => ht (kd_4 q))
  refine m_next hy.1 hy.2.1 hy.2.2 (nx_le hp).2 h.1 h22 (fun T F hT => K T (FrN_Q F) ⟨MT_N F h.1, ?_, ?_, hT⟩)
  · rw [F.1 27 (by decide) (by decide) (by decide)]; exact h.2.1
  · rw [F.1 26 (by decide) (by decide) (by decide)]; exact h.2.2.1
theorem MP_open {b : Nat → Int32} {n t k p : Nat} {S : St} (k' : Nat) (h : MP b n t k S p) : MP b n t k' (sI S 16 26 (nI k')) p := by
  refine ⟨MT_Q (FrQ_sI (by decide) (by decide)) h.1, by rw [gI_sIf _ _ _ _ (by decide)]; exact h.2.1, gI_sIs _ _ _ _, ?_⟩
  have h9 := h.2.2.2
  unfold MTk at h9 ⊢
  rw [gI_sIf _ _ _ _ (by decide), gI_sIf _ _ _ _ (by decide), gI_sIf _ _ _ _ (by decide), gJ_sI]
  exact h9
theorem m_opens {b : Nat → Int32} {n t k p : Nat} {S : St} {Q : Int32 → St → Prop} (hy : Hy b n t) (hk : k < 5) (h : MP b n t k S p) (hp : p ≤ n) (ht : ¬ tkP b n p = 1) (K : ∀ T, FrQ S T → MP b n t (k + 1) T (nxP b n p) → Q 1 T) : wX6_opens S Q := by
  unfold wX6_opens
  rw [h.2.2.1, show (5 : Int32) = nI 5 from rfl, nI_eq (by omega) (by decide), nI_1]
  refine ⟨fun _ σ2 e2 => ?_, fun q => absurd q (by omega)⟩
  have h2 := MP_open (k + 1) h
  rw [← e2] at h2
  exact m_nx hy h2 hp ht (fun T F hT => K T (FrQ_trans (by rw [e2]; exact FrQ_sI (by decide) (by decide)) F) hT)
theorem m_opens5 {b : Nat → Int32} {n t p : Nat} {S : St} {Q : Int32 → St → Prop} (h : MP b n t 5 S p) (K : ∀ T, FrQ S T → ¬ gI T 16 27 = 0 → gI T 16 28 = nI (lxA b n p) → Q 0 T) : wX6_opens S Q := by
  unfold wX6_opens
  rw [h.2.2.1]
  exact ⟨fun q => absurd rfl q, fun _ => m_fail h K⟩
/-! words -/
theorem str_ne : ∀ i, i < 12 → ∀ j, j < 12 → (∀ k, k < 8 → strAt i k = strAt j k) → i = j := by decide +kernel
theorem wtk_hit {ok : Nat → Bool} : ∀ (m i : Nat), i < m → ok i = true → ¬ wtk ok m = 1 ∨ 12 < m := by
  intro m
  induction m with
  | zero => intro i hi; omega
  | succ m ih =>
    intro i hi h
    by_cases hm : 12 < m + 1
    · exact Or.inr hm
    · refine Or.inl ?_
      unfold wtk
      by_cases c : ok m = true
      · rw [if_pos c]
        intro q
        rw [show (1 : Int32) = nI 1 from rfl, nI_eq (by omega) (by decide)] at q
        omega
      · rw [if_neg c]
        have : ¬ i = m := fun q => c (by rw [← q]; exact h)
        rcases ih i (by omega) h with z | z
        · exact z
        · omega
theorem w_iff {b : Nat → Int32} {a e i : Nat} (hi : i < 12) : wtk (okW b a e) 12 = nI (300 + i) ↔ okW b a e i = true := by
  constructor
  · intro h
    rcases wtk_in (okW b a e) 12 (Nat.le_refl _) with q | ⟨j, hj, h1, h2⟩
    · rw [q, show (1 : Int32) = nI 1 from rfl, nI_eq (by decide) (by omega)] at h
      omega
    · rw [h2, nI_eq (by omega) (by omega)] at h
      have : j = i := by omega
      rw [← this]; exact h1
  · intro h
    rcases wtk_in (okW b a e) 12 (Nat.le_refl _) with q | ⟨j, hj, h1, h2⟩
    · rcases wtk_hit 12 i hi h with z | z
      · exact absurd q z
      · omega
    · have e1 := (okW_t.mp h).2
      have e2 := (okW_t.mp h1).2
      have : i = j := str_ne i hi j hj (fun k hk => (e1 k hk).symm.trans (e2 k hk))
      rw [this]; exact h2
theorem m_let {b : Nat → Int32} {n t a e j : Nat} {S : St} {x : Int32} {Q : Int32 → St → Prop} (hy : Hy b n t) (hT : MT b n t S) (he : e ≤ n) (ha : a ≤ n) (hj : j < 8) (e22 : gI S 16 22 = nI e) (e24 : gI S 16 24 = nI a) (h1 : ltA b a e j = x → Q 1 S) (h0 : ¬ ltA b a e j = x → Q 0 S) : wX6_isLetter (nI j) x S Q := by
  have hn := hy.1
  unfold wX6_isLetter
  unfold ltA at h1 h0
  rw [e22, e24, nI_add, nI_leI (by omega) (by omega)]
  refine ⟨fun c => ?_, fun c => i_byteAt hn hy.2.1 hT (by omega) ?_⟩
  · rw [if_neg (by omega)] at h1 h0
    exact ⟨fun q => h0 (fun z => q z.symm), fun q => h1 q.symm⟩
  · rw [if_pos (by omega)] at h1 h0
    have : bxF b n (a + j) = b (a + j) := if_pos (by omega)
    rw [this]
    exact ⟨h0, h1⟩
theorem m_word {b : Nat → Int32} {n t k p i : Nat} {S : St} {Q : Int32 → St → Prop} {q0 q1 q2 q3 q4 q5 q6 q7 : Int32} (hy : Hy b n t) (h : MP b n t k S p) (hp : p ≤ n) (hi : i < 12) (hq : strAt i 0 = q0 ∧ strAt i 1 = q1 ∧ strAt i 2 = q2 ∧ strAt i 3 = q3 ∧ strAt i 4 = q4 ∧ strAt i 5 = q5 ∧ strAt i 6 = q6 ∧ strAt i 7 = q7) (h1 : tkP b n p = nI (300 + i) → Q 1 S) (h0 : ¬ tkP b n p = nI (300 + i) → Q 0 S) : wX6_isWord q0 q1 q2 q3 q4 q5 q6 q7 S Q := by
  have hn := hy.1
  have hl := lx_le (b := b) hp
  unfold tkP at h1 h0
  refine ⟨fun q => absurd h.2.1 q, fun _ => ?_⟩
  rw [h.2.2.2.1]
  rcases kd_tk (b := b) (n := n) (a := lxA b n p) with ⟨e, _, et⟩ | ⟨e, ha, hw, et, en⟩ | ⟨e, _, et, _⟩ | ⟨e, _, hs, et⟩ | ⟨e, et⟩
  · rw [e]
    refine ⟨fun _ => h0 (fun q => ?_), fun q => absurd q (by decide)⟩
    rw [et, show (0 : Int32) = nI 0 from rfl, nI_eq (by decide) (by omega)] at q
    omega
  · rw [e]
    refine ⟨fun q => absurd rfl q, fun _ => ?_⟩
    have e22 : gI S 16 22 = nI (sp isLt b n (lxA b n p)) := by rw [← en]; exact h.2.2.2.2.2.1 (by rw [e]; decide)
    have e24 : gI S 16 24 = nI (lxA b n p) := h.2.2.2.2.1
    have hle := sp_le (P := isLt) (b := b) hl.2
    rw [e22, e24, show (8 : Int32) = nI 8 from rfl, nI_add, nI_ltI (by omega) (by omega)]
    rw [et] at h1 h0
    rw [w_iff hi, okW_t] at h1 h0
    have lt := fun (j : Nat) (x : Int32) (Q' : Int32 → St → Prop) (hj : j < 8) (g1 : ltA b (lxA b n p) (sp isLt b n (lxA b n p)) j = x → Q' 1 S) (g0 : ¬ ltA b (lxA b n p) (sp isLt b n (lxA b n p)) j = x → Q' 0 S) => m_let (Q := Q') hy h.1 hle.2 hl.2 hj e22 e24 g1 g0
    obtain ⟨a0, a1, a2, a3, a4, a5, a6, a7⟩ := hq
    refine ⟨fun c => h0 (fun z => by omega), fun c => ?_⟩
    refine lt 0 _ _ (by decide) (fun c0 => ⟨fun q => absurd q ne10, fun _ => ?_⟩) (fun c0 => ⟨fun _ => h0 (fun z => c0 ((z.2 0 (by decide)).trans a0)), fun q => absurd rfl q⟩)
    refine lt 1 _ _ (by decide) (fun c1 => ⟨fun q => absurd q ne10, fun _ => ?_⟩) (fun c0 => ⟨fun _ => h0 (fun z => c0 ((z.2 1 (by decide)).trans a1)), fun q => absurd rfl q⟩)
    refine lt 2 _ _ (by decide) (fun c2 => ⟨fun q => absurd q ne10, fun _ => ?_⟩) (fun c0 => ⟨fun _ => h0 (fun z => c0 ((z.2 2 (by decide)).trans a2)), fun q => absurd rfl q⟩)
    refine lt 3 _ _ (by decide) (fun c3 => ⟨fun q => absurd q ne10, fun _ => ?_⟩) (fun c0 => ⟨fun _ => h0 (fun z => c0 ((z.2 3 (by decide)).trans a3)), fun q => absurd rfl q⟩)
    refine lt 4 _ _ (by decide) (fun c4 => ⟨fun q => absurd q ne10, fun _ => ?_⟩) (fun c0 => ⟨fun _ => h0 (fun z => c0 ((z.2 4 (by decide)).trans a4)), fun q => absurd rfl q⟩)
    refine lt 5 _ _ (by decide) (fun c5 => ⟨fun q => absurd q ne10, fun _ => ?_⟩) (fun c0 => ⟨fun _ => h0 (fun z => c0 ((z.2 5 (by decide)).trans a5)), fun q => absurd rfl q⟩)
    refine lt 6 _ _ (by decide) (fun c6 => ⟨fun q => absurd q ne10, fun _ => ?_⟩) (fun c0 => ⟨fun _ => h0 (fun z => c0 ((z.2 6 (by decide)).trans a6)), fun q => absurd rfl q⟩)
    refine lt 7 _ _ (by decide) (fun c7 => ⟨fun q => absurd q ne10, fun _ => h1 ⟨by omega, fun j hj => ?_⟩⟩) (fun c0 => ⟨fun _ => h0 (fun z => c0 ((z.2 7 (by decide)).trans a7)), fun q => absurd rfl q⟩)
    have hj8 : j = 0 ∨ j = 1 ∨ j = 2 ∨ j = 3 ∨ j = 4 ∨ j = 5 ∨ j = 6 ∨ j = 7 := by omega
    rcases hj8 with e | e | e | e | e | e | e | e <;> rw [e]
    · exact c0.trans a0.symm
    · exact c1.trans a1.symm
    · exact c2.trans a2.symm
    · exact c3.trans a3.symm
    · exact c4.trans a4.symm
    · exact c5.trans a5.symm
    · exact c6.trans a6.symm
    · exact c7.trans a7.symm
  · rw [e]
    refine ⟨fun _ => h0 (fun q => ?_), fun q => absurd q (by decide)⟩
    rw [et, show (2 : Int32) = nI 2 from rfl, nI_eq (by decide) (by omega)] at q
    omega
  · rw [e]
    refine ⟨fun _ => h0 (fun q => ?_), fun q => absurd q (by decide)⟩
    rw [et] at q
    exact isSg_300 hs i hi q
  · rw [e]
    refine ⟨fun _ => h0 (fun q => ?_), fun q => absurd q (by decide)⟩
    rw [et, show (1 : Int32) = nI 1 from rfl, nI_eq (by decide) (by omega)] at q
    omega
theorem m_word_b {S : St} {Q : Int32 → St → Prop} {q0 q1 q2 q3 q4 q5 q6 q7 : Int32} (h : ¬ gI S 16 27 = 0) (h0 : Q 0 S) : wX6_isWord q0 q1 q2 q3 q4 q5 q6 q7 S Q := ⟨fun _ => h0, fun q => absurd q h⟩
/-- what a name says -/
theorem m_name {b : Nat → Int32} {n t k p : Nat} {S : St} {Q : Int32 → St → Prop} (hy : Hy b n t) (h : MP b n t k S p) (hp : p ≤ n) (h1 : ¬ tkP b n p < 306 → Q (nmS S (-1 - (tkP b n p - 306))) S) (h0 : tkP b n p < 306 → ∀ T, FrQ S T → ¬ gI T 16 27 = 0 → gI T 16 28 = nI (lxA b n p) → Q 0 T) : wX6_name S Q := by
  have hit : ∀ i, i < 6 → tkP b n p = nI (300 + (6 + i)) → ¬ tkP b n p < 306 := by
    intro i hi e
    rw [e, show (306 : Int32) = nI 306 from rfl, nI_ltI (by omega) (by decide)]
    omega
  refine m_word (i := 6) hy h hp (by decide) (by decide) (fun t => ⟨fun q => absurd q ne10, fun _ => ?_⟩) (fun t0 => ⟨fun _ => ?_, fun q => absurd rfl q⟩)
  · have h9 := h1 (hit 0 (by decide) t); rw [t] at h9; exact h9
  refine m_word (i := 7) hy h hp (by decide) (by decide) (fun t => ⟨fun q => absurd q ne10, fun _ => ?_⟩) (fun t1 => ⟨fun _ => ?_, fun q => absurd rfl q⟩)
  · have h9 := h1 (hit 1 (by decide) t); rw [t] at h9; exact h9
  refine m_word (i := 8) hy h hp (by decide) (by decide) (fun t => ⟨fun q => absurd q ne10, fun _ => ?_⟩) (fun t2 => ⟨fun _ => ?_, fun q => absurd rfl q⟩)
  · have h9 := h1 (hit 2 (by decide) t); rw [t] at h9; exact h9
  refine m_word (i := 9) hy h hp (by decide) (by decide) (fun t => ⟨fun q => absurd q ne10, fun _ => ?_⟩) (fun t3 => ⟨fun _ => ?_, fun q => absurd rfl q⟩)
  · have h9 := h1 (hit 3 (by decide) t); rw [t] at h9; exact h9
  refine m_word (i := 10) hy h hp (by decide) (by decide) (fun t => ⟨fun q => absurd q ne10, fun _ => ?_⟩) (fun t4 => ⟨fun _ => ?_, fun q => absurd rfl q⟩)
  · have h9 := h1 (hit 4 (by decide) t); rw [t] at h9; exact h9
  refine m_word (i := 11) hy h hp (by decide) (by decide) (fun t => ⟨fun q => absurd q ne10, fun _ => ?_⟩) (fun t5 => ⟨fun _ => ?_, fun q => absurd rfl q⟩)
  · have h9 := h1 (hit 5 (by decide) t); rw [t] at h9; exact h9
  have hlt : tkP b n p < 306 := by
    unfold tkP at t0 t1 t2 t3 t4 t5 ⊢
    rcases kd_tk (b := b) (n := n) (a := lxA b n p) with ⟨e, _, et⟩ | ⟨e, ha, hw, et, en⟩ | ⟨e, _, et, _⟩ | ⟨e, _, hs, et⟩ | ⟨e, et⟩
    · rw [et]; decide
    · rw [et] at t0 t1 t2 t3 t4 t5 ⊢
      rcases wtk_in (okW b (lxA b n p) (sp isLt b n (lxA b n p))) 12 (Nat.le_refl _) with q | ⟨j, hj, -, q⟩
      · rw [q]; decide
      · rw [q] at t0 t1 t2 t3 t4 t5 ⊢
        rw [show (306 : Int32) = nI 306 from rfl, nI_ltI (by omega) (by decide)]
        rw [nI_eq (by omega) (by omega)] at t0 t1 t2 t3 t4 t5
        omega
    · rw [et]; decide
    · rw [et]; exact (isSg_lt hs).1
    · rw [et]; decide
  exact m_fail h (h0 hlt)
