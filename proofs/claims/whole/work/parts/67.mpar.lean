/-! the reference's reader = the pure reader -/
theorem m_loopG {b : Nat → Int32} {n t k : Nat} {f : Nat → PR} {is : Int32 → Bool} {ac : Int32 → Int32} {L : Nat → Int32 → St → Prop} {Q : Int32 → St → Prop} {S : St} {p0 : Nat} (hn : n ≤ 160) (hi : is 0 = false) (ha : ∀ x, ac x ≤ -20) (hg : Gd n f)
    (hno : ∀ m v T p, MP b n t k T p → p ≤ n → is (tkP b n p) = false → Q v T → L (m + 1) v T)
    (hye : ∀ m v T p, MP b n t k T p → p ≤ n → is (tkP b n p) = true → (∀ T' w, FrQ T T' → (f (nxP b n p)).1 = true → MP b n t k T' (f (nxP b n p)).2.2 → Ev (nmS T) (f (nxP b n p)).2.1 w → L m (op2 (ac (tkP b n p)) v w) T') → (∀ T' u, FrQ T T' → (f (nxP b n p)).1 = false → ¬ gI T' 16 27 = 0 → gI T' 16 28 = nI (lxA b n (f (nxP b n p)).2.2) → L m u T') → L (m + 1) v T)
    (hbd : ∀ m v T, ¬ gI T 16 27 = 0 → Q v T → L (m + 1) v T)
    (K1 : ∀ T v, FrQ S T → (pLo (tkP b n) (nxP b n) is ac 160 f p0).1 = true → MP b n t k T (pLo (tkP b n) (nxP b n) is ac 160 f p0).2.2 → Ev (nmS S) (pLo (tkP b n) (nxP b n) is ac 160 f p0).2.1 v → Q v T)
    (K0 : ∀ T v, FrQ S T → (pLo (tkP b n) (nxP b n) is ac 160 f p0).1 = false → ¬ gI T 16 27 = 0 → gI T 16 28 = nI (lxA b n (pLo (tkP b n) (nxP b n) is ac 160 f p0).2.2) → Q v T) :
    ∀ (m : Nat) (r : PR) (v : Int32) (T : St), r.1 = true → 160 ≤ m + r.2.2 → r.2.2 ≤ n → MP b n t k T r.2.2 → Ev (nmS S) r.2.1 v → FrQ S T → lpP (tkP b n) (nxP b n) is ac f m r = pLo (tkP b n) (nxP b n) is ac 160 f p0 → L (m + 1) v T := by
  intro m
  induction m with
  | zero =>
    intro r v T hr h1 h2 hM hE F er
    have er' : r = pLo (tkP b n) (nxP b n) is ac 160 f p0 := er
    refine hno 0 v T r.2.2 hM h2 (by rw [tk_end (by omega)]; exact hi) ?_
    rw [← er'] at K1
    exact K1 T v F hr hM hE
  | succ m ih =>
    intro r v T hr h1 h2 hM hE F er
    unfold lpP at er
    by_cases c : is (tkP b n r.2.2) = true
    · rw [if_pos (by rw [hr, c]; rfl)] at er
      have hne : ¬ tkP b n r.2.2 = 0 := fun q => by rw [q, hi] at c; exact Bool.false_ne_true c
      have hx := (tk_lt (b := b) h2 hne).2
      have hgp := hg (nxP b n r.2.2) (nx_le h2).2
      refine hye (m + 1) v T r.2.2 hM h2 c (fun T' w F' e1 hM' hE' => ?_) (fun T' u F' e0 hb hf => ?_)
      · rw [nmS_Q F] at hE'
        exact ih ((f (nxP b n r.2.2)).1, r.2.1 ++ ((f (nxP b n r.2.2)).2.1 ++ [ac (tkP b n r.2.2)]), (f (nxP b n r.2.2)).2.2) (op2 (ac (tkP b n r.2.2)) v w) T' e1 (by show 160 ≤ m + (f (nxP b n r.2.2)).2.2; omega) hgp.2.1 hM' (Ev_2 hE hE' (ha _)) (FrQ_trans F F') er
      · have e9 : lpP (tkP b n) (nxP b n) is ac f m ((f (nxP b n r.2.2)).1, r.2.1 ++ ((f (nxP b n r.2.2)).2.1 ++ [ac (tkP b n r.2.2)]), (f (nxP b n r.2.2)).2.2) = ((f (nxP b n r.2.2)).1, r.2.1 ++ ((f (nxP b n r.2.2)).2.1 ++ [ac (tkP b n r.2.2)]), (f (nxP b n r.2.2)).2.2) := by
          cases m with
          | zero => rfl
          | succ m => unfold lpP; rw [if_neg (by rw [e0]; simp)]
        rw [e9] at er
        rw [← er] at K0
        exact hbd m u T' hb (K0 T' u (FrQ_trans F F') e0 hb hf)
    · have c' : is (tkP b n r.2.2) = false := by cases z : is (tkP b n r.2.2); rfl; exact absurd z c
      rw [if_neg (by rw [c']; simp)] at er
      rw [← er] at K1
      exact hno (m + 1) v T r.2.2 hM h2 c' (K1 T v F hr hM hE)
/-- a loop from its first ONE on -/
theorem m_loopS {b : Nat → Int32} {n t k : Nat} {f : Nat → PR} {is : Int32 → Bool} {ac : Int32 → Int32} {w : MW} {L : Nat → Int32 → St → (Int32 → St → Prop) → Prop} (hn : n ≤ 160) (hi : is 0 = false) (ha : ∀ x, ac x ≤ -20) (hg : Gd n f) (hw : MS b n t k f w)
    (hno : ∀ Q m v T p, MP b n t k T p → p ≤ n → is (tkP b n p) = false → Q v T → L (m + 1) v T Q)
    (hye : ∀ Q m v T p, MP b n t k T p → p ≤ n → is (tkP b n p) = true → (∀ T' w, FrQ T T' → (f (nxP b n p)).1 = true → MP b n t k T' (f (nxP b n p)).2.2 → Ev (nmS T) (f (nxP b n p)).2.1 w → L m (op2 (ac (tkP b n p)) v w) T' Q) → (∀ T' u, FrQ T T' → (f (nxP b n p)).1 = false → ¬ gI T' 16 27 = 0 → gI T' 16 28 = nI (lxA b n (f (nxP b n p)).2.2) → L m u T' Q) → L (m + 1) v T Q)
    (hbd : ∀ Q m v T, ¬ gI T 16 27 = 0 → Q v T → L (m + 1) v T Q) : MS b n t k (pLo (tkP b n) (nxP b n) is ac 160 f) (fun σ Q => w σ (fun r2 σ1 => ∃ j : Nat, L j r2 σ1 Q)) := by
  intro S p Q hM hp K1 K0
  refine hw S p _ hM hp (fun T v F e1 hT hE => ⟨161, ?_⟩) (fun T v F e0 hb hf => ⟨1, ?_⟩)
  · exact m_loopG (L := fun j v T => L j v T Q) (S := S) (p0 := p) hn hi ha hg (hno Q) (hye Q) (hbd Q) K1 K0 160 (f p) v T e1 (by omega) (hg p hp).2.1 hT hE F rfl
  · have e9 : pLo (tkP b n) (nxP b n) is ac 160 f p = f p := by
      show lpP (tkP b n) (nxP b n) is ac f (159 + 1) (f p) = f p
      unfold lpP; rw [if_neg (by rw [e0]; simp)]
    rw [e9] at K0
    exact hbd Q 0 v T hb (K0 T v F e0 hb hf)
theorem o27 (v w : Int32) : op2 (-27) v w = v * w := rfl
theorem o26 (v w : Int32) : op2 (-26) v w = v - w := rfl
theorem o25 (v w : Int32) : op2 (-25) v w = v + w := rfl
theorem o24 (v w : Int32) : op2 (-24) v w = if v = w then 1 else 0 := rfl
theorem o23 (v w : Int32) : op2 (-23) v w = if w ≤ v then 0 else 1 := rfl
theorem o22 (v w : Int32) : op2 (-22) v w = if v = 0 then 0 else if w = 0 then 0 else 1 := rfl
theorem o21 (v w : Int32) : op2 (-21) v w = if v = 0 then (if w = 0 then 0 else 1) else 1 := rfl
theorem gTm_1 {ra : MW} {n : Nat} {a0 : Int32} {σ : St} {Q : (Int32 → St → Prop)} (h : gTm_l5s ra (fun a0 σ => gTm_l5 ra n a0 σ Q) a0 σ Q) : gTm_l5 ra (n + 1) a0 σ Q := h
theorem gAd_1 {ra : MW} {n : Nat} {a0 : Int32} {σ : St} {Q : (Int32 → St → Prop)} (h : gAd_l5s ra (fun a0 σ => gAd_l5 ra n a0 σ Q) a0 σ Q) : gAd_l5 ra (n + 1) a0 σ Q := h
theorem gBo_1 {ra : MW} {n : Nat} {a0 : Int32} {σ : St} {Q : (Int32 → St → Prop)} (h : gBo_l5s ra (fun a0 σ => gBo_l5 ra n a0 σ Q) a0 σ Q) : gBo_l5 ra (n + 1) a0 σ Q := h
theorem gEi_1 {ra : MW} {n : Nat} {a0 : Int32} {σ : St} {Q : (Int32 → St → Prop)} (h : gEi_l5s ra (fun a0 σ => gEi_l5 ra n a0 σ Q) a0 σ Q) : gEi_l5 ra (n + 1) a0 σ Q := h
theorem m_term {b : Nat → Int32} {n t k : Nat} {f : Nat → PR} {w : MW} (hy : Hy b n t) (hg : Gd n f) (hw : MS b n t k f w) : MS b n t k (pLo (tkP b n) (nxP b n) isT acT 160 f) (gTm w) := by
  refine m_loopS (L := gTm_l5 w) hy.1 (by decide) acT_le hg hw (fun Q m v T p hM hp hi hQ => ?_) (fun Q m v T p hM hp hi k1 k0 => ?_) (fun Q m v T hb hQ => ?_)
  · apply gTm_1
    unfold gTm_l5s
    have hi' : ¬ tkP b n p = 42 := fun q => by rw [q] at hi; exact absurd hi (by decide)
    exact m_sign hM (by decide) (fun q => absurd q hi') (fun _ => ⟨fun _ => hQ, fun q => absurd rfl q⟩)
  · apply gTm_1
    unfold gTm_l5s
    have hi' : tkP b n p = 42 := of_decide_eq_true hi
    refine m_sign hM (by decide) (fun _ => ⟨fun q => absurd q ne10, fun _ => ?_⟩) (fun q => absurd hi' q)
    refine m_nx hy hM hp (by rw [hi']; decide) (fun U FU hU => ?_)
    refine hw U (nxP b n p) _ hU (nx_le hp).2 (fun T' u F e1 h2 hE x9 e9 => ?_) (fun T' u F e0 h2 hf x9 e9 => k0 T' x9 (FrQ_trans FU F) e0 h2 hf)
    rw [nmS_Q FU] at hE
    rw [e9]
    exact k1 T' u (FrQ_trans FU F) e1 h2 hE
  · apply gTm_1
    unfold gTm_l5s
    exact m_sign_b hb ⟨fun _ => hQ, fun q => absurd rfl q⟩
theorem m_both {b : Nat → Int32} {n t k : Nat} {f : Nat → PR} {w : MW} (hy : Hy b n t) (hg : Gd n f) (hw : MS b n t k f w) : MS b n t k (pLo (tkP b n) (nxP b n) isB acB 160 f) (gBo w) := by
  refine m_loopS (L := gBo_l5 w) hy.1 (by decide) acB_le hg hw (fun Q m v T p hM hp hi hQ => ?_) (fun Q m v T p hM hp hi k1 k0 => ?_) (fun Q m v T hb hQ => ?_)
  · apply gBo_1
    unfold gBo_l5s
    have hi' : ¬ tkP b n p = nI (300 + 4) := fun q => by rw [q] at hi; exact absurd hi (by decide)
    exact m_word (i := 4) hy hM hp (by decide) (by decide) (fun q => absurd q hi') (fun _ => ⟨fun _ => hQ, fun q => absurd rfl q⟩)
  · apply gBo_1
    unfold gBo_l5s
    have hi' : tkP b n p = nI (300 + 4) := of_decide_eq_true hi
    refine m_word (i := 4) hy hM hp (by decide) (by decide) (fun _ => ⟨fun q => absurd q ne10, fun _ => ?_⟩) (fun q => absurd hi' q)
    refine m_nx hy hM hp (by rw [hi']; decide) (fun U FU hU => ?_)
    refine hw U (nxP b n p) _ hU (nx_le hp).2 (fun T' u F e1 h2 hE => ?_) (fun T' u F e0 h2 hf => ?_)
    · rw [nmS_Q FU] at hE
      have h9 := k1 T' u (FrQ_trans FU F) e1 h2 hE
      unfold acB at h9
      rw [o22] at h9
      refine ⟨fun c => ?_, fun c => ⟨fun d => ?_, fun d => ?_⟩⟩
      · rw [if_pos c] at h9; exact h9
      · rw [if_neg c, if_pos d] at h9; exact h9
      · rw [if_neg c, if_neg d] at h9; exact h9
    · have h9 := fun x => k0 T' x (FrQ_trans FU F) e0 h2 hf
      exact ⟨fun c => h9 _, fun c => ⟨fun d => h9 _, fun d => h9 _⟩⟩
  · apply gBo_1
    unfold gBo_l5s
    exact m_word_b hb ⟨fun _ => hQ, fun q => absurd rfl q⟩
theorem m_either {b : Nat → Int32} {n t k : Nat} {f : Nat → PR} {w : MW} (hy : Hy b n t) (hg : Gd n f) (hw : MS b n t k f w) : MS b n t k (pLo (tkP b n) (nxP b n) isE acE 160 f) (gEi w) := by
  refine m_loopS (L := gEi_l5 w) hy.1 (by decide) acE_le hg hw (fun Q m v T p hM hp hi hQ => ?_) (fun Q m v T p hM hp hi k1 k0 => ?_) (fun Q m v T hb hQ => ?_)
  · apply gEi_1
    unfold gEi_l5s
    have hi' : ¬ tkP b n p = nI (300 + 3) := fun q => by rw [q] at hi; exact absurd hi (by decide)
    exact m_word (i := 3) hy hM hp (by decide) (by decide) (fun q => absurd q hi') (fun _ => ⟨fun _ => hQ, fun q => absurd rfl q⟩)
  · apply gEi_1
    unfold gEi_l5s
    have hi' : tkP b n p = nI (300 + 3) := of_decide_eq_true hi
    refine m_word (i := 3) hy hM hp (by decide) (by decide) (fun _ => ⟨fun q => absurd q ne10, fun _ => ?_⟩) (fun q => absurd hi' q)
    refine m_nx hy hM hp (by rw [hi']; decide) (fun U FU hU => ?_)
    refine hw U (nxP b n p) _ hU (nx_le hp).2 (fun T' u F e1 h2 hE => ?_) (fun T' u F e0 h2 hf => ?_)
    · rw [nmS_Q FU] at hE
      have h9 := k1 T' u (FrQ_trans FU F) e1 h2 hE
      unfold acE at h9
      rw [o21] at h9
      refine ⟨fun c => ?_, fun c => ⟨fun d => ?_, fun d => ?_⟩⟩
      · rw [if_neg c] at h9; exact h9
      · rw [if_pos c, if_pos d] at h9; exact h9
      · rw [if_pos c, if_neg d] at h9; exact h9
    · have h9 := fun x => k0 T' x (FrQ_trans FU F) e0 h2 hf
      exact ⟨fun c => h9 _, fun c => ⟨fun d => h9 _, fun d => h9 _⟩⟩
  · apply gEi_1
    unfold gEi_l5s
    exact m_word_b hb ⟨fun _ => hQ, fun q => absurd rfl q⟩
/-- the sign at hand -/
theorem m_worth {b : Nat → Int32} {n t k p : Nat} {S : St} (h : MP b n t k S p) (hs : isSg (tkP b n p) = true) : gJ S 16 25 = (tkP b n p).toInt64 := by
  have h1 := (sg_iff (b := b) (n := n) (a := lxA b n p) hs).mp rfl
  rw [h.2.2.2.2.2.2.2 h1.1, h1.2]
theorem m_added {b : Nat → Int32} {n t k : Nat} {f : Nat → PR} {w : MW} (hy : Hy b n t) (hg : Gd n f) (hw : MS b n t k f w) : MS b n t k (pLo (tkP b n) (nxP b n) isU acU 160 f) (gAd w) := by
  refine m_loopS (L := gAd_l5 w) hy.1 (by decide) acU_le hg hw (fun Q m v T p hM hp hi hQ => ?_) (fun Q m v T p hM hp hi k1 k0 => ?_) (fun Q m v T hb hQ => ?_)
  · apply gAd_1
    unfold gAd_l5s
    unfold isU at hi
    rw [Bool.or_eq_false_iff, decide_eq_false_iff_not, decide_eq_false_iff_not] at hi
    exact m_sign hM (by decide) (fun q => absurd q hi.1) (fun _ => ⟨fun q => absurd rfl q, fun _ => m_sign hM (by decide) (fun q => absurd q hi.2) (fun _ => ⟨fun _ => hQ, fun q => absurd rfl q⟩)⟩)
  · apply gAd_1
    unfold gAd_l5s
    have j39 : ∀ s0 : Int32, (s0 = 0 ↔ ¬ tkP b n p = 43) → gAd_j39 w v s0 T (fun a1 σ => gAd_l5 w m a1 σ Q) Q := by
      intro s0 hs0
      have ht1 : ¬ tkP b n p = 1 := fun q => by rw [q] at hi; exact absurd hi (by decide)
      refine m_nx hy hM hp ht1 (fun U FU hU => ?_)
      refine hw U (nxP b n p) _ hU (nx_le hp).2 (fun T' u F e1 h2 hE => ?_) (fun T' u F e0 h2 hf => ?_)
      · rw [nmS_Q FU] at hE
        have h9 := k1 T' u (FrQ_trans FU F) e1 h2 hE
        unfold acU at h9
        refine ⟨fun c => ?_, fun c => ?_⟩
        · rw [if_neg (hs0.mp c), o26] at h9; exact h9
        · have : tkP b n p = 43 := by
            by_cases z : tkP b n p = 43
            · exact z
            · exact absurd (hs0.mpr z) c
          rw [if_pos this, o25] at h9; exact h9
      · have h9 := fun x => k0 T' x (FrQ_trans FU F) e0 h2 hf
        exact ⟨fun c => h9 _, fun c => h9 _⟩
    have j23 : gAd_j23 w v T (fun a1 σ => gAd_l5 w m a1 σ Q) Q := by
      have hsg : isSg (tkP b n p) = true := by
        unfold isU at hi
        rw [Bool.or_eq_true, decide_eq_true_iff, decide_eq_true_iff] at hi
        rcases hi with q | q <;> (rw [q]; decide)
      unfold gAd_j23
      rw [m_worth hM hsg, lg_eq0]
      refine ⟨fun c => j39 0 ⟨fun _ q => c (by rw [q]; rfl), fun _ => rfl⟩, fun c => j39 1 ⟨fun q => absurd q ne10, fun q => absurd (toI64_inj (y := 43) c) q⟩⟩
    refine m_sign hM (by decide) (fun _ => ⟨fun _ => j23, fun q => absurd q ne10⟩) (fun c => ⟨fun q => absurd rfl q, fun _ => m_sign hM (by decide) (fun _ => ⟨fun q => absurd q ne10, fun _ => j23⟩) (fun d => ?_)⟩)
    exfalso
    unfold isU at hi
    rw [Bool.or_eq_true, decide_eq_true_iff, decide_eq_true_iff] at hi
    rcases hi with q | q
    · exact c q
    · exact d q
  · apply gAd_1
    unfold gAd_l5s
    exact m_sign_b hb ⟨fun q => absurd rfl q, fun _ => m_sign_b hb ⟨fun _ => hQ, fun q => absurd rfl q⟩⟩
/-- compared -/
def gCm (ra rn : MW) (σ : St) (Q : Int32 → St → Prop) : Prop := ra σ (fun r5 σ4 => wX6_isSign 60 σ4 (fun r7 σ6 => ((¬ r7 = 0 → (gNt_j77 ra rn r5 σ6 Q)) ∧ (r7 = 0 → wX6_isSign 61 σ6 (fun r17 σ16 => ((¬ r17 = 0 → (gNt_j77 ra rn r5 σ16 Q)) ∧ (r17 = 0 → Q r5 σ16)))))))
theorem m_cmp {b : Nat → Int32} {n t k : Nat} {f : Nat → PR} {w rn : MW} (hy : Hy b n t) (hg : Gd n f) (hw : MS b n t k f w) : MS b n t k (pLo (tkP b n) (nxP b n) isC acC 1 f) (gCm w rn) := by
  intro S p Q hM hp K1 K0
  have er : pLo (tkP b n) (nxP b n) isC acC 1 f p = if ((f p).1 && isC (tkP b n (f p).2.2)) = true then ((f (nxP b n (f p).2.2)).1, (f p).2.1 ++ ((f (nxP b n (f p).2.2)).2.1 ++ [acC (tkP b n (f p).2.2)]), (f (nxP b n (f p).2.2)).2.2) else f p := rfl
  rw [er] at K1 K0
  have hgp := hg p hp
  refine hw S p _ hM hp (fun T v F e1 hT hE => ?_) (fun T v F e0 hb hf => ?_)
  · by_cases c : isC (tkP b n (f p).2.2) = true
    · rw [if_pos (by rw [e1, c]; rfl)] at K1 K0
      have j93 : ∀ s0 : Int32, (s0 = 0 ↔ ¬ tkP b n (f p).2.2 = 60) → gNt_j93 w rn v s0 T Q := by
        intro s0 hs0
        have ht1 : ¬ tkP b n (f p).2.2 = 1 := fun q => by rw [q] at c; exact absurd c (by decide)
        refine m_nx hy hT hgp.2.1 ht1 (fun U FU hU => ?_)
        refine hw U _ _ hU (nx_le hgp.2.1).2 (fun T' u F' g1 h2 hE' => ?_) (fun T' u F' g0 h2 hf => ?_)
        · rw [nmS_Q FU, nmS_Q F] at hE'
          have h9 := K1 T' _ (FrQ_trans (FrQ_trans F FU) F') g1 h2 (Ev_2 hE hE' (acC_le _))
          unfold acC at h9
          refine ⟨fun z => ?_, fun z => ?_⟩
          · rw [if_neg (hs0.mp z), o24] at h9
            refine ⟨fun y => ?_, fun y => ?_⟩
            · rw [if_neg y] at h9; exact h9
            · rw [if_pos y] at h9; exact h9
          · have : tkP b n (f p).2.2 = 60 := by
              by_cases y : tkP b n (f p).2.2 = 60
              · exact y
              · exact absurd (hs0.mpr y) z
            rw [if_pos this, o23] at h9
            refine ⟨fun y => ?_, fun y => ?_⟩
            · rw [if_pos y] at h9; exact h9
            · rw [if_neg y] at h9; exact h9
        · have h9 := fun x => K0 T' x (FrQ_trans (FrQ_trans F FU) F') g0 h2 hf
          exact ⟨fun z => ⟨fun y => h9 _, fun y => h9 _⟩, fun z => ⟨fun y => h9 _, fun y => h9 _⟩⟩
      have j77 : gNt_j77 w rn v T Q := by
        have hsg : isSg (tkP b n (f p).2.2) = true := by
          unfold isC at c
          rw [Bool.or_eq_true, decide_eq_true_iff, decide_eq_true_iff] at c
          rcases c with q | q <;> (rw [q]; decide)
        unfold gNt_j77
        rw [m_worth hT hsg, lg_eq0]
        refine ⟨fun c => j93 0 ⟨fun _ q => c (by rw [q]; rfl), fun _ => rfl⟩, fun c => j93 1 ⟨fun q => absurd q ne10, fun q => absurd (toI64_inj (y := 60) c) q⟩⟩
      refine m_sign hT (by decide) (fun _ => ⟨fun _ => j77, fun q => absurd q ne10⟩) (fun c1 => ⟨fun q => absurd rfl q, fun _ => m_sign hT (by decide) (fun _ => ⟨fun _ => j77, fun q => absurd q ne10⟩) (fun d => ?_)⟩)
      exfalso
      unfold isC at c
      rw [Bool.or_eq_true, decide_eq_true_iff, decide_eq_true_iff] at c
      rcases c with q | q
      · exact c1 q
      · exact d q
    · have c' : isC (tkP b n (f p).2.2) = false := by cases z : isC (tkP b n (f p).2.2); rfl; exact absurd z c
      rw [if_neg (by rw [c']; simp)] at K1
      unfold isC at c'
      rw [Bool.or_eq_false_iff, decide_eq_false_iff_not, decide_eq_false_iff_not] at c'
      exact m_sign hT (by decide) (fun q => absurd q c'.1) (fun _ => ⟨fun q => absurd rfl q, fun _ => m_sign hT (by decide) (fun q => absurd q c'.2) (fun _ => ⟨fun q => absurd rfl q, fun _ => K1 T v F e1 hT hE⟩)⟩)
  · rw [if_neg (by rw [e0]; simp)] at K0
    exact m_sign_b hb ⟨fun q => absurd rfl q, fun _ => m_sign_b hb ⟨fun q => absurd rfl q, fun _ => K0 T v F e0 hb hf⟩⟩
theorem MP_close {b : Nat → Int32} {n t k p : Nat} {T : St} (h : MP b n t (k + 1) T p) : MP b n t k (sI T 16 26 (gI T 16 26 - 1)) p := by
  rw [h.2.2.1, nI_pred]
  exact MP_open k h
theorem m_not {b : Nat → Int32} {n t k : Nat} {f g : Nat → PR} {w rn : MW} (hy : Hy b n t) (hk : k < 5) (hg : Gd n f) (hw : MS b n t k f w) (hn : MS b n t (k + 1) g rn) : MS b n t k (pNe (tkP b n) (nxP b n) true g (pLo (tkP b n) (nxP b n) isC acC 1 f)) (gNt w rn) := by
  intro S p Q hM hp K1 K0
  unfold pNe at K1 K0
  refine m_word (i := 5) hy hM hp (by decide) (by decide) (fun e => ⟨fun q => absurd q ne10, fun _ => ?_⟩) (fun e => ⟨fun _ => ?_, fun q => absurd rfl q⟩)
  · have e' : tkP b n p = 305 := e
    rw [if_pos e', if_pos rfl] at K1 K0
    refine m_opens hy hk hM hp (by rw [e']; decide) (fun U FU hU => ⟨fun _ => ?_, fun q => absurd q ne10⟩)
    refine hn U _ _ hU (nx_le hp).2 (fun T v F e1 hT hE σ24 s24 => ?_) (fun T v F e0 hb hf σ24 s24 => ?_)
    · rw [nmS_Q FU] at hE
      have hM4 := MP_close hT
      rw [← s24] at hM4
      have F4 : FrQ S σ24 := FrQ_trans (FrQ_trans FU F) (by rw [s24]; exact FrQ_sI (by decide) (by decide))
      have h9 := K1 σ24 _ F4 e1 hM4 (Ev_1 hE (by decide) (by decide))
      have o12 : op1 (-12) v = if v = 0 then 1 else 0 := rfl
      rw [o12] at h9
      refine ⟨fun c => ?_, fun c => ?_⟩
      · rw [if_neg c] at h9; exact h9
      · rw [if_pos c] at h9; exact h9
    · have F4 : FrQ S σ24 := FrQ_trans (FrQ_trans FU F) (by rw [s24]; exact FrQ_sI (by decide) (by decide))
      have h9 := fun x => K0 σ24 x F4 e0 (by rw [s24, gI_sIf _ _ _ _ (by decide)]; exact hb) (by rw [s24, gI_sIf _ _ _ _ (by decide)]; exact hf)
      exact ⟨fun _ => h9 _, fun _ => h9 _⟩
  · have e' : ¬ tkP b n p = 305 := e
    rw [if_neg e'] at K1 K0
    exact m_cmp (rn := rn) hy hg hw S p Q hM hp K1 K0
theorem m_not5 {b : Nat → Int32} {n t : Nat} {f g : Nat → PR} (hy : Hy b n t) (hg : Gd n f) (hw : MS b n t 5 f wX6_added5) : MS b n t 5 (pNe (tkP b n) (nxP b n) false g (pLo (tkP b n) (nxP b n) isC acC 1 f)) wX6_not5 := by
  intro S p Q hM hp K1 K0
  unfold pNe at K1 K0
  refine m_word (i := 5) hy hM hp (by decide) (by decide) (fun e => ⟨fun q => absurd q ne10, fun _ => ?_⟩) (fun e => ⟨fun _ => ?_, fun q => absurd rfl q⟩)
  · have e' : tkP b n p = 305 := e
    rw [if_pos e', if_neg Bool.false_ne_true] at K0
    exact m_opens5 hM (fun T F hb hf => K0 T 0 F rfl hb hf)
  · have e' : ¬ tkP b n p = 305 := e
    rw [if_neg e'] at K1 K0
    exact m_cmp (rn := wX6_not5) hy hg hw S p Q hM hp K1 K0
/-- a number, a name, neither -/
theorem m_leaf {b : Nat → Int32} {n t k p : Nat} {f : Nat → PR} {S : St} {Q : Int32 → St → Prop} (hy : Hy b n t) (hM : MP b n t k S p) (hp : p ≤ n) (n45 : ¬ tkP b n p = 45) (n40 : ¬ tkP b n p = 40) (e2 : tkP b n p = 2 → f p = (true, [nuP b n p], nxP b n p)) (e3 : ¬ tkP b n p = 2 → ¬ tkP b n p < 306 → f p = (true, [-1 - (tkP b n p - 306)], nxP b n p)) (e4 : ¬ tkP b n p = 2 → tkP b n p < 306 → f p = (false, [], p)) (K1 : ∀ T v, FrQ S T → (f p).1 = true → MP b n t k T (f p).2.2 → Ev (nmS S) (f p).2.1 v → Q v T) (K0 : ∀ T v, FrQ S T → (f p).1 = false → ¬ gI T 16 27 = 0 → gI T 16 28 = nI (lxA b n (f p).2.2) → Q v T) :
    ((¬ (gI S 16 27) = 0 → (gAt_j123 wX6_atom5 wX6_either5 0 S Q)) ∧ ((gI S 16 27) = 0 → ((¬ (gI S 16 23) = 2 → (gAt_j123 wX6_atom5 wX6_either5 0 S Q)) ∧ ((gI S 16 23) = 2 → ∀ x16 : Int32, x16 = (((gJ S 16 25)).toInt32) → wX6_next S (fun σ17 => Q x16 σ17))))) := by
  refine ⟨fun q => absurd hM.2.1 q, fun _ => ?_⟩
  have ht : ∀ x : Int32, tkP b n p = x → tkA b n (lxA b n p) = x := fun x h => h
  have j123 : ¬ tkP b n p = 2 → gAt_j123 wX6_atom5 wX6_either5 0 S Q := by
    intro q2
    refine ⟨fun q => absurd hM.2.1 q, fun _ => ?_⟩
    rw [hM.2.2.2.1]
    refine ⟨fun c => ?_, fun c => ?_⟩
    · have hlt : tkP b n p < 306 := by
        unfold tkP
        rcases kd_tk (b := b) (n := n) (a := lxA b n p) with ⟨e, _, et⟩ | ⟨e, _⟩ | ⟨e, _, et, _⟩ | ⟨e, _, hs, et⟩ | ⟨e, et⟩
        · rw [et]; decide
        · exact absurd e c
        · rw [et]; decide
        · rw [et]; exact (isSg_lt hs).1
        · rw [et]; decide
      rw [e4 q2 hlt] at K0
      exact m_fail hM (fun T F hb hf => K0 T 0 F rfl hb hf)
    · refine m_name hy hM hp (fun t6 => ⟨fun q => absurd hM.2.1 q, fun _ => ?_⟩) (fun t6 T F hb hf => ⟨fun _ => ?_, fun q => absurd q hb⟩)
      · rw [e3 q2 t6] at K1
        refine m_nx hy hM hp (fun q => t6 (by rw [q]; decide)) (fun T F hT => K1 T _ F rfl hT ?_)
        have h9 := Ev_lit (N := nmS S) ((TkOk_of b n p).1 t6)
        have hneg : (-1 - (tkP b n p - 306)) < 0 := by
          unfold tkP at t6 ⊢
          rcases kd_tk (b := b) (n := n) (a := lxA b n p) with ⟨e, _, et⟩ | ⟨e, _, _, et, _⟩ | ⟨e, _, et, _⟩ | ⟨e, _, hs, et⟩ | ⟨e, et⟩
          · rw [et] at t6; exact absurd (by decide) t6
          · rw [et] at t6 ⊢
            rcases wtk_in (okW b (lxA b n p) (sp isLt b n (lxA b n p))) 12 (Nat.le_refl _) with q | ⟨j, hj, -, q⟩
            · rw [q] at t6; exact absurd (by decide) t6
            · rw [q] at t6 ⊢
              have : ∀ j, j < 12 → ¬ nI (300 + j) < 306 → (-1 - (nI (300 + j) - 306)) < 0 := by decide +kernel
              exact this j hj t6
          · rw [et] at t6; exact absurd (by decide) t6
          · rw [et] at t6; exact absurd (isSg_lt hs).1 t6
          · rw [et] at t6; exact absurd (by decide) t6
        rw [if_pos hneg] at h9
        exact h9
      · rw [e4 q2 t6] at K0
        exact K0 T 0 F rfl hb hf
  have k2 : kdA b n (lxA b n p) = 2 ↔ tkP b n p = 2 := by
    unfold tkP
    rcases kd_tk (b := b) (n := n) (a := lxA b n p) with ⟨e, _, et⟩ | ⟨e, _, _, et, _⟩ | ⟨e, _, et, _⟩ | ⟨e, _, hs, et⟩ | ⟨e, et⟩
    · rw [e, et]
    · rw [e, et]
      exact ⟨fun q => absurd q (by decide), fun q => absurd q (wtk_sg (Or.inr (Or.inr rfl)))⟩
    · rw [e, et]
    · rw [e, et]
      exact ⟨fun q => absurd q (by decide), fun q => absurd q (isSg_lt hs).2.1⟩
    · rw [e, et]
      exact ⟨fun q => absurd q (by decide), fun q => absurd q (by decide)⟩
  rw [hM.2.2.2.1]
  refine ⟨fun c => j123 (fun q => c (k2.mpr q)), fun c x16 e16 => ?_⟩
  rw [e2 (k2.mp c)] at K1
  have ew : (gJ S 16 25).toInt32 = nuP b n p := hM.2.2.2.2.2.2.1 c
  rw [ew] at e16
  refine m_nx hy hM hp (by rw [k2.mp c]; decide) (fun T F hT => K1 T _ F rfl hT ?_)
  have h9 := Ev_lit (N := nmS S) ((TkOk_of b n p).2 (k2.mp c))
  have hnn : ¬ nuP b n p < 0 := by
    rcases kd_tk (b := b) (n := n) (a := lxA b n p) with ⟨e, _, et⟩ | ⟨e, _, _, et, _⟩ | ⟨e, _, et, u, hu, eu⟩ | ⟨e, _, hs, et⟩ | ⟨e, et⟩
    · rw [c] at e; exact absurd e (by decide)
    · rw [c] at e; exact absurd e (by decide)
    · unfold nuP
      rw [eu]
      exact nI_pos (by omega)
    · rw [c] at e; exact absurd e (by decide)
    · rw [c] at e; exact absurd e (by decide)
  rw [if_neg hnn] at h9
  rw [e16]
  exact h9
theorem m_atom {b : Nat → Int32} {n t k : Nat} {f g : Nat → PR} {ra re : MW} (hy : Hy b n t) (hk : k < 5) (hgg : Gd n g) (ha : MS b n t (k + 1) f ra) (he : MS b n t (k + 1) g re) : MS b n t k (pSi (tkP b n) (nxP b n) (nuP b n) true f g) (gAt ra re) := by
  intro S p Q hM hp K1 K0
  refine m_sign hM (by decide) (fun e => ⟨fun q => absurd q ne10, fun _ => ?_⟩) (fun n45 => ⟨fun _ => ?_, fun q => absurd rfl q⟩)
  · have ep : pSi (tkP b n) (nxP b n) (nuP b n) true f g p = ((f (nxP b n p)).1, (f (nxP b n p)).2.1 ++ [-11], (f (nxP b n p)).2.2) := by
      unfold pSi
      rw [if_neg (by rw [e]; decide), if_neg (by rw [e]; decide), if_pos e, if_pos rfl]
    rw [ep] at K1 K0
    refine m_opens hy hk hM hp (by rw [e]; decide) (fun U FU hU => ⟨fun q => absurd q ne10, fun _ => ?_⟩)
    refine ha U _ _ hU (nx_le hp).2 (fun T v F e1 hT hE x35 e35 σ36 s36 => ?_) (fun T v F e0 hb hf x35 e35 σ36 s36 => ?_)
    · rw [nmS_Q FU] at hE
      have hM4 := MP_close hT
      rw [← s36] at hM4
      rw [e35]
      exact K1 σ36 _ (FrQ_trans (FrQ_trans FU F) (by rw [s36]; exact FrQ_sI (by decide) (by decide))) e1 hM4 (Ev_1 hE (by decide) (by decide))
    · exact K0 σ36 x35 (FrQ_trans (FrQ_trans FU F) (by rw [s36]; exact FrQ_sI (by decide) (by decide))) e0 (by rw [s36, gI_sIf _ _ _ _ (by decide)]; exact hb) (by rw [s36, gI_sIf _ _ _ _ (by decide)]; exact hf)
  · refine m_sign hM (by decide) (fun e => ⟨fun q => absurd q ne10, fun _ => ?_⟩) (fun n40 => ⟨fun _ => ?_, fun q => absurd rfl q⟩)
    · have ep : pSi (tkP b n) (nxP b n) (nuP b n) true f g p = if ((g (nxP b n p)).1 && decide (tkP b n (g (nxP b n p)).2.2 = 41)) = true then (true, (g (nxP b n p)).2.1, nxP b n (g (nxP b n p)).2.2) else (false, (g (nxP b n p)).2.1, (g (nxP b n p)).2.2) := by
        unfold pSi
        rw [if_neg (by rw [e]; decide), if_neg (by rw [e]; decide), if_neg n45, if_pos e, if_pos rfl]
      rw [ep] at K1 K0
      have hgp := hgg (nxP b n p) (nx_le hp).2
      refine m_opens hy hk hM hp (by rw [e]; decide) (fun U FU hU => ⟨fun q => absurd q ne10, fun _ => ?_⟩)
      have j71 : ∀ (T : St) (v : Int32), FrQ S T → (if ((g (nxP b n p)).1 && decide (tkP b n (g (nxP b n p)).2.2 = 41)) = true then ((true, (g (nxP b n p)).2.1, nxP b n (g (nxP b n p)).2.2) : PR) else (false, (g (nxP b n p)).2.1, (g (nxP b n p)).2.2)) = (false, (g (nxP b n p)).2.1, (g (nxP b n p)).2.2) → ¬ gI T 16 27 = 0 → gI T 16 28 = nI (lxA b n (g (nxP b n p)).2.2) → gAt_j71 ra re v T Q := by
        intro T v F ef hb hf σ26 s26
        rw [ef] at K0
        have hb' : ¬ gI σ26 16 27 = 0 := by rw [s26, gI_sIf _ _ _ _ (by decide)]; exact hb
        exact ⟨fun _ => K0 σ26 v (FrQ_trans F (by rw [s26]; exact FrQ_sI (by decide) (by decide))) rfl hb' (by rw [s26, gI_sIf _ _ _ _ (by decide)]; exact hf), fun q => absurd q hb'⟩
      refine he U _ _ hU (nx_le hp).2 (fun T v F e1 hT hE => ?_) (fun T v F e0 hb hf => ?_)
      · rw [nmS_Q FU] at hE
        refine m_sign hT (by decide) (fun t41 => ⟨fun _ σ26 s26 => ?_, fun q => absurd q ne10⟩) (fun t41 => ⟨fun q => absurd rfl q, fun _ => ?_⟩)
        · rw [if_pos (by rw [e1, decide_eq_true t41]; rfl)] at K1
          have hM4 := MP_close hT
          rw [← s26] at hM4
          refine ⟨fun q => absurd hM4.2.1 q, fun _ => ?_⟩
          refine m_nx hy hM4 hgp.2.1 (by rw [t41]; decide) (fun V FV hV => K1 V v (FrQ_trans (FrQ_trans (FrQ_trans FU F) (by rw [s26]; exact FrQ_sI (by decide) (by decide))) FV) rfl hV hE)
        · exact m_fail hT (fun V FV hb hf => j71 V v (FrQ_trans (FrQ_trans FU F) FV) (by rw [if_neg (by rw [decide_eq_false t41]; simp)]) hb hf)
      · exact m_sign_b hb ⟨fun q => absurd rfl q, fun _ => m_fail_b hb (j71 T v (FrQ_trans FU F) (by rw [if_neg (by rw [e0]; simp)]) hb hf)⟩
    · refine m_leaf hy hM hp n45 n40 (fun c => ?_) (fun c d => ?_) (fun c d => ?_) K1 K0
      · unfold pSi; rw [if_pos c]
      · unfold pSi; rw [if_neg c, if_pos d]
      · unfold pSi; rw [if_neg c, if_neg (fun q => q d), if_neg n45, if_neg n40]
theorem m_atom5 {b : Nat → Int32} {n t : Nat} {f g : Nat → PR} (hy : Hy b n t) : MS b n t 5 (pSi (tkP b n) (nxP b n) (nuP b n) false f g) wX6_atom5 := by
  intro S p Q hM hp K1 K0
  refine m_sign hM (by decide) (fun e => ⟨fun q => absurd q ne10, fun _ => ?_⟩) (fun n45 => ⟨fun _ => ?_, fun q => absurd rfl q⟩)
  · have ep : pSi (tkP b n) (nxP b n) (nuP b n) false f g p = (false, [], p) := by
      unfold pSi
      rw [if_neg (by rw [e]; decide), if_neg (by rw [e]; decide), if_pos e, if_neg Bool.false_ne_true]
    rw [ep] at K0
    exact m_opens5 hM (fun T F hb hf => K0 T 0 F rfl hb hf)
  · refine m_sign hM (by decide) (fun e => ⟨fun q => absurd q ne10, fun _ => ?_⟩) (fun n40 => ⟨fun _ => ?_, fun q => absurd rfl q⟩)
    · have ep : pSi (tkP b n) (nxP b n) (nuP b n) false f g p = (false, [], p) := by
        unfold pSi
        rw [if_neg (by rw [e]; decide), if_neg (by rw [e]; decide), if_neg n45, if_pos e, if_neg Bool.false_ne_true]
      rw [ep] at K0
      exact m_opens5 hM (fun T F hb hf => K0 T 0 F rfl hb hf)
    · refine m_leaf hy hM hp n45 n40 (fun c => ?_) (fun c d => ?_) (fun c d => ?_) K1 K0
      · unfold pSi; rw [if_pos c]
      · unfold pSi; rw [if_neg c, if_pos d]
      · unfold pSi; rw [if_neg c, if_neg (fun q => q d), if_neg n45, if_neg n40]
/-! the levels -/
theorem m_lev5 {b : Nat → Int32} {n t : Nat} (hy : Hy b n t) : MS b n t 5 (pP (tkP b n) (nxP b n) (nuP b n) 0).1 wX6_either5 ∧ MS b n t 5 (pP (tkP b n) (nxP b n) (nuP b n) 0).2.1 wX6_not5 ∧ MS b n t 5 (pP (tkP b n) (nxP b n) (nuP b n) 0).2.2 wX6_atom5 := by
  have hL := Lx_of b n
  have g1 : Gd n (pSi (tkP b n) (nxP b n) (nuP b n) false noP noP) := Gd_si hL (fun q => absurd q Bool.false_ne_true) (fun q => absurd q Bool.false_ne_true)
  have s1 : MS b n t 5 (pSi (tkP b n) (nxP b n) (nuP b n) false noP noP) wX6_atom5 := m_atom5 hy
  have g2 := Gd_lo (m := 160) (is := isT) (ac := acT) hL (by decide) g1
  have s2 : MS b n t 5 _ wX6_term5 := m_term hy g1 s1
  have g3 := Gd_lo (m := 160) (is := isU) (ac := acU) hL (by decide) g2
  have s3 : MS b n t 5 _ wX6_added5 := m_added hy g2 s2
  have s4 : MS b n t 5 (pP (tkP b n) (nxP b n) (nuP b n) 0).2.1 wX6_not5 := m_not5 hy g3 s3
  have g4 := (Gd_P (nu := nuP b n) hL 0).2.1
  have g5 := Gd_lo (m := 160) (is := isB) (ac := acB) hL (by decide) g4
  have s5 : MS b n t 5 _ wX6_both5 := m_both hy g4 s4
  have s6 : MS b n t 5 _ wX6_either5 := m_either hy g5 s5
  exact ⟨s6, s4, s1⟩
theorem m_lev4 {b : Nat → Int32} {n t : Nat} (hy : Hy b n t) : MS b n t 4 (pP (tkP b n) (nxP b n) (nuP b n) 1).1 wX6_either4 ∧ MS b n t 4 (pP (tkP b n) (nxP b n) (nuP b n) 1).2.1 wX6_not4 ∧ MS b n t 4 (pP (tkP b n) (nxP b n) (nuP b n) 1).2.2 wX6_atom4 := by
  have hL := Lx_of b n
  obtain ⟨hE, hN, hA⟩ := m_lev5 hy
  have gp := Gd_P (nu := nuP b n) hL 0
  have gd := Gd_P (nu := nuP b n) hL 1
  have g1 := gd.2.2
  have s1 : MS b n t 4 (pP (tkP b n) (nxP b n) (nuP b n) 1).2.2 wX6_atom4 := m_atom hy (by decide) gp.1 hA hE
  have g2 := Gd_lo (m := 160) (is := isT) (ac := acT) hL (by decide) g1
  have s2 : MS b n t 4 _ wX6_term4 := m_term hy g1 s1
  have g3 := Gd_lo (m := 160) (is := isU) (ac := acU) hL (by decide) g2
  have s3 : MS b n t 4 _ wX6_added4 := m_added hy g2 s2
  have s4 : MS b n t 4 (pP (tkP b n) (nxP b n) (nuP b n) 1).2.1 wX6_not4 := m_not hy (by decide) g3 s3 hN
  have g4 := gd.2.1
  have g5 := Gd_lo (m := 160) (is := isB) (ac := acB) hL (by decide) g4
  have s5 : MS b n t 4 _ wX6_both4 := m_both hy g4 s4
  have s6 : MS b n t 4 _ wX6_either4 := m_either hy g5 s5
  exact ⟨s6, s4, s1⟩
theorem m_lev3 {b : Nat → Int32} {n t : Nat} (hy : Hy b n t) : MS b n t 3 (pP (tkP b n) (nxP b n) (nuP b n) 2).1 wX6_either3 ∧ MS b n t 3 (pP (tkP b n) (nxP b n) (nuP b n) 2).2.1 wX6_not3 ∧ MS b n t 3 (pP (tkP b n) (nxP b n) (nuP b n) 2).2.2 wX6_atom3 := by
  have hL := Lx_of b n
  obtain ⟨hE, hN, hA⟩ := m_lev4 hy
  have gp := Gd_P (nu := nuP b n) hL 1
  have gd := Gd_P (nu := nuP b n) hL 2
  have g1 := gd.2.2
  have s1 : MS b n t 3 (pP (tkP b n) (nxP b n) (nuP b n) 2).2.2 wX6_atom3 := m_atom hy (by decide) gp.1 hA hE
  have g2 := Gd_lo (m := 160) (is := isT) (ac := acT) hL (by decide) g1
  have s2 : MS b n t 3 _ wX6_term3 := m_term hy g1 s1
  have g3 := Gd_lo (m := 160) (is := isU) (ac := acU) hL (by decide) g2
  have s3 : MS b n t 3 _ wX6_added3 := m_added hy g2 s2
  have s4 : MS b n t 3 (pP (tkP b n) (nxP b n) (nuP b n) 2).2.1 wX6_not3 := m_not hy (by decide) g3 s3 hN
  have g4 := gd.2.1
  have g5 := Gd_lo (m := 160) (is := isB) (ac := acB) hL (by decide) g4
  have s5 : MS b n t 3 _ wX6_both3 := m_both hy g4 s4
  have s6 : MS b n t 3 _ wX6_either3 := m_either hy g5 s5
  exact ⟨s6, s4, s1⟩
theorem m_lev2 {b : Nat → Int32} {n t : Nat} (hy : Hy b n t) : MS b n t 2 (pP (tkP b n) (nxP b n) (nuP b n) 3).1 wX6_either2 ∧ MS b n t 2 (pP (tkP b n) (nxP b n) (nuP b n) 3).2.1 wX6_not2 ∧ MS b n t 2 (pP (tkP b n) (nxP b n) (nuP b n) 3).2.2 wX6_atom2 := by
  have hL := Lx_of b n
  obtain ⟨hE, hN, hA⟩ := m_lev3 hy
  have gp := Gd_P (nu := nuP b n) hL 2
  have gd := Gd_P (nu := nuP b n) hL 3
  have g1 := gd.2.2
  have s1 : MS b n t 2 (pP (tkP b n) (nxP b n) (nuP b n) 3).2.2 wX6_atom2 := m_atom hy (by decide) gp.1 hA hE
  have g2 := Gd_lo (m := 160) (is := isT) (ac := acT) hL (by decide) g1
  have s2 : MS b n t 2 _ wX6_term2 := m_term hy g1 s1
  have g3 := Gd_lo (m := 160) (is := isU) (ac := acU) hL (by decide) g2
  have s3 : MS b n t 2 _ wX6_added2 := m_added hy g2 s2
  have s4 : MS b n t 2 (pP (tkP b n) (nxP b n) (nuP b n) 3).2.1 wX6_not2 := m_not hy (by decide) g3 s3 hN
  have g4 := gd.2.1
  have g5 := Gd_lo (m := 160) (is := isB) (ac := acB) hL (by decide) g4
  have s5 : MS b n t 2 _ wX6_both2 := m_both hy g4 s4
  have s6 : MS b n t 2 _ wX6_either2 := m_either hy g5 s5
  exact ⟨s6, s4, s1⟩
theorem m_lev1 {b : Nat → Int32} {n t : Nat} (hy : Hy b n t) : MS b n t 1 (pP (tkP b n) (nxP b n) (nuP b n) 4).1 wX6_either1 ∧ MS b n t 1 (pP (tkP b n) (nxP b n) (nuP b n) 4).2.1 wX6_not1 ∧ MS b n t 1 (pP (tkP b n) (nxP b n) (nuP b n) 4).2.2 wX6_atom1 := by
  have hL := Lx_of b n
  obtain ⟨hE, hN, hA⟩ := m_lev2 hy
  have gp := Gd_P (nu := nuP b n) hL 3
  have gd := Gd_P (nu := nuP b n) hL 4
  have g1 := gd.2.2
  have s1 : MS b n t 1 (pP (tkP b n) (nxP b n) (nuP b n) 4).2.2 wX6_atom1 := m_atom hy (by decide) gp.1 hA hE
  have g2 := Gd_lo (m := 160) (is := isT) (ac := acT) hL (by decide) g1
  have s2 : MS b n t 1 _ wX6_term1 := m_term hy g1 s1
  have g3 := Gd_lo (m := 160) (is := isU) (ac := acU) hL (by decide) g2
  have s3 : MS b n t 1 _ wX6_added1 := m_added hy g2 s2
  have s4 : MS b n t 1 (pP (tkP b n) (nxP b n) (nuP b n) 4).2.1 wX6_not1 := m_not hy (by decide) g3 s3 hN
  have g4 := gd.2.1
  have g5 := Gd_lo (m := 160) (is := isB) (ac := acB) hL (by decide) g4
  have s5 : MS b n t 1 _ wX6_both1 := m_both hy g4 s4
  have s6 : MS b n t 1 _ wX6_either1 := m_either hy g5 s5
  exact ⟨s6, s4, s1⟩
theorem m_lev0 {b : Nat → Int32} {n t : Nat} (hy : Hy b n t) : MS b n t 0 (pP (tkP b n) (nxP b n) (nuP b n) 5).1 wX6_either0 ∧ MS b n t 0 (pP (tkP b n) (nxP b n) (nuP b n) 5).2.1 wX6_not0 ∧ MS b n t 0 (pP (tkP b n) (nxP b n) (nuP b n) 5).2.2 wX6_atom0 := by
  have hL := Lx_of b n
  obtain ⟨hE, hN, hA⟩ := m_lev1 hy
  have gp := Gd_P (nu := nuP b n) hL 4
  have gd := Gd_P (nu := nuP b n) hL 5
  have g1 := gd.2.2
  have s1 : MS b n t 0 (pP (tkP b n) (nxP b n) (nuP b n) 5).2.2 wX6_atom0 := m_atom hy (by decide) gp.1 hA hE
  have g2 := Gd_lo (m := 160) (is := isT) (ac := acT) hL (by decide) g1
  have s2 : MS b n t 0 _ wX6_term0 := m_term hy g1 s1
  have g3 := Gd_lo (m := 160) (is := isU) (ac := acU) hL (by decide) g2
  have s3 : MS b n t 0 _ wX6_added0 := m_added hy g2 s2
  have s4 : MS b n t 0 (pP (tkP b n) (nxP b n) (nuP b n) 5).2.1 wX6_not0 := m_not hy (by decide) g3 s3 hN
  have g4 := gd.2.1
  have g5 := Gd_lo (m := 160) (is := isB) (ac := acB) hL (by decide) g4
  have s5 : MS b n t 0 _ wX6_both0 := m_both hy g4 s4
  have s6 : MS b n t 0 _ wX6_either0 := m_either hy g5 s5
  exact ⟨s6, s4, s1⟩
