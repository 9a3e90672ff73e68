/-! the reference reads three parts; text -/
theorem kd_0 {b : Nat → Int32} {n a : Nat} : kdA b n a = 0 ↔ tkA b n a = 0 := by
  rcases kd_tk (b := b) (n := n) (a := a) with ⟨e, _, et⟩ | ⟨e, _, _, et, _⟩ | ⟨e, _, et, _⟩ | ⟨e, _, hs, et⟩ | ⟨e, et⟩
  · exact ⟨fun _ => et, fun _ => e⟩
  · rw [e, et]
    exact ⟨fun q => absurd q (by decide), fun q => absurd q (wtk_sg (Or.inr (Or.inl rfl)))⟩
  · rw [e, et]
  · rw [e, et]
    exact ⟨fun q => absurd q (by decide), fun q => absurd q (isSg_lt hs).2.2.1⟩
  · rw [e, et]
    exact ⟨fun q => absurd q (by decide), fun q => absurd q (by decide)⟩
theorem m_j34_b {S : St} {v : Int32} {Q : Int32 → St → Prop} (h : ¬ gI S 16 27 = 0) (hQ : Q v S) : wX6_part_j34 v S Q := m_sign_b h ⟨fun q => absurd rfl q, fun _ => m_fail_b h ⟨fun _ => hQ, fun q => absurd q h⟩⟩
theorem m_part {b : Nat → Int32} {n t p i : Nat} {S : St} {Q : Int32 → St → Prop} {q0 q1 q2 q3 q4 q5 q6 q7 : Int32} (hy : Hy b n t) (h : MP b n t 0 S p) (hp : p ≤ n) (hi : i < 3) (hq : strAt i 0 = q0 ∧ strAt i 1 = q1 ∧ strAt i 2 = q2 ∧ strAt i 3 = q3 ∧ strAt i 4 = q4 ∧ strAt i 5 = q5 ∧ strAt i 6 = q6 ∧ strAt i 7 = q7)
    (K1 : ∀ T v, FrQ S T → (pPt (tkP b n) (nxP b n) (pP (tkP b n) (nxP b n) (nuP b n) 5).1 i p).1 = true → MP b n t 0 T (pPt (tkP b n) (nxP b n) (pP (tkP b n) (nxP b n) (nuP b n) 5).1 i p).2.2 → Ev (nmS S) (pPt (tkP b n) (nxP b n) (pP (tkP b n) (nxP b n) (nuP b n) 5).1 i p).2.1 v → Q v T)
    (K0 : ∀ T v, FrQ S T → (pPt (tkP b n) (nxP b n) (pP (tkP b n) (nxP b n) (nuP b n) 5).1 i p).1 = false → ¬ gI T 16 27 = 0 → gI T 16 28 = nI (lxA b n (pPt (tkP b n) (nxP b n) (pP (tkP b n) (nxP b n) (nuP b n) 5).1 i p).2.2) → Q v T) : wX6_isWord q0 q1 q2 q3 q4 q5 q6 q7 S (fun r9 σ8 => wX6_part r9 σ8 Q) := by
  have hg := (Gd_P (nu := nuP b n) (Lx_of b n) 5).1
  unfold pPt at K1 K0
  refine m_word hy h hp (by omega) hq (fun e => ⟨fun _ => ⟨fun q => absurd h.2.1 q, fun _ => ?_⟩, fun q => absurd q ne10⟩) (fun e => ⟨fun q => absurd rfl q, fun _ => m_fail h (fun T F hb hf => ⟨fun _ => ⟨fun q => absurd q hb, fun _ => ?_⟩, fun q => absurd q hb⟩)⟩)
  · rw [if_pos e] at K1 K0
    refine m_nx hy h hp (fun q => ?_) (fun U FU hU => ⟨fun _ => ?_, fun q => absurd hU.2.1 q⟩)
    · rw [e, show (1 : Int32) = nI 1 from rfl, nI_eq (by omega) (by decide)] at q
      omega
    · have hgp := hg (nxP b n p) (nx_le hp).2
      refine (m_lev0 hy).1 U _ _ hU (nx_le hp).2 (fun T v F e1 hT hE => ?_) (fun T v F e0 hb hf => ?_)
      · rw [nmS_Q FU] at hE
        refine m_sign hT (by decide) (fun t59 => ⟨fun _ => ⟨fun q => absurd hT.2.1 q, fun _ => ?_⟩, fun q => absurd q ne10⟩) (fun t59 => ⟨fun q => absurd rfl q, fun _ => ?_⟩)
        · rw [if_pos (by rw [e1, decide_eq_true t59]; rfl)] at K1
          exact m_nx hy hT hgp.2.1 (by rw [t59]; decide) (fun V FV hV => K1 V v (FrQ_trans (FrQ_trans FU F) FV) rfl hV hE)
        · rw [if_neg (by rw [decide_eq_false t59]; simp)] at K0
          exact m_fail hT (fun V FV hb hf => ⟨fun _ => K0 V v (FrQ_trans (FrQ_trans FU F) FV) rfl hb hf, fun q => absurd q hb⟩)
      · rw [if_neg (by rw [e0]; simp)] at K0
        exact m_j34_b hb (K0 T v (FrQ_trans FU F) rfl hb hf)
  · rw [if_neg e] at K0
    exact m_j34_b hb (K0 T 0 F rfl hb hf)
theorem FrQ_P {S T : St} (h : FrQ S T) : FrP S T := ⟨fun f hf => h.1 f (by omega), h.2.1, h.2.2⟩
theorem m_read {b : Nat → Int32} {n t wh : Nat} {S : St} {Q : Int32 → St → Prop} (hy : Hy b n t) (hwh : wh < 3) (hs : gA S 16 2 t = nI n) (hb : ∀ i, i < n → gA S 16 1 (160 * t + i) = b i)
    (K1 : (rdP b n).1 = true → ∀ T, FrP S T → gI T 16 27 = 0 → Q (fF (rdP b n).2.1 wh (gI S 16 14) (gI S 16 15) (gI S 16 16) (gI S 16 17) (gI S 16 18) (gI S 16 19)) T)
    (K0 : (rdP b n).1 = false → ∀ T v, FrP S T → ¬ gI T 16 27 = 0 → gI T 16 28 = nI (lxA b n (rdP b n).2.2) → Q v T) : wX6_read (nI t) (nI wh) S Q := by
  have hn := hy.1
  have ht := hy.2.1
  have hL := Lx_of b n
  have hg := (Gd_P (nu := nuP b n) hL 5).1
  intro σ1 e1
  have m160 : (160 : Int32) * nI t = nI (160 * t) := (Int32.ofNat_mul 160 t).symm
  rw [m160] at e1
  refine ⟨vp_in_nI ht (by decide), fun σ3 e3 σ4 e4 σ5 e5 σ6 e6 => ?_⟩
  rw [nI_clamp (n := t) (by omega), e1, gA_sI, hs] at e3
  have F6 : FrP S σ6 := by
    rw [e6, e5, e4, e3]
    exact FrP_trans (FrP_trans (FrP_trans (FrP_trans (FrP_sI (by decide) (by decide)) (FrP_sI (by decide) (by decide))) (FrP_sI (by decide) (by decide))) (FrP_sI (by decide) (by decide))) (FrP_sI (by decide) (by decide))
  have a20 : gI σ6 16 20 = nI (160 * t) := by rw [e6, e5, e4, e3]; simp [gI_sI]
  have a21 : gI σ6 16 21 = nI n := by rw [e6, e5, e4, e3]; simp [gI_sI]
  have a22 : gI σ6 16 22 = nI 0 := by rw [e6, e5, e4, e3]; simp [gI_sI]; rfl
  have a26 : gI σ6 16 26 = nI 0 := by rw [e6, e5, e4, e3]; simp [gI_sI]; rfl
  have a27 : gI σ6 16 27 = 0 := by rw [e6, e5, e4, e3]; simp [gI_sI]
  have nm : nmS σ6 = nmF (gI S 16 14) (gI S 16 15) (gI S 16 16) (gI S 16 17) (gI S 16 18) (gI S 16 19) := by
    unfold nmS
    rw [e6, e5, e4, e3]
    simp [gI_sI]
  have hT6 : MT b n t σ6 := ⟨a20, a21, fun i hi => by rw [F6.2.1]; exact hb i hi⟩
  refine m_next hn ht hy.2.2 (Nat.zero_le n) hT6 a22 (fun A FA hA => ?_)
  have hMA : MP b n t 0 A 0 := ⟨MT_N FA hT6, by rw [FA.1 27 (by decide) (by decide) (by decide)]; exact a27, by rw [FA.1 26 (by decide) (by decide) (by decide)]; exact a26, hA⟩
  have FSA : FrP S A := FrP_trans F6 (FrQ_P (FrN_Q FA))
  have nmA : nmS A = nmF (gI S 16 14) (gI S 16 15) (gI S 16 16) (gI S 16 17) (gI S 16 18) (gI S 16 19) := by rw [nmS_Q (FrN_Q FA)]; exact nm
  unfold rdP pRd at K1 K0
  obtain ⟨E, hE⟩ : ∃ E, (pP (tkP b n) (nxP b n) (nuP b n) 5).1 = E := ⟨_, rfl⟩
  have mp := fun (i p : Nat) (S : St) (Q : Int32 → St → Prop) (q0 q1 q2 q3 q4 q5 q6 q7 : Int32) (h : MP b n t 0 S p) (hp : p ≤ n) (hi : i < 3) hq => m_part (Q := Q) (q0 := q0) (q1 := q1) (q2 := q2) (q3 := q3) (q4 := q4) (q5 := q5) (q6 := q6) (q7 := q7) hy h hp hi hq
  rw [hE] at K1 K0 hg mp
  have gd := fun i (hi : i < 3) => Gd_pt (k := i) hi hL hg
  have j145 : ∀ (T : St) (x y z : Int32), ((wh = 0 → Q x T) ∧ (wh = 1 → Q y T) ∧ (wh = 2 → Q z T)) → wX6_read_j145 (nI wh) x y z T Q := by
    intro T x y z hh
    have w0 : nI wh = 0 ↔ wh = 0 := by rw [show (0 : Int32) = nI 0 from rfl, nI_eq (by omega) (by decide)]
    have w1 : nI wh = 1 ↔ wh = 1 := by rw [show (1 : Int32) = nI 1 from rfl, nI_eq (by omega) (by decide)]
    unfold wX6_read_j145
    rw [w0, w1]
    exact ⟨fun c => ⟨fun d => hh.2.2 (by omega), fun d => hh.2.1 d⟩, fun c => hh.1 c⟩
  have all : ∀ (T : St) (x y z : Int32), (∀ v, Q v T) → wX6_read_j145 (nI wh) x y z T Q := fun T x y z hh => j145 T x y z ⟨fun _ => hh _, fun _ => hh _, fun _ => hh _⟩
  have b125 : ∀ (T : St) (x y z : Int32), ¬ gI T 16 27 = 0 → (∀ v, Q v T) → wX6_read_j125 (nI wh) x y z T Q := fun T x y z hbd hh => ⟨fun _ => all T x y z hh, fun q => absurd q hbd⟩
  have b91 : ∀ (T : St) (x y : Int32), ¬ gI T 16 27 = 0 → (∀ v, Q v T) → wX6_read_j91 (nI wh) x y T Q := fun T x y hbd hh => ⟨fun q => absurd q hbd, fun _ => b125 T x y 0 hbd hh⟩
  refine mp 0 0 A _ _ _ _ _ _ _ _ _ hMA (Nat.zero_le n) (by decide) (by decide) (fun B v0 FB r0 hB hE0 => ?_) (fun B v0 FB r0 hbd hf => ?_)
  · rw [if_pos r0] at K1 K0
    have g0 := gd 0 (by decide) 0 (Nat.zero_le n)
    have l0 := g0.2.2 r0
    refine ⟨fun _ => ?_, fun q => absurd hB.2.1 q⟩
    refine mp 1 _ B _ _ _ _ _ _ _ _ _ hB g0.2.1 (by decide) (by decide) (fun C v1 FC r1 hC hE1 => ?_) (fun C v1 FC r1 hbd hf => ?_)
    · rw [if_pos r1] at K1 K0
      have g1 := gd 1 (by decide) _ g0.2.1
      have l1 := g1.2.2 r1
      refine ⟨fun _ => ?_, fun q => absurd hC.2.1 q⟩
      refine mp 2 _ C _ _ _ _ _ _ _ _ _ hC g1.2.1 (by decide) (by decide) (fun D v2 FD r2 hD hE2 => ?_) (fun D v2 FD r2 hbd hf => ?_)
      · rw [if_pos r2] at K1 K0
        have g2 := gd 2 (by decide) _ g1.2.1
        have l2 := g2.2.2 r2
        have FSD : FrP S D := FrP_trans FSA (FrQ_P (FrQ_trans (FrQ_trans FB FC) FD))
        refine ⟨fun q => absurd hD.2.1 q, fun _ => ?_⟩
        rw [hD.2.2.2.1, kd_0]
        rw [nmS_Q FB] at hE1
        rw [nmS_Q FC, nmS_Q FB] at hE2
        rw [nmA] at hE0 hE1 hE2
        refine ⟨fun c => ?_, fun c => ?_⟩
        · have h9 := K1 (decide_eq_true c) D FSD hD.2.1
          unfold fF at h9
          refine j145 D v0 v1 v2 ⟨fun w => ?_, fun w => ?_, fun w => ?_⟩
          · rw [if_pos w] at h9
            rw [← Ev_val hE0 (by omega)]
            exact h9
          · rw [if_neg (by omega), if_pos w] at h9
            rw [← Ev_val hE1 (by omega)]
            exact h9
          · rw [if_neg (by omega), if_neg (by omega)] at h9
            rw [← Ev_val hE2 (by omega)]
            exact h9
        · exact m_fail hD (fun V FV hbd hf => all V v0 v1 v2 (fun v => K0 (decide_eq_false c) V v (FrP_trans FSD (FrQ_P FV)) hbd hf))
      · rw [if_neg (by rw [r2]; exact Bool.false_ne_true)] at K0
        exact b125 D v0 v1 v2 hbd (fun v => K0 rfl D v (FrP_trans FSA (FrQ_P (FrQ_trans (FrQ_trans FB FC) FD))) hbd hf)
    · rw [if_neg (by rw [r1]; exact Bool.false_ne_true)] at K0
      exact b91 C v0 v1 hbd (fun v => K0 rfl C v (FrP_trans FSA (FrQ_P (FrQ_trans FB FC))) hbd hf)
  · rw [if_neg (by rw [r0]; exact Bool.false_ne_true)] at K0
    exact ⟨fun q => absurd q hbd, fun _ => b91 B v0 0 hbd (fun v => K0 rfl B v (FrP_trans FSA (FrQ_P FB)) hbd hf)⟩
theorem m_ev {b by1 : Nat → Int32} {n : Nat} (hn : n ≤ 160) (hB : ∀ i, i < n → rg (b i) 255) (h : (rdP b n).1 = true) (hb : ∀ i, i < n → by1 i = b i) : MEv (fF (rdP b n).2.1) (nI n) by1 := by
  intro S t wh Q ht hwh hs hby hQ
  refine m_read ⟨hn, ht, hB⟩ hwh hs (fun i hi => by rw [hby i (by omega)]; exact hb i hi) (fun _ T F _ => hQ T F) (fun q => ?_)
  rw [h] at q
  exact absurd q.symm Bool.false_ne_true
theorem MEv_cong {f : Nat → Int32 → Int32 → Int32 → Int32 → Int32 → Int32 → Int32} {sz : Int32} {by1 by2 : Nat → Int32} (e : ∀ i, i < 160 → by2 i = by1 i) (h : MEv f sz by1) : MEv f sz by2 := fun S t wh Q ht hwh hs hb hQ => h S t wh Q ht hwh hs (fun i hi => (hb i hi).trans (e i hi)) hQ
theorem TR_cong {ob : OT} {sz : Int32} {by1 by2 : Nat → Int32} (e : ∀ i, i < 160 → by2 i = by1 i) (h : TR0 ob sz by1) : TR0 ob sz by2 := by
  obtain ⟨f, h1, h2⟩ := h
  exact ⟨f, h1, MEv_cong e h2⟩
/-- text, of the reference -/
theorem m_text {S : St} {n k : Nat} {Q : Int32 → St → Prop} (hk : k < 6) (hn : n ≤ 160) (e3 : gI S 16 3 = nI k) (e6 : gI S 16 6 = nI n) (hB : ∀ i, i < n → rg (gA S 16 5 i) 255)
    (K1 : (rdP (gA S 16 5) n).1 = true → ∀ T, (∀ f, ¬ f = 3 → ¬ f = 6 → (f < 14 ∨ 29 ≤ f) → gI T 16 f = gI S 16 f) → (∀ f, ¬ f = 1 → ¬ f = 2 → gA T 16 f = gA S 16 f) → (∀ f, ¬ f = 25 → gJ T 16 f = gJ S 16 f) → gI T 16 6 = 0 → gI T 16 3 = nI (k + 1) → (∀ q, ¬ q = k → gA T 16 2 q = gA S 16 2 q) → gA T 16 2 k = nI n → (∀ i, i < n → gA T 16 1 (160 * k + i) = gA S 16 5 i) → (∀ q, q < 160 * k → gA T 16 1 q = gA S 16 1 q) → Q (nI k) T)
    (K0 : (rdP (gA S 16 5) n).1 = false → ∀ T, (∀ f, ¬ f = 6 → (f < 14 ∨ 29 ≤ f) → gI T 16 f = gI S 16 f) → (∀ f, ¬ f = 1 → ¬ f = 2 → gA T 16 f = gA S 16 f) → (∀ f, ¬ f = 25 → gJ T 16 f = gJ S 16 f) → gI T 16 6 = 0 → (∀ q, ¬ q = k → gA T 16 2 q = gA S 16 2 q) → (∀ q, q < 160 * k → gA T 16 1 q = gA S 16 1 q) → Q (-100 - nI (lxA (gA S 16 5) n (rdP (gA S 16 5) n).2.2)) T) : wX6_text S Q := by
  unfold wX6_text
  rw [e3, show (6 : Int32) = nI 6 from rfl, nI_eq (by omega) (by decide)]
  refine ⟨fun _ => ⟨n + 1, ?_⟩, fun q => absurd q (by omega)⟩
  have m160 : (160 : Int32) * nI k = nI (160 * k) := (Int32.ofNat_mul 160 k).symm
  have main : ∀ (m i : Nat) (T : St), i + m = n → (∀ f, gI T 16 f = gI S 16 f) → (∀ f, ¬ f = 1 → gA T 16 f = gA S 16 f) → (∀ f, gJ T 16 f = gJ S 16 f) → (∀ j, j < i → gA T 16 1 (160 * k + j) = gA S 16 5 j) → (∀ q, q < 160 * k → gA T 16 1 q = gA S 16 1 q) → wX6_text_l14 (m + 1) (nI i) T Q := by
    intro m
    induction m with
    | zero =>
      intro i T hi fI fA fJ fc fo
      have ei : i = n := by omega
      subst ei
      apply wX6_text_l14_1
      unfold wX6_text_l14s
      rw [fI 6, e6, fI 3, e3, nI_clamp (n := k) (by omega)]
      refine ⟨fun _ => ⟨vp_in_nI hk (by decide), fun σ4 s4 σ5 s5 => ?_⟩, fun q => absurd (Int32.le_refl _) q⟩
      have h3 : gI σ5 16 3 = nI k := by rw [s5, gI_sIf _ _ _ _ (by decide), s4, gI_sA, fI 3]; exact e3
      have h6 : gI σ5 16 6 = 0 := by rw [s5, gI_sIs]
      have hI : ∀ f, ¬ f = 6 → gI σ5 16 f = gI S 16 f := fun f h => by rw [s5, gI_sIf _ _ _ _ (by omega), s4, gI_sA, fI f]
      have hA : ∀ f, ¬ f = 1 → ¬ f = 2 → gA σ5 16 f = gA S 16 f := fun f h h2 => by rw [s5, gA_sI, s4, gA_sAf _ _ _ _ _ (by omega), fA f h]
      have hA1 : gA σ5 16 1 = gA T 16 1 := by rw [s5, gA_sI, s4, gA_sAf _ _ _ _ _ (by omega)]
      have hA2 : gA σ5 16 2 = upd (gA S 16 2) k (nI i) := by rw [s5, gA_sI, s4, gA_sAs, fA 2 (by decide)]
      have hJ : ∀ f, gJ σ5 16 f = gJ S 16 f := fun f => by rw [s5, gJ_sI, s4, gJ_sA, fJ f]
      have h2k : gA σ5 16 2 k = nI i := by rw [hA2]; unfold upd; rw [if_pos rfl]
      have h2o : ∀ q, ¬ q = k → gA σ5 16 2 q = gA S 16 2 q := fun q hq => by rw [hA2]; unfold upd; rw [if_neg hq]
      rw [h3]
      refine m_read (wh := 0) ⟨hn, hk, hB⟩ (by decide) h2k (fun j hj => by rw [hA1]; exact fc j hj) (fun r1 U F u27 => ⟨fun _ σ9 s9 => ?_, fun q => absurd u27 q⟩) (fun r0 U v F u27 u28 => ⟨fun q => absurd q u27, fun _ => ?_⟩)
      · have u3 : gI U 16 3 = nI k := by rw [F.1 3 (by decide)]; exact h3
        rw [u3, nI_1] at s9
        have s3 : gI σ9 16 3 = nI (k + 1) := by rw [s9, gI_sIs]
        rw [s3, nI_pred]
        refine K1 r1 σ9 (fun f a1 a2 a3 => ?_) (fun f a1 a2 => ?_) (fun f a1 => ?_) ?_ s3 (fun q hq => ?_) ?_ (fun j hj => ?_) (fun q hq => ?_)
        · rw [s9, gI_sIf _ _ _ _ (by omega), F.1 f a3]; exact hI f a2
        · rw [s9, gA_sI, F.2.1]; exact hA f a1 a2
        · rw [s9, gJ_sI, F.2.2 f a1]; exact hJ f
        · rw [s9, gI_sIf _ _ _ _ (by decide), F.1 6 (by decide)]; exact h6
        · rw [s9, gA_sI, F.2.1]; exact h2o q hq
        · rw [s9, gA_sI, F.2.1]; exact h2k
        · rw [s9, gA_sI, F.2.1, hA1]; exact fc j hj
        · rw [s9, gA_sI, F.2.1, hA1]; exact fo q hq
      · rw [u28]
        refine K0 r0 U (fun f a1 a3 => ?_) (fun f a1 a2 => ?_) (fun f a1 => ?_) ?_ (fun q hq => ?_) (fun q hq => ?_)
        · rw [F.1 f a3]; exact hI f a1
        · rw [F.2.1]; exact hA f a1 a2
        · rw [F.2.2 f a1]; exact hJ f
        · rw [F.1 6 (by decide)]; exact h6
        · rw [F.2.1]; exact h2o q hq
        · rw [F.2.1, hA1]; exact fo q hq
    | succ m ih =>
      intro i T hi fI fA fJ fc fo
      apply wX6_text_l14_1
      unfold wX6_text_l14s
      rw [fI 6, e6, fI 3, e3, m160, nI_add, nI_clamp (n := i) (by omega), nI_clamp (n := 160 * k + i) (by omega), fA 5 (by decide)]
      refine ⟨fun q => absurd q (nle (by omega) (by omega)), fun _ => ⟨vp_in_nI (by omega) (by decide), vp_in_nI (by omega) (by decide), fun σ12 s12 x13 e13 => ?_⟩⟩
      rw [e13, nI_1]
      refine ih (i + 1) σ12 (by omega) (fun f => by rw [s12, gI_sA, fI f]) (fun f hf => by rw [s12, gA_sAf _ _ _ _ _ (by omega), fA f hf]) (fun f => by rw [s12, gJ_sA, fJ f]) (fun j hj => ?_) (fun q hq => ?_)
      · rw [s12, gA_sA]
        by_cases ej : j = i
        · subst ej; rw [if_pos ⟨rfl, rfl, rfl⟩]
        · rw [if_neg (by omega)]; exact fc j (by omega)
      · rw [s12, gA_sA, if_neg (by omega)]; exact fo q hq
  exact main n 0 S (by omega) (fun _ => rfl) (fun _ _ => rfl) (fun _ => rfl) (fun j hj => absurd hj (Nat.not_lt_zero j)) (fun _ _ => rfl)
theorem sim5 : Sim5 (Rel TR0) := by
  intro X S hR
  obtain ⟨hW, hI, hT, hP, hSh, hid⟩ := id hR
  obtain ⟨k, k1, k2, e1, e2, ⟨r, hr, e3⟩, e4, e5⟩ := hT
  obtain ⟨n, hn, f1, f2, f3⟩ := hP
  unfold wX5_text
  rw [e1, show (6 : Int32) = nI 6 from rfl, nI_ltI (by omega) (by decide), nI_clamp (n := k) (by omega)]
  refine ⟨fun c => ⟨vp_in_nI c (by decide), fun o3 eo => ?_⟩, fun c => ?_⟩
  · have hCT : CT (gA S 16 5) n X := ⟨f1, fun i hi => (f3 i hi).1⟩
    have hB : ∀ i, i < n → rg (gA S 16 5 i) 255 := fun i hi => (f3 i hi).2
    rw [eo]
    refine c_read hn (by omega) hCT (fun r1 Y y1 y2 y3 yT => ?_) (fun r0 Y y1 y2 y3 => ?_)
    · intro σ6 s6
      refine ⟨fun _ σ8 s8 => ?_, fun q => absurd rfl q⟩
      have g41 : gI σ6 4 1 = nI k := by rw [s6, gI_sIf _ _ _ _ (by decide), gI_same (y1 4 (by decide) (by omega))]; exact e1
      rw [g41, nI_1] at s8
      have g8 : gI σ8 4 1 = nI (k + 1) := by rw [s8, gI_sIs]
      rw [g8, nI_pred]
      have oth : ∀ q, ¬ q = 4 → ¬ q = 5 → ¬ q = 6 + k → σ8 q = X q := fun q h4 h5 h6 => by rw [s8, o_sI h4, s6, o_sI h5]; exact y1 q h5 h6
      refine m_text c hn e2 f2 hB (fun _ T t1 t2 t3 t6 t4 t5 t7 t8 t9 => ⟨rfl, ?_, ?_, ?_, ?_, ?_, ?_⟩) (fun q => ?_)
      · exact RW_cong (oth 1 (by decide) (by decide) (by omega)) (t3 8 (by decide)) (t1 7 (by decide) (by decide) (by decide)) (t1 4 (by decide) (by decide) (by decide)) (t1 12 (by decide) (by decide) (by decide)) (t2 10 (by decide) (by decide)) (t2 11 (by decide) (by decide)) (t2 9 (by decide) (by decide)) hW
      · exact RI_cong (gI_same (oth 0 (by decide) (by decide) (by omega))) (oth 3 (by decide) (by decide) (by omega)) (t3 38 (by decide)) (t1 36 (by decide) (by decide) (by decide)) (t1 37 (by decide) (by decide) (by decide)) (t1 35 (by decide) (by decide) (by decide)) (t2 34 (by decide) (by decide)) (t2 32 (by decide) (by decide)) (t2 33 (by decide) (by decide)) hI
      · refine ⟨k + 1, by omega, by omega, g8, t4, ⟨r, by omega, by rw [t1 4 (by decide) (by decide) (by decide)]; exact e3⟩, ?_, fun t ht => ?_⟩
        · rw [t1 35 (by decide) (by decide) (by decide), t1 37 (by decide) (by decide) (by decide)]
          rcases e4 with q | ⟨r', h1, h2⟩
          · exact Or.inl q
          · exact Or.inr ⟨r', by omega, h2⟩
        · by_cases et : t = k
          · subst et
            have eY : σ8 (6 + t) = Y (6 + t) := by rw [s8, o_sI (by omega), s6, o_sI (by omega)]
            rw [eY, t7]
            have hw := rd_wf r1
            exact ⟨fF (rdP (gA S 16 5) n).2.1, c_ev yT hw.1 hw.2.1 hw.2.2, m_ev hn hB r1 t8⟩
          · rw [oth (6 + t) (by omega) (by omega) (by omega), t5 t et]
            exact TR_cong (fun i hi => t9 _ (by omega)) (e5 t (by omega))
      · exact ⟨0, by decide, by rw [s8, gI_sIf _ _ _ _ (by decide), s6, gI_sIs]; rfl, t6, fun i hi => absurd hi (Nat.not_lt_zero i)⟩
      · exact RSh_cong (fun s hs => oth _ (by omega) (by omega) (by omega)) (t2 39 (by decide) (by decide)) (t2 40 (by decide) (by decide)) (t2 41 (by decide) (by decide)) (t2 42 (by decide) (by decide)) hSh
      · rw [t1 13 (by decide) (by decide) (by decide)]; exact hid
      · rw [r1] at q; exact absurd q.symm Bool.false_ne_true
    · intro σ6 s6
      have hx : ¬ nI (lxA (gA S 16 5) n (rdP (gA S 16 5) n).2.2) = -1 := by
        intro q
        have h9 := congrArg Int32.toInt q
        have hle : lxA (gA S 16 5) n (rdP (gA S 16 5) n).2.2 ≤ n := by
          have hg := (Gd_P (nu := nuP (gA S 16 5) n) (Lx_of (gA S 16 5) n) 5).1
          have g0 := Gd_pt (k := 0) (by decide) (Lx_of (gA S 16 5) n) hg 0 (Nat.zero_le n)
          have g1 := Gd_pt (k := 1) (by decide) (Lx_of (gA S 16 5) n) hg _ g0.2.1
          have g2 := Gd_pt (k := 2) (by decide) (Lx_of (gA S 16 5) n) hg _ g1.2.1
          refine (lx_le ?_).2
          unfold rdP pRd
          split
          · split
            · split
              · exact g2.2.1
              · exact g2.2.1
            · exact g1.2.1
          · exact g0.2.1
        rw [nI_toInt (by omega)] at h9
        have : (-1 : Int32).toInt = -1 := rfl
        omega
      refine ⟨fun q => absurd q hx, fun _ => ?_⟩
      have oth : ∀ q, ¬ q = 5 → ¬ q = 6 + k → σ6 q = X q := fun q h5 h6 => by rw [s6, o_sI h5]; exact y1 q h5 h6
      refine m_text c hn e2 f2 hB (fun q => ?_) (fun _ T t1 t2 t3 t6 t5 t9 => ⟨rfl, ?_, ?_, ?_, ?_, ?_, ?_⟩)
      · rw [r0] at q; exact absurd q Bool.false_ne_true
      · exact RW_cong (oth 1 (by decide) (by omega)) (t3 8 (by decide)) (t1 7 (by decide) (by decide)) (t1 4 (by decide) (by decide)) (t1 12 (by decide) (by decide)) (t2 10 (by decide) (by decide)) (t2 11 (by decide) (by decide)) (t2 9 (by decide) (by decide)) hW
      · exact RI_cong (gI_same (oth 0 (by decide) (by omega))) (oth 3 (by decide) (by omega)) (t3 38 (by decide)) (t1 36 (by decide) (by decide)) (t1 37 (by decide) (by decide)) (t1 35 (by decide) (by decide)) (t2 34 (by decide) (by decide)) (t2 32 (by decide) (by decide)) (t2 33 (by decide) (by decide)) hI
      · refine ⟨k, k1, k2, by rw [gI_same (oth 4 (by decide) (by omega))]; exact e1, by rw [t1 3 (by decide) (by decide)]; exact e2, ⟨r, hr, by rw [t1 4 (by decide) (by decide)]; exact e3⟩, by rw [t1 35 (by decide) (by decide), t1 37 (by decide) (by decide)]; exact e4, fun t ht => ?_⟩
        rw [oth (6 + t) (by omega) (by omega), t5 t (by omega)]
        exact TR_cong (fun i hi => t9 _ (by omega)) (e5 t (by omega))
      · exact ⟨0, by decide, by rw [s6, gI_sIs]; rfl, t6, fun i hi => absurd hi (Nat.not_lt_zero i)⟩
      · exact RSh_cong (fun s hs => oth _ (by omega) (by omega)) (t2 39 (by decide) (by decide)) (t2 40 (by decide) (by decide)) (t2 41 (by decide) (by decide)) (t2 42 (by decide) (by decide)) hSh
      · rw [t1 13 (by decide) (by decide)]; exact hid
  · unfold wX6_text
    refine ⟨fun q => absurd ?_ q, fun _ => ⟨rfl, hR⟩⟩
    rw [e2, show k = 6 by omega]
    rfl
