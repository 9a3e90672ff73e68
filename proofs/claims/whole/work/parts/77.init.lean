/-! the start -/
def b48 (i : Nat) : Int32 := ([110, 101, 101, 100, 115, 32, 50, 32, 59, 32, 115, 101, 101, 115, 32, 100, 97, 121, 32, 59, 32, 116, 117, 114, 110, 115, 32, 100, 97, 121, 32, 43, 32, 110, 117, 109, 98, 101, 114, 32, 59, 32, 32, 32, 32, 32, 32, 32] : List Int32).getD i 0
set_option maxRecDepth 100000 in
theorem rd41 : rdP (strAt 12) 41 = (true, ([2], [-4], [-4, -3, -25]), 41) := by decide +kernel
set_option maxRecDepth 100000 in
theorem rd48 : rdP b48 48 = (true, ([2], [-4], [-4, -3, -25]), 41) := by decide +kernel
theorem b48_rg : ∀ i, i < 48 → rg (b48 i) 255 := by
  have h : ∀ i, i < 48 → (b48 i).toNatClampNeg ≤ 255 ∧ b48 i = nI (b48 i).toNatClampNeg := by decide +kernel
  intro i hi
  exact ⟨_, (h i hi).1, (h i hi).2⟩
theorem wan_tb : ∀ c, c < 64 → ∀ k, k < 4 → tb (wanW k) c = decide (nI (c % 4) = nI k) := by decide +kernel
theorem c_init {Q : St → Prop} (h : ∀ X, (∀ q, ¬ q = 4 → ¬ q = 5 → ¬ q = 6 → X q = s0C q) → gI X 4 1 = nI 1 → gI X 5 1 = nI 0 → TXT (X 6) ([2], [-4], [-4, -3, -25]) → Q X) : wX5_initT s0C Q := by
  have e41 : strLn 12 = nI 41 := rfl
  have l41 : strL.getD 12 0 = 41 := rfl
  have main : ∀ (m i : Nat) (T : St), i + m = 41 → (∀ q, ¬ q = 5 → T q = s0C q) → gI T 5 1 = nI i → (∀ j, j < i → gA T 5 0 j = strAt 12 j) → wX5_init_l100 (m + 1) (nI i) T Q := by
    intro m
    induction m with
    | zero =>
      intro i T hi f1 f2 f3
      have ei : i = 41 := by omega
      subst ei
      apply wX5_init_l100_1
      refine ⟨fun _ o2 eo => ?_, fun q => absurd (by rw [e41]; exact Int32.le_refl _) q⟩
      have eo6 : o2 = 6 := eo
      rw [eo6]
      have hCT : CT (strAt 12) 41 T := ⟨f2, f3⟩
      refine c_read (b := strAt 12) (n := 41) (by decide) (by decide) hCT (fun _ Y y1 y2 y3 yT => ?_) (fun q => ?_)
      · rw [rd41] at yT
        intro σ5 s5 σ6 s6
        refine h σ6 (fun q h4 h5 h6 => ?_) ?_ ?_ ?_
        · rw [s6, o_sI h4, s5, o_sI h5, y1 q h5 h6]; exact f1 q h5
        · rw [s6, gI_sIs]; rfl
        · rw [s6, gI_sIf _ _ _ _ (by decide), s5, gI_sIs]; rfl
        · have e6 : σ6 6 = Y 6 := by rw [s6, o_sI (by decide), s5, o_sI (by decide)]
          rw [e6]; exact yT
      · rw [rd41] at q
        exact absurd q.symm Bool.false_ne_true
    | succ m ih =>
      intro i T hi f1 f2 f3
      apply wX5_init_l100_1
      refine ⟨fun q => absurd q (by rw [e41]; exact nle (by omega) (by decide)), fun _ => ⟨by rw [l41]; exact vp_in_nI (by omega) (by decide), ?_⟩⟩
      unfold wX0_append
      rw [f2, nI_clamp (n := i) (by omega), show (160 : Int32) = nI 160 from rfl, nI_ltI (by omega) (by decide)]
      refine ⟨fun _ => ⟨vp_in_nI (by omega) (by decide), fun σ3 s3 σ4 s4 x10 e10 => ?_⟩, fun q => absurd (by omega) q⟩
      have g3 : gI σ3 5 1 = nI i := by rw [s3, gI_sA]; exact f2
      rw [g3, nI_1] at s4
      rw [e10, nI_1]
      refine ih (i + 1) σ4 (by omega) (fun q hq => by rw [s4, o_sI hq, s3, o_sA hq]; exact f1 q hq) (by rw [s4, gI_sIs]) (fun j hj => ?_)
      rw [s4, gA_sI, s3, gA_sA]
      by_cases ej : j = i
      · rw [if_pos ⟨rfl, rfl, ej⟩, ej]
      · rw [if_neg (fun q => ej q.2.2)]; exact f3 j (by omega)
  exact ⟨42, main 41 0 s0C (by omega) (fun _ _ => rfl) rfl (fun j hj => absurd hj (Nat.not_lt_zero j))⟩
theorem ad5 (q : Nat) : nI q + 5 = nI (q + 5) := nI_add q 5
theorem ad6 (q : Nat) : nI q + 6 = nI (q + 6) := nI_add q 6
theorem ad7 (q : Nat) : nI q + 7 = nI (q + 7) := nI_add q 7
theorem m_spell {S : St} {p : Nat} {q0 q1 q2 q3 q4 q5 q6 q7 : Int32} {Q : St → Prop} (hp : p + 8 ≤ 960) (h : ∀ T, (∀ f, gI T 16 f = gI S 16 f) → (∀ f, gJ T 16 f = gJ S 16 f) → (∀ f, ¬ f = 1 → gA T 16 f = gA S 16 f) → (∀ j, j < 8 → gA T 16 1 (p + j) = [q0, q1, q2, q3, q4, q5, q6, q7].getD j 0) → (∀ j, (j < p ∨ p + 8 ≤ j) → gA T 16 1 j = gA S 16 1 j) → Q T) : wX6_spell (nI p) q0 q1 q2 q3 q4 q5 q6 q7 S Q := by
  unfold wX6_spell
  rw [ad1, ad2, ad3, ad4, ad5, ad6, ad7, nI_clamp (n := p) (by omega), nI_clamp (n := p + 1) (by omega), nI_clamp (n := p + 2) (by omega), nI_clamp (n := p + 3) (by omega), nI_clamp (n := p + 4) (by omega), nI_clamp (n := p + 5) (by omega), nI_clamp (n := p + 6) (by omega), nI_clamp (n := p + 7) (by omega)]
  refine ⟨vp_in_nI (by omega) (by decide), fun a0 s0 => ⟨vp_in_nI (by omega) (by decide), fun a1 s1 => ⟨vp_in_nI (by omega) (by decide), fun a2 s2 => ⟨vp_in_nI (by omega) (by decide), fun a3 s3 => ⟨vp_in_nI (by omega) (by decide), fun a4 s4 => ⟨vp_in_nI (by omega) (by decide), fun a5 s5 => ⟨vp_in_nI (by omega) (by decide), fun a6 s6 => ⟨vp_in_nI (by omega) (by decide), fun a7 s7 => ?_⟩⟩⟩⟩⟩⟩⟩⟩
  refine h a7 (fun f => ?_) (fun f => ?_) (fun f hf => ?_) (fun j hj => ?_) (fun j hj => ?_)
  · rw [s7, gI_sA, s6, gI_sA, s5, gI_sA, s4, gI_sA, s3, gI_sA, s2, gI_sA, s1, gI_sA, s0, gI_sA]
  · rw [s7, gJ_sA, s6, gJ_sA, s5, gJ_sA, s4, gJ_sA, s3, gJ_sA, s2, gJ_sA, s1, gJ_sA, s0, gJ_sA]
  · have hf' : ¬ (16 = 16 ∧ f = 1) := fun q => hf q.2
    rw [s7, gA_sAf _ _ _ _ _ hf', s6, gA_sAf _ _ _ _ _ hf', s5, gA_sAf _ _ _ _ _ hf', s4, gA_sAf _ _ _ _ _ hf', s3, gA_sAf _ _ _ _ _ hf', s2, gA_sAf _ _ _ _ _ hf', s1, gA_sAf _ _ _ _ _ hf', s0, gA_sAf _ _ _ _ _ hf']
  · rw [s7, gA_sA, s6, gA_sA, s5, gA_sA, s4, gA_sA, s3, gA_sA, s2, gA_sA, s1, gA_sA, s0, gA_sA]
    match j, hj with
    | 0, _ | 1, _ | 2, _ | 3, _ | 4, _ | 5, _ | 6, _ | 7, _ => simp
  · rw [s7, gA_sA, if_neg (by omega), s6, gA_sA, if_neg (by omega), s5, gA_sA, if_neg (by omega), s4, gA_sA, if_neg (by omega), s3, gA_sA, if_neg (by omega), s2, gA_sA, if_neg (by omega), s1, gA_sA, if_neg (by omega), s0, gA_sA, if_neg (by omega)]
theorem m_init {Q : St → Prop} (h : ∀ S, (∀ f, ¬ f = 3 → gI S 16 f = gI (fun _ => w0M) 16 f) → (∀ f, gJ S 16 f = 0) → (∀ f, ¬ f = 1 → ¬ f = 2 → ¬ f = 9 → gA S 16 f = fun _ => 0) → gI S 16 3 = nI 1 → gA S 16 2 0 = nI 48 → (∀ c, c < 64 → gA S 16 9 c = nI (c % 4)) → (∀ i, i < 48 → gA S 16 1 i = b48 i) → Q S) : wX6_initT (fun _ => w0M) Q := by
  have main : ∀ (m i : Nat) (T : St), i + m = 64 → (∀ f, gI T 16 f = gI (fun _ => w0M) 16 f) → (∀ f, gJ T 16 f = 0) → (∀ f, ¬ f = 9 → gA T 16 f = fun _ => 0) → (∀ c, c < i → gA T 16 9 c = nI (c % 4)) → wX6_init_l134 (m + 1) (nI i) T Q := by
    intro m
    induction m with
    | zero =>
      intro i T hi f1 f2 f3 f4
      have ei : i = 64 := by omega
      subst ei
      apply wX6_init_l134_1
      refine ⟨fun _ => ?_, fun q => absurd (Int32.le_refl _) q⟩
      refine m_spell (p := 0) (by decide) (fun A a1 a2 a3 a4 a5 => m_spell (p := 8) (by decide) (fun B b1 b2 b3 b4 b5 => m_spell (p := 16) (by decide) (fun C c1 c2 c3 c4 c5 => m_spell (p := 24) (by decide) (fun D d1 d2 d3 d4 d5 => m_spell (p := 32) (by decide) (fun E e1 e2 e3 e4 e5 => m_spell (p := 40) (by decide) (fun F g1 g2 g3 g4 g5 σ8 s8 σ9 s9 => ?_))))))
      have c0 : (0 : Int32).toNatClampNeg = 0 := rfl
      rw [c0] at s8
      refine h σ9 (fun f hf => ?_) (fun f => ?_) (fun f h1 h2 h9 => ?_) ?_ ?_ (fun c hc => ?_) (fun i hi => ?_)
      · rw [s9, gI_sIf _ _ _ _ (by omega), s8, gI_sA, g1, e1, d1, c1, b1, a1, f1]
      · rw [s9, gJ_sI, s8, gJ_sA, g2, e2, d2, c2, b2, a2, f2]
      · rw [s9, gA_sI, s8, gA_sAf _ _ _ _ _ (by omega), g3 f h1, e3 f h1, d3 f h1, c3 f h1, b3 f h1, a3 f h1, f3 f h9]
      · rw [s9, gI_sIs]; rfl
      · rw [s9, gA_sI, s8, gA_sA, if_pos ⟨rfl, rfl, rfl⟩]; rfl
      · rw [s9, gA_sI, s8, gA_sAf _ _ _ _ _ (by decide), g3 9 (by decide), e3 9 (by decide), d3 9 (by decide), c3 9 (by decide), b3 9 (by decide), a3 9 (by decide)]
        exact f4 c hc
      · rw [s9, gA_sI, s8, gA_sAf _ _ _ _ _ (by decide)]
        have k6 : i / 8 = 0 ∨ i / 8 = 1 ∨ i / 8 = 2 ∨ i / 8 = 3 ∨ i / 8 = 4 ∨ i / 8 = 5 := by omega
        obtain ⟨j, hj⟩ : ∃ j, i % 8 = j := ⟨_, rfl⟩
        have hj8 : j < 8 := by omega
        rcases k6 with q | q | q | q | q | q
        · have e : i = 0 + j := by omega
          have t : ∀ j, j < 8 → ([110, 101, 101, 100, 115, 32, 50, 32] : List Int32).getD j 0 = b48 (0 + j) := by decide
          rw [g5 i (by omega), e5 i (by omega), d5 i (by omega), c5 i (by omega), b5 i (by omega), e, a4 j hj8, t j hj8]
        · have e : i = 8 + j := by omega
          have t : ∀ j, j < 8 → ([59, 32, 115, 101, 101, 115, 32, 100] : List Int32).getD j 0 = b48 (8 + j) := by decide
          rw [g5 i (by omega), e5 i (by omega), d5 i (by omega), c5 i (by omega), e, b4 j hj8, t j hj8]
        · have e : i = 16 + j := by omega
          have t : ∀ j, j < 8 → ([97, 121, 32, 59, 32, 116, 117, 114] : List Int32).getD j 0 = b48 (16 + j) := by decide
          rw [g5 i (by omega), e5 i (by omega), d5 i (by omega), e, c4 j hj8, t j hj8]
        · have e : i = 24 + j := by omega
          have t : ∀ j, j < 8 → ([110, 115, 32, 100, 97, 121, 32, 43] : List Int32).getD j 0 = b48 (24 + j) := by decide
          rw [g5 i (by omega), e5 i (by omega), e, d4 j hj8, t j hj8]
        · have e : i = 32 + j := by omega
          have t : ∀ j, j < 8 → ([32, 110, 117, 109, 98, 101, 114, 32] : List Int32).getD j 0 = b48 (32 + j) := by decide
          rw [g5 i (by omega), e, e4 j hj8, t j hj8]
        · have e : i = 40 + j := by omega
          have t : ∀ j, j < 8 → ([59, 32, 32, 32, 32, 32, 32, 32] : List Int32).getD j 0 = b48 (40 + j) := by decide
          rw [e, g4 j hj8, t j hj8]
    | succ m ih =>
      intro i T hi f1 f2 f3 f4
      apply wX6_init_l134_1
      unfold wX6_init_l134s
      rw [nI_clamp (n := i) (by omega), mod4 (by omega)]
      refine ⟨fun q => absurd q (nle (N := 64) (k := i) (by omega) (by decide)), fun _ => ⟨vp_in_nI (by omega) (by decide), fun σ11 s11 x12 e12 => ?_⟩⟩
      rw [e12, nI_1]
      refine ih (i + 1) σ11 (by omega) (fun f => by rw [s11, gI_sA]; exact f1 f) (fun f => by rw [s11, gJ_sA]; exact f2 f) (fun f hf => by rw [s11, gA_sAf _ _ _ _ _ (by omega)]; exact f3 f hf) (fun c hc => ?_)
      rw [s11, gA_sA]
      by_cases ec : c = i
      · rw [if_pos ⟨rfl, rfl, ec⟩, ec]
      · rw [if_neg (fun q => ec q.2.2)]; exact f4 c (by omega)
  exact ⟨65, main 64 0 (fun _ => w0M) (by omega) (fun _ => rfl) (fun _ => rfl) (fun _ _ => rfl) (fun c hc => absurd hc (Nat.not_lt_zero c))⟩
theorem initR : wX5_initT s0C (fun X => wX6_initT (fun _ => w0M) (fun S => Rel TR0 X S)) := by
  refine c_init (fun X x1 x2 x3 x4 => m_init (fun S s1 s2 s3 s4 s5 s6 s7 => ?_))
  have X0 : X 0 = w0T := x1 0 (by decide) (by decide) (by decide)
  have X1 : X 1 = w0W := x1 1 (by decide) (by decide) (by decide)
  have z0 : ∀ m, rg 0 m := fun m => ⟨0, Nat.zero_le m, rfl⟩
  have sI0 : ∀ f, ¬ f = 3 → ¬ f = 13 → ¬ f = 35 → gI S 16 f = 0 := by
    intro f h3 h13 h35
    rw [s1 f h3]
    unfold gI w0M va_up
    show (if f = 35 then (-1 : Int32) else if f = 13 then -1 else 0) = 0
    rw [if_neg h35, if_neg h13]
  have s13 : gI S 16 13 = -1 := by rw [s1 13 (by decide)]; rfl
  have s35 : gI S 16 35 = -1 := by rw [s1 35 (by decide)]; rfl
  have hw := rd_wf (b := strAt 12) (n := 41) (by rw [rd41])
  rw [rd41] at hw
  refine ⟨⟨?_, ?_⟩, ?_, ?_, ?_, ?_, s13⟩
  · rw [s2, sI0 7 (by decide) (by decide) (by decide), sI0 4 (by decide) (by decide) (by decide), sI0 12 (by decide) (by decide) (by decide), s3 10 (by decide) (by decide) (by decide), s3 11 (by decide) (by decide) (by decide)]
    unfold WRel gI gJ gA gB
    rw [X1]
    refine ⟨⟨rfl, rfl, rfl, rfl, z0 5⟩, fun c hc => ⟨rfl, z0 99⟩, fun p hp => ⟨⟨rfl, rfl, rfl, rfl, rfl⟩, z0 5, z0 9, z0 3, z0 99, z0 99⟩, fun c hc => ?_⟩
    have e9 : (S 16).2.2.1 9 c = nI (c % 4) := s6 c hc
    rw [e9]
    exact ⟨⟨c % 4, by omega, rfl⟩, fun k hk => wan_tb c hc k hk⟩
  · rw [sI0 7 (by decide) (by decide) (by decide)]; exact z0 999
  · refine Or.inl ⟨?_, s35⟩
    unfold gI
    rw [X0]
    rfl
  · refine ⟨1, by decide, by decide, x2, s4, ⟨0, by decide, by rw [sI0 4 (by decide) (by decide) (by decide)]; rfl⟩, Or.inl s35, fun t ht => ?_⟩
    have et : t = 0 := by omega
    subst et
    rw [s5]
    refine ⟨fF ([2], [-4], [-4, -3, -25]), c_ev x4 hw.1 hw.2.1 hw.2.2, ?_⟩
    have hm := m_ev (b := b48) (by1 := fun i => gA S 16 1 (160 * 0 + i)) (n := 48) (by decide) b48_rg (by rw [rd48]) (fun i hi => by rw [Nat.mul_zero, Nat.zero_add]; exact s7 i hi)
    rw [rd48] at hm
    exact hm
  · exact ⟨0, by decide, x3, by rw [sI0 6 (by decide) (by decide) (by decide)]; rfl, fun i hi => absurd hi (Nat.not_lt_zero i)⟩
  · intro s hs
    refine Or.inl ⟨?_, by rw [s3 39 (by decide) (by decide) (by decide)]⟩
    have e : X (12 + s) = w0S := by
      rw [x1 (12 + s) (by omega) (by omega) (by omega)]
      unfold s0C
      rw [if_neg (by omega), if_neg (by omega), if_neg (by omega), if_pos (by omega)]
    unfold gI
    rw [e]
    rfl
theorem simR : SimAll (Rel TR0) := ⟨sim0, sim1, sim2, sim3, sim4, sim5, sim6, sim7, sim8, sim9, sim10, sim11, sim12, sim13, sim14, sim15, sim16, sim17, sim18, sim19, sim20, sim21, sim22, sim23, sim24, sim25, sim26, sim27⟩
