/-! gap -/
def lgF (fl : Int64) : Nat → Nat → Int32 × Int32 × Int32 → Int32 × Int32 × Int32
  | 0, _, w => w
  | m + 1, i, w => lgF fl m (i + 1) (if (if tb fl i = true then 0 else w.2.2 + 1) ≤ w.2.1 then (w.1, w.2.1, if tb fl i = true then 0 else w.2.2 + 1) else (nI i - (if tb fl i = true then 0 else w.2.2 + 1) + 1, (if tb fl i = true then 0 else w.2.2 + 1), (if tb fl i = true then 0 else w.2.2 + 1)))
theorem c_gap {X : St} {o : Nat} {fl : Int64} {p : Int32} {Q : Int32 → St → Prop} (e : gJ X o 1 = fl) (h : Q (if p = 0 then (lgF fl 64 0 (-1, 0, 0)).2.1 else (lgF fl 64 0 (-1, 0, 0)).1) X) : wX4_longestGap o p X Q := by
  have main : ∀ (m i : Nat) (be lo si : Int32), i + m = 64 → lgF fl m i (be, lo, si) = lgF fl 64 0 (-1, 0, 0) → wX4_longestGap_l10 (m + 1) o p be lo si (nI i) X Q := by
    intro m
    induction m with
    | zero =>
      intro i be lo si hi er
      have ei : i = 64 := by omega
      subst ei
      have er' : (be, lo, si) = lgF fl 64 0 (-1, 0, 0) := er
      rw [← er'] at h
      apply wX4_longestGap_l10_1
      refine ⟨fun _ => ⟨fun q => ?_, fun q => ?_⟩, fun q => absurd (Int32.le_refl _) q⟩
      · rw [if_pos q] at h; exact h
      · rw [if_neg q] at h; exact h
    | succ m ih =>
      intro i be lo si hi er
      apply wX4_longestGap_l10_1
      unfold lgF at er
      have st : ∀ s0 : Int32, s0 = (if tb fl i = true then 0 else si + 1) → wX4_longestGap_j34 o p be lo (nI i) s0 X (fun q0 a1 a2 a3 a4 a5 σ => wX4_longestGap_l10 (m + 1) q0 a1 a2 a3 a4 a5 σ Q) Q := by
        intro s0 es
        rw [← es] at er
        refine ⟨fun q x7 e7 => ?_, fun q x8 e8 x7 e7 => ?_⟩
        · rw [if_pos q] at er
          rw [e7, nI_1]
          exact ih (i + 1) be lo s0 (by omega) er
        · rw [if_neg q] at er
          rw [e7, nI_1, e8]
          exact ih (i + 1) _ s0 s0 (by omega) er
      refine ⟨fun q => absurd q (nle (N := 64) (k := i) (by omega) (by decide)), fun _ => c_filled (by omega) e (fun t => ⟨fun q => absurd q ne10, fun _ => st 0 (by rw [if_pos t])⟩) (fun t => ⟨fun _ => st (si + 1) (by rw [if_neg (by rw [t]; exact Bool.false_ne_true)]), fun q => absurd rfl q⟩)⟩
  exact ⟨65, main 64 0 (-1) 0 0 (by omega) rfl⟩
theorem m_gap {S : St} {p : Int32} {Q : Int32 → St → Prop} (h : Q (if p = 0 then (lgF (gJ S 16 8) 64 0 (-1, 0, 0)).1 else (lgF (gJ S 16 8) 64 0 (-1, 0, 0)).2.1) S) : wX6_longest p S Q := by
  obtain ⟨fl, efl⟩ : ∃ fl, gJ S 16 8 = fl := ⟨_, rfl⟩
  rw [efl] at h
  have main : ∀ (m i : Nat) (be lo si : Int32), i + m = 64 → lgF fl m i (be, lo, si) = lgF fl 64 0 (-1, 0, 0) → wX6_longest_l10 (m + 1) p be lo si (nI i) S Q := by
    intro m
    induction m with
    | zero =>
      intro i be lo si hi er
      have ei : i = 64 := by omega
      subst ei
      have er' : (be, lo, si) = lgF fl 64 0 (-1, 0, 0) := er
      rw [← er'] at h
      apply wX6_longest_l10_1
      refine ⟨fun _ => ⟨fun q => ?_, fun q => ?_⟩, fun q => absurd (Int32.le_refl _) q⟩
      · rw [if_neg q] at h; exact h
      · rw [if_pos q] at h; exact h
    | succ m ih =>
      intro i be lo si hi er
      apply wX6_longest_l10_1
      unfold lgF at er
      have st : ∀ s0 : Int32, s0 = (if tb fl i = true then 0 else si + 1) → wX6_longest_j37 p be lo (nI i) s0 S (fun a1 a2 a3 a4 a5 σ => wX6_longest_l10 (m + 1) a1 a2 a3 a4 a5 σ Q) Q := by
        intro s0 es
        rw [← es] at er
        refine ⟨fun q x7 e7 => ?_, fun q x8 e8 x7 e7 => ?_⟩
        · rw [if_pos q] at er
          rw [e7, nI_1]
          exact ih (i + 1) be lo s0 (by omega) er
        · rw [if_neg q] at er
          rw [e7, nI_1, e8]
          exact ih (i + 1) _ s0 s0 (by omega) er
      unfold wX6_longest_l10s
      rw [efl]
      refine ⟨fun q => absurd q (nle (N := 64) (k := i) (by omega) (by decide)), fun _ => i_has (by omega) (fun t => ⟨fun q => absurd q ne10, fun _ => st 0 (by rw [if_pos t])⟩) (fun t => ⟨fun _ => st (si + 1) (by rw [if_neg (by rw [t]; exact Bool.false_ne_true)]), fun q => absurd rfl q⟩)⟩
  exact ⟨65, main 64 0 (-1) 0 0 (by omega) rfl⟩
def paF (M : Nat → Int64) (bx : Nat → Int32) : Nat → Nat → Int32 → Int32
  | 0, _, a => a
  | m + 1, k, a => paF M bx m (k + 1) (a + (if nI (pc (M k)) ≤ bx k then nI (pc (M k)) else bx k))
def unF (M : Nat → Int64) : Nat → Nat → Int32 → Int32
  | 0, _, a => a
  | m + 1, k, a => unF M m (k + 1) (if M k = 0 then a ||| ish 1 (nI k) else a)
theorem min_alt (e b : Int32) : (if e < b then e else b) = (if e ≤ b then e else b) := by
  by_cases h : e < b
  · rw [if_pos h, if_pos (Int32.le_of_lt h)]
  · rw [if_neg h]
    by_cases h2 : e ≤ b
    · rw [if_pos h2]
      rw [Int32.lt_iff_toInt_lt] at h
      rw [Int32.le_iff_toInt_le] at h2
      exact Int32.toInt_inj.mp (by omega)
    · rw [if_neg h2]
theorem c_patch {X : St} {o : Nat} {bx : Nat → Int32} {M : Nat → Int64} {Q : Int32 → St → Prop} (hb : ∀ k, k < 4 → gA X o 4 k = bx k) (hM : ∀ k, k < 4 → gB X o 0 k &&& (gJ X o 1 ^^^ (-1)) = M k) (h : Q (paF M bx 4 0 0) X) : wX4_fillableFromBox o X Q := by
  have main : ∀ (m k : Nat) (a : Int32), k + m = 4 → paF M bx m k a = paF M bx 4 0 0 → wX4_fillableFromBox_l4 (m + 1) o a (nI k) X Q := by
    intro m
    induction m with
    | zero =>
      intro k a hk e
      have ek : k = 4 := by omega
      subst ek
      have e' : a = paF M bx 4 0 0 := e
      apply wX4_fillableFromBox_l4_1
      refine ⟨fun _ => by rw [e']; exact h, fun q => absurd (Int32.le_refl _) q⟩
    | succ m ih =>
      intro k a hk e
      apply wX4_fillableFromBox_l4_1
      unfold wX4_fillableFromBox_l4s
      rw [nI_clamp (n := k) (by omega), hM k (by omega), hb k (by omega)]
      have vk : vp_in (nI k) 4 := vp_in_nI (by omega) (by decide)
      refine ⟨fun q => absurd q (nle (N := 4) (k := k) (by omega) (by decide)), fun _ => ⟨vk, vk, i_bitCount (fun x6 e6 x7 e7 => ?_)⟩⟩
      rw [e7, nI_1, e6, min_alt]
      exact ih (k + 1) _ (by omega) e
  exact ⟨5, main 4 0 0 (by omega) rfl⟩
theorem c_unw {X : St} {o : Nat} {M : Nat → Int64} {Q : Int32 → St → Prop} (hM : ∀ k, k < 4 → gB X o 0 k &&& (gJ X o 1 ^^^ (-1)) = M k) (h : Q (unF M 4 0 0) X) : wX4_coloursUnwanted o X Q := by
  have main : ∀ (m k : Nat) (a : Int32), k + m = 4 → unF M m k a = unF M 4 0 0 → wX4_coloursUnwanted_l4 (m + 1) o a (nI k) X Q := by
    intro m
    induction m with
    | zero =>
      intro k a hk e
      have ek : k = 4 := by omega
      subst ek
      have e' : a = unF M 4 0 0 := e
      apply wX4_coloursUnwanted_l4_1
      refine ⟨fun _ => by rw [e']; exact h, fun q => absurd (Int32.le_refl _) q⟩
    | succ m ih =>
      intro k a hk e
      apply wX4_coloursUnwanted_l4_1
      unfold wX4_coloursUnwanted_l4s
      rw [nI_clamp (n := k) (by omega), hM k (by omega), lg_eq0]
      unfold unF at e
      have vk : vp_in (nI k) 4 := vp_in_nI (by omega) (by decide)
      refine ⟨fun q => absurd q (nle (N := 4) (k := k) (by omega) (by decide)), fun _ => ⟨vk, fun q x4 e4 => ?_, fun q x5 e5 x4 e4 => ?_⟩⟩
      · rw [if_neg q] at e
        rw [e4, nI_1]
        exact ih (k + 1) _ (by omega) e
      · rw [if_pos q] at e
        rw [e4, nI_1, e5]
        exact ih (k + 1) _ (by omega) e
  exact ⟨5, main 4 0 0 (by omega) rfl⟩
theorem m_pu {S : St} {M : Nat → Int64} {p : Int32} {Q : Int32 → St → Prop} (hM : ∀ k, k < 4 → ∀ m : Int64, (∀ c, c < 64 → tb m c = decide (gA S 16 9 c = nI k)) → m &&& (gJ S 16 8 ^^^ (-1)) = M k) (h : Q (if p = 2 then paF M (gA S 16 10) 4 0 0 else unF M 4 0 0) S) : ∃ j, wX6_gap_l33 j p 0 0 0 S Q := by
  have i0 : ∀ k, k < 4 → ish 0 (nI k) = 0 := by decide
  have main : ∀ (m k : Nat) (a u : Int32), k + m = 4 → paF M (gA S 16 10) m k a = paF M (gA S 16 10) 4 0 0 → unF M m k u = unF M 4 0 0 → wX6_gap_l33 (m + 1) p a u (nI k) S Q := by
    intro m
    induction m with
    | zero =>
      intro k a u hk e f
      have ek : k = 4 := by omega
      subst ek
      have e' : a = paF M (gA S 16 10) 4 0 0 := e
      have f' : u = unF M 4 0 0 := f
      rw [← e', ← f'] at h
      apply wX6_gap_l33_1
      refine ⟨fun _ => ⟨fun q => ?_, fun q => ?_⟩, fun q => absurd (Int32.le_refl _) q⟩
      · rw [if_neg q] at h; exact h
      · rw [if_pos q] at h; exact h
    | succ m ih =>
      intro k a u hk e f
      apply wX6_gap_l33_1
      unfold wX6_gap_l33s
      rw [nI_clamp (n := k) (by omega)]
      have vk : vp_in (nI k) 4 := vp_in_nI (by omega) (by decide)
      refine ⟨fun q => absurd q (nle (N := 4) (k := k) (by omega) (by decide)), fun _ => i_wanting (fun w hw => i_bitsOf ?_)⟩
      rw [hM k (by omega) w hw]
      unfold paF at e
      unfold unF at f
      have st : ∀ s1 : Int32, s1 = (if nI (pc (M k)) ≤ gA S 16 10 k then nI (pc (M k)) else gA S 16 10 k) → wX6_gap_j84 p u (nI k) (nI (pc (M k))) a s1 S (fun a1 a2 a3 a4 σ => wX6_gap_l33 (m + 1) a1 a2 a3 a4 σ Q) Q := by
        intro s1 es x13 e13
        rw [← es] at e
        have hz : nI (pc (M k)) = 0 ↔ M k = 0 := by
          rw [show (0 : Int32) = nI 0 from rfl, nI_eq (Nat.lt_of_le_of_lt (pc_le _) (by decide)) (by decide)]
          exact pc_zero
        refine ⟨fun q x15 e15 x16 e16 => ?_, fun q x15 e15 x16 e16 => ?_⟩
        · rw [if_neg (fun z => q (hz.mpr z))] at f
          rw [e16, nI_1, e15, e13, i0 k (by omega), Int32.or_zero]
          exact ih (k + 1) _ _ (by omega) e f
        · rw [if_pos (hz.mp q)] at f
          rw [e16, nI_1, e15, e13]
          exact ih (k + 1) _ _ (by omega) e f
      exact ⟨vk, fun q => st _ (by rw [if_pos q]), fun q => ⟨vk, st _ (by rw [if_neg q])⟩⟩
  exact ⟨5, main 4 0 0 0 (by omega) rfl rfl⟩
theorem sim14 {TR : OT → Int32 → (Nat → Int32) → Prop} : Sim14 (Rel TR) := by
  intro X S a hR
  obtain ⟨hW, -⟩ := id hR
  have z3 : (3 : Int64).toInt = ((3 : Nat) : Int) := rfl
  have hfl : gJ X 1 1 = gJ S 16 8 := hW.1.1.1
  have hMx : ∀ k, k < 4 → ∀ m : Int64, (∀ c, c < 64 → tb m c = decide (gA S 16 9 c = nI k)) → m &&& (gJ S 16 8 ^^^ (-1)) = gB X 1 0 k &&& (gJ X 1 1 ^^^ (-1)) := by
    intro k hk m hm
    have : m = gB X 1 0 k := tb_ext (fun i hi => by rw [hm i hi, (hW.1.2.2.2 i hi).2 k hk])
    rw [this, hfl]
  refine ⟨fun q => c_gap hfl ?_, fun q => c_gap hfl ?_, fun q => c_patch (M := fun k => gB X 1 0 k &&& (gJ X 1 1 ^^^ (-1))) (bx := gA S 16 10) (fun k hk => (hW.1.2.1 k hk).1) (fun _ _ => rfl) ?_, fun q => c_unw (M := fun k => gB X 1 0 k &&& (gJ X 1 1 ^^^ (-1))) (fun _ _ => rfl) ?_, fun q0 q1 q2 q3 => ?_⟩
  · rw [q]
    refine i_in_y z3 (by decide) ⟨0, by decide, rfl⟩ ⟨fun _ => ⟨fun c => absurd c (by decide), fun _ => m_gap ⟨?_, hR⟩⟩, fun q => absurd q ne10⟩
    rw [if_neg ne10, if_pos rfl]
  · rw [q]
    refine i_in_y z3 (by decide) ⟨1, by decide, rfl⟩ ⟨fun _ => ⟨fun c => absurd c (by decide), fun _ => m_gap ⟨?_, hR⟩⟩, fun q => absurd q ne10⟩
    rw [if_neg ne10, if_pos rfl]
  · rw [q]
    refine i_in_y z3 (by decide) ⟨2, by decide, rfl⟩ ⟨fun _ => ⟨fun _ => m_pu hMx ⟨?_, hR⟩, fun c => absurd (by decide) c⟩, fun q => absurd q ne10⟩
    rw [if_pos rfl]
  · rw [q]
    refine i_in_y z3 (by decide) ⟨3, by decide, rfl⟩ ⟨fun _ => ⟨fun _ => m_pu hMx ⟨?_, hR⟩, fun c => absurd (by decide) c⟩, fun q => absurd q ne10⟩
    rw [if_neg (by decide)]
  · refine i_in_n z3 (fun g => ?_) ⟨fun q => absurd rfl q, fun _ => ⟨rfl, hR⟩⟩
    have k0 := neI (k := 0) q0 rfl
    have k1 := neI (k := 1) q1 rfl
    have k2 := neI (k := 2) q2 rfl
    have k3 := neI (k := 3) q3 rfl
    omega
/-! film -/
theorem Asd_sA {S T : St} {a j : Nat} {v : Int32} (h1 : ¬ a = 10) (h2 : ¬ a = 11) (h3 : ¬ a = 29) (h : Asd S T) : Asd (sA S 16 a j v) (sA T 16 a j v) := by
  obtain ⟨g1, g2, g3, ⟨g4, g5, g6, g7⟩, g8⟩ := h
  refine ⟨fun f q1 q2 => by rw [gI_sA, gI_sA]; exact g1 f q1 q2, fun f q1 q2 q3 => ?_, fun f q1 q2 q3 => by rw [gJ_sA, gJ_sA]; exact g3 f q1 q2 q3, ⟨?_, ?_, ?_, ?_⟩, ?_⟩
  · by_cases e : f = a
    · rw [e, gA_sAs, gA_sAs, g2 a h1 h2 h3]
    · rw [gA_sAf _ _ _ _ _ (fun q => e q.2), gA_sAf _ _ _ _ _ (fun q => e q.2)]; exact g2 f q1 q2 q3
  · intro k hk
    rw [gA_sAf _ _ _ _ _ (fun q => h3 q.2.symm), gA_sAf _ _ _ _ _ (fun q => h2 q.2.symm)]; exact g4 k hk
  · intro k hk
    rw [gA_sAf _ _ _ _ _ (fun q => h3 q.2.symm), gA_sAf _ _ _ _ _ (fun q => h1 q.2.symm)]; exact g5 k hk
  · rw [gA_sAf _ _ _ _ _ (fun q => h3 q.2.symm), gI_sA]; exact g6
  · rw [gJ_sA, gJ_sA]; exact g7
  · rw [gA_sAf _ _ _ _ _ (fun q => h1 q.2.symm), gA_sAf _ _ _ _ _ (fun q => h2 q.2.symm), gA_sAf _ _ _ _ _ (fun q => h1 q.2.symm), gA_sAf _ _ _ _ _ (fun q => h2 q.2.symm)]
    exact g8
theorem aM_sA {S : St} {a j : Nat} {v : Int32} (h1 : ¬ a = 10) (h2 : ¬ a = 11) : aM (sA S 16 a j v) = aM S := by
  unfold aM
  rw [gI_sA, gJ_sA, gA_sAf _ _ _ _ _ (fun q => h1 q.2.symm), gA_sAf _ _ _ _ _ (fun q => h2 q.2.symm)]
theorem m_sheet0 {S : St} {s n : Nat} {Q : Int32 → St → Prop} (hs : s < 4) (hn : n ≤ 40) (h : ∀ T : St, (∀ f, gI T 16 f = gI S 16 f) → (∀ f, gJ T 16 f = gJ S 16 f) → (∀ f, ¬ f = 39 → ¬ f = 40 → ¬ f = 41 → ¬ f = 42 → gA T 16 f = gA S 16 f) → gA T 16 39 = upd (gA S 16 39) s 1 → gA T 16 40 = upd (gA S 16 40) s 0 → gA T 16 41 = upd (gA S 16 41) s (nI n) → (∀ j, ¬ (40 * s ≤ j ∧ j < 40 * s + n) → gA T 16 42 j = gA S 16 42 j) → Q 1 T) : wX6_sheet (nI s) 0 (nI n) S Q := by
  have es : (nI s).toInt = s := nI_toInt (by omega)
  have hc : (nI s).toNatClampNeg = s := nI_clamp (by omega)
  have vs : vp_in (nI s) 4 := vp_in_nI hs (by decide)
  refine i_isSheet (fun _ _ => ⟨fun q => absurd q ne10, fun _ => ?_⟩) (fun g => absurd ⟨by omega, by omega⟩ g)
  refine i_in (fun _ _ => ⟨fun q => absurd q ne10, fun _ => ⟨fun q => absurd q (by decide), fun _ => ⟨fun _ => ⟨fun q => absurd q (by decide), fun _ => ⟨fun _ => ⟨fun q => absurd q (by decide), fun _ => ?_⟩, fun q => absurd (nI_pos' (by omega)) q⟩⟩, fun q => absurd ?_ q⟩⟩⟩) (fun g => absurd ⟨by decide, by decide⟩ g)
  · unfold wX6_sheet_j59
    rw [hc]
    refine ⟨vs, Or.inr rfl, fun σ12 s12 => ⟨vs, fun σ14 s14 => ⟨vs, fun σ16 s16 => ?_⟩⟩⟩
    refine i_shLoop hs hn rfl (by decide) (fun T t1 t2 t3 t4 t5 => h T (fun f => ?_) (fun f => ?_) (fun f h1 h2 h3 h4 => ?_) ?_ ?_ ?_ (fun j hj => ?_))
    · rw [t1, s16, gI_sA, s14, gI_sA, s12, gI_sA]
    · rw [t2, s16, gJ_sA, s14, gJ_sA, s12, gJ_sA]
    · rw [t3 f h4, s16, gA_sAf _ _ _ _ _ (by omega), s14, gA_sAf _ _ _ _ _ (by omega), s12, gA_sAf _ _ _ _ _ (by omega)]
    · rw [t3 39 (by decide), s16, gA_sAf _ _ _ _ _ (by decide), s14, gA_sAf _ _ _ _ _ (by decide), s12, gA_sAs]
    · rw [t3 40 (by decide), s16, gA_sAf _ _ _ _ _ (by decide), s14, gA_sAs, s12, gA_sAf _ _ _ _ _ (by decide)]
    · rw [t3 41 (by decide), s16, gA_sAs, s14, gA_sAf _ _ _ _ _ (by decide), s12, gA_sAf _ _ _ _ _ (by decide)]
    · rw [t5 j hj, s16, gA_sAf _ _ _ _ _ (by decide), s14, gA_sAf _ _ _ _ _ (by decide), s12, gA_sAf _ _ _ _ _ (by decide)]
  · rw [show (40 : Int32) = nI 40 from rfl, nI_leI (by omega) (by decide)]; exact hn
def filmV (f : Nat → Int32 → Int32 → Int32 → Int32 → Int32 → Int32 → Int32) (wt : Nat → Int32) (n : Nat) (a : Int32 × Int64 × (Nat → Int32) × (Nat → Int32)) (t : Nat) : Int32 := nI (pc (daysF f wt (-1) true n (t + 1) a).2.1)
theorem days_1 {f : Nat → Int32 → Int32 → Int32 → Int32 → Int32 → Int32 → Int32} {wt : Nat → Int32} {sil : Int32} {gv : Bool} {n : Nat} : ∀ (m : Nat) (a : Int32 × Int64 × (Nat → Int32) × (Nat → Int32)), dayF f wt sil gv n (daysF f wt sil gv n m a) = daysF f wt sil gv n (m + 1) a := by
  intro m
  induction m with
  | zero => intro a; rfl
  | succ m ih => intro a; exact ih (dayF f wt sil gv n a)
theorem days_d {f : Nat → Int32 → Int32 → Int32 → Int32 → Int32 → Int32 → Int32} {wt : Nat → Int32} {sil : Int32} {gv : Bool} {n : Nat} : ∀ (m d : Nat) (a : Int32 × Int64 × (Nat → Int32) × (Nat → Int32)), a.1 = nI d → (daysF f wt sil gv n m a).1 = nI (d + m) := by
  intro m
  induction m with
  | zero => intro d a h; exact h
  | succ m ih =>
    intro d a h
    have := ih (d + 1) (dayF f wt sil gv n a) (by rw [day_1]; exact inc_to h)
    rw [show d + (m + 1) = d + 1 + m by omega]
    exact this
theorem i8_id : ∀ j, j ≤ 64 → ((nI j).toInt8.toInt32) = nI j := by decide +kernel
theorem CR_o {f : Nat → Int32 → Int32 → Int32 → Int32 → Int32 → Int32 → Int32} {X Y : St} {o q : Nat} (hq : 12 ≤ q) (ho : o = 1 ∨ o = 2) (F : ∀ p, ¬ p = q → Y p = X p) (h : CR f X o) : CR f Y o := by
  obtain ⟨h0, r, k, h1, h2, h4, h5, h6⟩ := h
  refine ⟨h0, r, k, h1, h2, by rw [gI_same (F 4 (by omega))]; exact h4, by rw [gI_same (F o (by omega))]; exact h5, ?_⟩
  rw [F (6 + r) (by omega)]
  exact h6
theorem sim17 : Sim17 (Rel TR0) := by
  intro X S a b hR
  obtain ⟨f, n, d, hn, hd, en, ed, hC, hM, hW, hok, hid⟩ := ctx hR
  obtain ⟨rW, hI, hT, hP, hSh, -⟩ := id hR
  have z20 : (20 : Int64).toInt = ((20 : Nat) : Int) := rfl
  have y4 : (4 : Int32).toInt = 4 := rfl
  unfold wX5_film
  refine i_isIn (fun p1 p2 => ⟨fun q => absurd q ne10, fun _ => ?_⟩) (fun p => ⟨fun _ => ?_, fun q => absurd rfl q⟩)
  · rw [y4] at p2
    have isS : ∀ Q : Int32 → St → Prop, Q 1 S → wX6_isSheet a S Q := fun Q hQ => i_isSheet (fun _ _ => hQ) (fun g => absurd ⟨p1, p2⟩ g)
    have bad : ¬ rg b 20 → wX6_film a b S (fun r1 S1 => -2 = r1 ∧ Rel TR0 X S1) := fun hx => isS _ ⟨fun q => absurd q ne10, fun _ => i_in0 z20 (fun g1 g2 => absurd (rg_of g1 g2 (by decide)) hx) (fun _ => ⟨fun q => absurd rfl q, fun _ => ⟨rfl, hR⟩⟩)⟩
    refine ⟨fun q => bad (fun g => nin_lt q (rg_in g (by decide)).1), fun q1 => ⟨fun q2 => ?_, fun q => bad (fun g => nin_gtl rfl (by decide) q (rg_in g (by decide)).2)⟩⟩
    have rb : rg b 20 := in_rgl rfl (by decide) q1 q2
    obtain ⟨k, hk, eb⟩ := id rb
    obtain ⟨s, hs, ea⟩ : ∃ s, s < 4 ∧ a = nI s := ⟨a.toInt.toNat, by omega, Int32.toInt_inj.mp (by rw [nI_toInt (by omega)]; omega)⟩
    refine ⟨by rw [ea]; exact vp_in_nI hs (by decide), fun o7 eo => ?_⟩
    rw [ea, nI_clamp (n := s) (by omega)] at eo
    have ho7 : 12 ≤ o7 := by omega
    refine i_shBecome (fun Y y1 y2 y3 y4 => ?_)
    have WY : CW Y 1 (gI S 16 4) n (gA S 16 9) (aM S) := WRel_same (y1 1 (by omega)) hW
    refine c_think WY (CR_o ho7 (Or.inl rfl) y1 hC) (fun Z FZ WZ CZ => ?_)
    have model : ∀ X2, (∀ q, ¬ q = 2 → ¬ q = 4 → ¬ q = o7 → X2 q = X q) → gI X2 4 1 = gI X 4 1 → gI X2 o7 2 = 0 → gI X2 o7 1 = nI k → (∀ i, i < k → gA X2 o7 0 i = filmV f (gA S 16 9) n (aM S) i) → wX6_film a b S (fun r1 S1 => b = r1 ∧ Rel TR0 X2 S1) := by
      intro X2 x1 x2 x3 x4 x5
      refine isS _ ⟨fun q => absurd q ne10, fun _ => i_in_y z20 (by decide) rb ⟨fun _ => ?_, fun q => absurd q ne10⟩⟩
      rw [ea, eb]
      refine m_sheet0 hs (by omega) (fun T0 t1 t2 t3 t4 t5 t6 t7 => ?_)
      have aT0 : aM T0 = aM S := by
        unfold aM
        rw [t1, t2, t3 10 (by decide) (by decide) (by decide) (by decide), t3 11 (by decide) (by decide) (by decide) (by decide)]
      refine m_asideA (fun T1 hA eT => ?_)
      have main : ∀ (m t : Nat) (V T : St), t + m = k → Asd V T → aM T = daysF f (gA S 16 9) (-1) true n t (aM S) → (∀ f, gI V 16 f = gI T0 16 f) → (∀ f, gJ V 16 f = gJ T0 16 f) → (∀ f, ¬ f = 42 → gA V 16 f = gA T0 16 f) → (∀ i, i < t → gA V 16 42 (40 * s + i) = filmV f (gA S 16 9) n (aM S) i) → (∀ j, ¬ (40 * s ≤ j ∧ j < 40 * s + k) → gA V 16 42 j = gA S 16 42 j) → wX6_film_l36 (m + 1) (nI s) (nI k) (nI t) T (fun r1 S1 => nI k = r1 ∧ Rel TR0 X2 S1) := by
        intro m
        induction m with
        | zero =>
          intro t V T ht hV eA vI vJ vA v42 vo
          have et : t = k := by omega
          subst et
          apply wX6_film_l36_1
          refine ⟨fun _ => m_backA hV (fun U FU => ⟨rfl, ?_⟩), fun q => absurd (Int32.le_refl _) q⟩
          have uI : ∀ f, (f < 14 ∨ 29 ≤ f) → gI U 16 f = gI S 16 f := fun f hf => by rw [FU.1 f hf, vI, t1]
          have uJ : ∀ f, ¬ f = 25 → ¬ f = 30 → gJ U 16 f = gJ S 16 f := fun f h1 h2 => by rw [FU.2.2 f h1 h2, vJ, t2]
          have uA : ∀ f, ¬ f = 29 → ¬ f = 39 → ¬ f = 40 → ¬ f = 41 → ¬ f = 42 → gA U 16 f = gA S 16 f := fun f h0 h1 h2 h3 h4 => by rw [FU.2.1 f h0, vA f h4, t3 f h1 h2 h3 h4]
          refine ⟨?_, ?_, ?_, ?_, ?_, ?_⟩
          · exact RW_cong (x1 1 (by decide) (by decide) (by omega)) (uJ 8 (by decide) (by decide)) (uI 7 (by decide)) (uI 4 (by decide)) (uI 12 (by decide)) (uA 10 (by decide) (by decide) (by decide) (by decide) (by decide)) (uA 11 (by decide) (by decide) (by decide) (by decide) (by decide)) (uA 9 (by decide) (by decide) (by decide) (by decide) (by decide)) rW
          · exact RI_cong (gI_same (x1 0 (by decide) (by decide) (by omega))) (x1 3 (by decide) (by decide) (by omega)) (uJ 38 (by decide) (by decide)) (uI 36 (by decide)) (uI 37 (by decide)) (uI 35 (by decide)) (uA 34 (by decide) (by decide) (by decide) (by decide) (by decide)) (uA 32 (by decide) (by decide) (by decide) (by decide) (by decide)) (uA 33 (by decide) (by decide) (by decide) (by decide) (by decide)) hI
          · exact RT_cong x2 (fun t ht => x1 _ (by omega) (by omega) (by omega)) (uI 3 (by decide)) (uI 4 (by decide)) (uI 35 (by decide)) (uI 37 (by decide)) (uA 2 (by decide) (by decide) (by decide) (by decide) (by decide)) (uA 1 (by decide) (by decide) (by decide) (by decide) (by decide)) hT
          · exact RP_cong (x1 5 (by decide) (by decide) (by omega)) (uI 6 (by decide)) (uA 5 (by decide) (by decide) (by decide) (by decide) (by decide)) hP
          · intro s' hs'
            rw [FU.2.1 39 (by decide), FU.2.1 40 (by decide), FU.2.1 41 (by decide), FU.2.1 42 (by decide), vA 39 (by decide), vA 40 (by decide), vA 41 (by decide), t4, t5, t6]
            by_cases es : s' = s
            · subst es
              refine Or.inr ⟨?_, ?_, ?_, t, by omega, ?_, ?_, fun i hi => ?_⟩
              · unfold upd; rw [if_pos rfl]; exact ne10
              · rw [← eo, x3]; unfold upd; rw [if_pos rfl]
              · unfold upd; rw [if_pos rfl]; exact ⟨0, by decide, rfl⟩
              · rw [← eo]; exact x4
              · unfold upd; rw [if_pos rfl]
              · rw [← eo, x5 i hi, v42 i hi]
            · have h9 := hSh s' hs'
              have e12 : X2 (12 + s') = X (12 + s') := x1 _ (by omega) (by omega) (by omega)
              have u1 : ∀ (r : Nat → Int32) (v : Int32), upd r s v s' = r s' := fun r v => by unfold upd; rw [if_neg es]
              rw [u1, u1, u1, gI_same e12, gI_same e12, gA_same e12]
              rcases h9 with h9 | ⟨h1, h2, h3, m', h4, h5, h6, h7⟩
              · exact Or.inl h9
              · exact Or.inr ⟨h1, h2, h3, m', h4, h5, h6, fun i hi => by rw [h7 i hi, vo _ (by omega)]⟩
          · rw [uI 13 (by decide)]; exact hid
        | succ m ih =>
          intro t V T ht hV eA vI vJ vA v42 vo
          have w := Asd_w hV
          have vw9 : gA V 16 9 = gA S 16 9 := by rw [vA 9 (by decide), t3 9 (by decide) (by decide) (by decide) (by decide)]
          have w9 : gA T 16 9 = gA S 16 9 := by rw [w.1]; exact vw9
          have w13 : gI T 16 13 = -1 := by rw [w.2.2.2.2.2, vI, t1]; exact hid
          have mT : MR f T := MR_A hV (MR_of (by rw [vI, t1]) (by rw [vA 2 (by decide), t3 2 (by decide) (by decide) (by decide) (by decide)]) (by rw [vA 1 (by decide), t3 1 (by decide) (by decide) (by decide) (by decide)]) hM)
          apply wX6_film_l36_1
          refine ⟨fun q => absurd q (nle (by omega) (by omega)), fun _ => ?_⟩
          refine m_day hn (by rw [w.2.2.2.2.1, vI, t1]; exact en) mT (by rw [w9]; exact hok) (fun U FU eU => i_bitsOf ?_)
          rw [w9, w13, eA, days_1] at eU
          have e0 : ((40 : Int32) * nI s + nI t) = nI (40 * s + t) := by
            rw [show (40 : Int32) * nI s = nI (40 * s) from (Int32.ofNat_mul 40 s).symm, nI_add]
          rw [e0, nI_clamp (n := 40 * s + t) (by omega)]
          refine ⟨vp_in_nI (by omega) (by decide), fun σ16 s16 x17 e17 => ?_⟩
          rw [e17, nI_1]
          have eb9 : nI (pc (gJ U 16 8)) = filmV f (gA S 16 9) n (aM S) t := by
            unfold filmV
            rw [← eU]
            rfl
          rw [eb9] at s16
          have hV2 : Asd V U := by
            refine Asd_M hV FU ?_
            have o1 := Out_days (f := f) (sil := -1) (gv := true) hn hok 1 (aM T)
            have : daysF f (gA S 16 9) (-1) true n 1 (aM T) = aM U := by
              rw [eU, eA, ← days_1 t]
              rfl
            rw [this] at o1
            exact o1
          refine ih (t + 1) (sA V 16 42 (40 * s + t) (filmV f (gA S 16 9) n (aM S) t)) σ16 (by omega) (by rw [s16]; exact Asd_sA (by decide) (by decide) (by decide) hV2) (by rw [s16, aM_sA (by decide) (by decide)]; exact eU) (fun f => by rw [gI_sA]; exact vI f) (fun f => by rw [gJ_sA]; exact vJ f) (fun f hf => by rw [gA_sAf _ _ _ _ _ (fun q => hf q.2)]; exact vA f hf) (fun i hi => ?_) (fun j hj => ?_)
          · rw [gA_sA]
            by_cases ei : i = t
            · rw [if_pos ⟨rfl, rfl, by omega⟩, ei]
            · rw [if_neg (by omega)]; exact v42 i (by omega)
          · rw [gA_sA, if_neg (by omega)]; exact vo j hj
      exact ⟨k + 1, main k 0 T0 T1 (by omega) hA (by rw [eT, aT0]; rfl) (fun _ => rfl) (fun _ => rfl) (fun _ _ => rfl) (fun i hi => absurd hi (Nat.not_lt_zero i)) t7⟩
    have main : ∀ (m t : Nat) (T : St), t + m = k → (∀ q, ¬ q = 2 → ¬ q = 4 → ¬ q = o7 → T q = X q) → gI T 4 1 = gI X 4 1 → gI T o7 2 = 0 → gI T o7 1 = nI k → (∀ i, i < t → gA T o7 0 i = filmV f (gA S 16 9) n (aM S) i) → CW T 2 (gI S 16 4) n (gA S 16 9) (daysF f (gA S 16 9) (-1) true n t (aM S)) → CR f T 2 → wX5_film_l41 (m + 1) b o7 (nI t) T (fun r X1 => wX6_film a b S (fun r1 S1 => r = r1 ∧ Rel TR0 X1 S1)) := by
      intro m
      induction m with
      | zero =>
        intro t T ht c1 c2 c3 c4 c5 WT CT
        have et : t = k := by omega
        subst et
        apply wX5_film_l41_1
        refine ⟨fun _ => ?_, fun q => absurd (by rw [eb]; exact Int32.le_refl _) q⟩
        exact model T c1 c2 c3 c4 c5
      | succ m ih =>
        intro t T ht c1 c2 c3 c4 c5 WT CT
        apply wX5_film_l41_1
        refine ⟨fun q => absurd q (by rw [eb]; exact nle (by omega) (by omega)), fun _ => ?_⟩
        have dd := days_d (f := f) (wt := gA S 16 9) (sil := -1) (gv := true) (n := n) t d (aM S) ed
        refine c_day hn (by rw [dd, nI_toInt (by omega)]; omega) WT CT (fun U FU WU => i_filledCells ?_)
        rw [day_m1 hn, days_1] at WU
        have c3' : gI U o7 2 = 0 := by rw [gI_same (FU.1 o7 (by omega) (by omega))]; exact c3
        rw [WU.1.1]
        refine ⟨fun q => absurd c3' q, fun _ => ⟨vp_in_nI (by omega) (by decide), fun σ8 s8 x15 e15 => ?_⟩⟩
        rw [nI_clamp (n := t) (by omega), i8_id _ (pc_le _)] at s8
        rw [e15, nI_1]
        have o2 : σ8 2 = U 2 := by rw [s8, o_sA (by omega)]
        refine ih (t + 1) σ8 (by omega) (fun q h1 h2 h3 => ?_) ?_ ?_ ?_ (fun i hi => ?_) ?_ ?_
        · rw [s8, o_sA h3, FU.1 q h2 h1]; exact c1 q h1 h2 h3
        · rw [s8, gI_sA, FU.2]; exact c2
        · rw [s8, gI_sA]; exact c3'
        · rw [s8, gI_sA, gI_same (FU.1 o7 (by omega) (by omega))]; exact c4
        · rw [s8, gA_sA]
          by_cases ei : i = t
          · rw [if_pos ⟨rfl, rfl, ei⟩, ei]; rfl
          · rw [if_neg (fun q => ei q.2.2), gA_same (FU.1 o7 (by omega) (by omega))]; exact c5 i (by omega)
        · exact WRel_same o2 WU
        · exact CR_o ho7 (Or.inr rfl) (fun p hp => by rw [s8, o_sA hp]) (CR_C FU (CW_3 WT WU) CT)
    exact ⟨k + 1, main k 0 Z (by omega) (fun q h1 h2 h3 => by rw [FZ q h1]; exact y1 q h3) (by rw [gI_same (FZ 4 (by decide)), gI_same (y1 4 (by omega))]) (by rw [gI_same (FZ o7 (by omega))]; exact y2) (by rw [gI_same (FZ o7 (by omega)), y3, eb]) (fun i hi => absurd hi (Nat.not_lt_zero i)) WZ CZ⟩
  · rw [y4] at p
    exact i_isSheet (fun g1 g2 => absurd ⟨g1, g2⟩ p) (fun _ => ⟨fun _ => ⟨rfl, hR⟩, fun q => absurd rfl q⟩)
