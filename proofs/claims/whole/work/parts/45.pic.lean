/-! picture -/
theorem i_wanting {S : St} {a1 : Int32} {Q : Int64 → St → Prop} (h : ∀ m : Int64, (∀ c, c < 64 → tb m c = decide (gA S 16 9 c = a1)) → Q m S) : wX6_wanting a1 S Q := by
  have main : ∀ (m k : Nat) (v : Int64), k + m = 64 → (∀ c, c < k → tb v c = decide (gA S 16 9 c = a1)) → (∀ c, k ≤ c → c < 64 → tb v c = false) → wX6_wanting_l5 (m + 1) a1 v (nI k) S Q := by
    intro m
    induction m with
    | zero =>
      intro k v hk f1 f2
      have e : k = 64 := by omega
      subst e
      apply wX6_wanting_l5_1
      exact ⟨fun _ => h v f1, fun c => absurd (Int32.le_refl _) c⟩
    | succ m ih =>
      intro k v hk f1 f2
      apply wX6_wanting_l5_1
      have hc : (nI k).toNatClampNeg = k := nI_clamp (by omega)
      refine ⟨fun c => absurd c (nle (N := 64) (k := k) (by omega) (by decide)), fun _ => ⟨vp_in_nI (by omega) (by decide), ?_⟩⟩
      rw [hc]
      refine ⟨fun g x4 e4 x5 e5 => ?_, fun g x4 e4 x5 e5 => ?_⟩
      · rw [e5, nI_1, e4]
        refine ih (k + 1) _ (by omega) (fun c hc1 => ?_) (fun c h1 h2 => ?_)
        · rw [tb_or, tb_0, Bool.or_false]
          by_cases e : c = k
          · subst e
            rw [f2 c (by omega) (by omega)]; simp [g]
          · exact f1 c (by omega)
        · rw [tb_or, tb_0, Bool.or_false]
          exact f2 c (by omega) h2
      · rw [e5, nI_1, e4]
        refine ih (k + 1) _ (by omega) (fun c hc1 => ?_) (fun c h1 h2 => ?_)
        · rw [tb_or, tb_lsh (by omega)]
          by_cases e : c = k
          · subst e
            simp [g]
          · have e2 : ¬ k = c := fun q => e q.symm
            simp [e2]
            have := f1 c (by omega)
            simpa using this
        · rw [tb_or, tb_lsh (by omega), f2 c (by omega) h2]
          have e2 : ¬ k = c := by omega
          simp [e2]
  exact ⟨65, main 64 0 0 rfl (fun c hc => absurd hc (Nat.not_lt_zero c)) (fun c _ _ => tb_0 c)⟩
theorem sim3 {TR : OT → Int32 → (Nat → Int32) → Prop} : Sim3 (Rel TR) := by
  intro X S a hR
  obtain ⟨hW, hI, hT, hP, hSh, hid⟩ := id hR
  obtain ⟨⟨w1, -⟩, -, -, wt⟩ := id hW.1
  have z0 : (0 : Int64).toInt = 0 := rfl
  have z4 : (4 : Int64).toInt = 4 := rfl
  have y4 : (4 : Int32).toInt = 4 := rfl
  unfold wX5_picture
  refine i_isIn (fun p1 p2 => ⟨fun c => absurd c ne10, fun _ => ?_⟩) (fun h => ⟨fun _ => ⟨fun h4 => ?_, fun h4 => ?_⟩, fun c => absurd rfl c⟩)
  · rw [y4] at p2
    obtain ⟨s, hs, es⟩ : ∃ s, s < 4 ∧ a = nI s := by
      refine ⟨a.toInt.toNat, by omega, Int32.toInt_inj.mp ?_⟩
      rw [nI_toInt (by omega)]; omega
    have hv : vp_in a 4 := by rw [es]; exact vp_in_nI hs (by decide)
    have hc : a.toNatClampNeg = s := by rw [es]; exact nI_clamp (by omega)
    refine ⟨hv, ?_⟩
    rw [hc]
    unfold wX6_picture
    refine i_in (fun _ _ => ⟨fun _ => ⟨fun _ => i_wanting (fun m hm => ⟨?_, hR⟩), fun q => ?_⟩, fun c => absurd c ne10⟩) (fun h => absurd ⟨by rw [i64]; omega, by rw [i64]; omega⟩ h)
    · apply tb_ext
      intro c hc64
      rw [hm c hc64, (wt c hc64).2 s hs, es]
    · rw [q, y4] at p2; omega
  · rw [y4] at h
    unfold wX6_picture
    refine i_in (fun g1 g2 => ?_) (fun _ => ⟨fun c => absurd rfl c, fun _ => ⟨rfl, hR⟩⟩)
    rw [i64] at g1 g2
    exact absurd (Int32.toInt_inj.mp (by rw [y4]; omega)) h4
  · subst h4
    unfold wX6_picture
    exact i_in (fun _ _ => ⟨fun _ => ⟨fun q => absurd rfl q, fun _ => ⟨w1, hR⟩⟩, fun c => absurd c ne10⟩) (fun h => absurd ⟨by decide, by decide⟩ h)
/-! lowest terms -/
theorem nI_divN {a b : Nat} (ha : a < 2 ^ 31) (hb : b < 2 ^ 31) : nI a / nI b = nI (a / b) := by
  apply Int32.toInt_inj.mp
  have h1 : a / b ≤ a := Nat.div_le_self _ _
  rw [Int32.toInt_div_of_ne_left _ _ (by
    intro q
    have h2 := congrArg Int32.toInt q
    rw [nI_toInt ha] at h2
    have h3 : Int32.minValue.toInt = -2147483648 := rfl
    omega), nI_toInt ha, nI_toInt hb, nI_toInt (by omega)]
  exact (Int.ofNat_tdiv a b).symm
theorem irmN {a b : Nat} (ha : a < 2 ^ 31) (hb : b < 2 ^ 31) : irm (nI a) (nI b) = nI (a % b) := by
  unfold irm
  rw [nI_divN ha hb]
  have e1 : nI (a / b) * nI b = nI (a / b * b) := (Int32.ofNat_mul _ _).symm
  have e2 := Nat.div_add_mod a b
  rw [e1]
  have e3 : nI a = nI (a % b) + nI (a / b * b) := by
    rw [nI_add]
    congr 1
    rw [Nat.mul_comm]
    omega
  rw [e3, Int32.add_sub_cancel]
theorem lN_divN {a b : Nat} (ha : a < 2 ^ 62) (hb : b < 2 ^ 62) : lN a / lN b = lN (a / b) := by
  apply Int64.toInt_inj.mp
  have h1 : a / b ≤ a := Nat.div_le_self _ _
  have t : ∀ n : Nat, n < 2 ^ 62 → (lN n).toInt = n := fun n hn => by
    show (Int64.ofNat n).toInt = n
    rw [Int64.toInt_ofNat_of_lt (by omega)]
  rw [Int64.toInt_div_of_ne_left _ _ (by
    intro q
    have h2 := congrArg Int64.toInt q
    rw [t a ha] at h2
    have h3 : Int64.minValue.toInt = -9223372036854775808 := rfl
    omega), t a ha, t b hb, t _ (by omega)]
  exact (Int.ofNat_tdiv a b).symm
theorem lrmN {a b : Nat} (ha : a < 2 ^ 62) (hb : b < 2 ^ 62) : lrm (lN a) (lN b) = lN (a % b) := by
  unfold lrm
  rw [lN_divN ha hb, lN_mul]
  have e2 := Nat.div_add_mod a b
  have e3 : lN a = lN (a % b) + lN (a / b * b) := by
    rw [lN_addN]
    congr 1
    rw [Nat.mul_comm]
    omega
  rw [e3, Int64.add_sub_cancel]
theorem gcd_st (a b : Nat) : Nat.gcd b (a % b) = Nat.gcd a b := by
  rw [Nat.gcd_comm a b, Nat.gcd_rec b a, Nat.gcd_comm]
theorem i_lowC {σ : St} {u v : Nat} {p3 : Int32} {Q : Int64 → St → Prop} (hu : u ≤ 64) (hv0 : 0 < v) (hv : v ≤ 1000) (h0 : p3 = 0 → Q (lN (u / Nat.gcd v u)) σ) (h1 : ¬ p3 = 0 → Q (lN (v / Nat.gcd v u)) σ) : wX5_lowest (nI u) (nI v) p3 σ Q := by
  have hg : 0 < Nat.gcd v u := Nat.gcd_pos_of_pos_left _ hv0
  have main : ∀ (m a b i : Nat), b ≤ m → b + i ≤ 64 → a ≤ 1000 → Nat.gcd a b = Nat.gcd v u → wX5_lowest_l8 (m + 1) (nI u) (nI v) p3 (nI a) (nI b) (nI i) σ Q := by
    have fin : ∀ a, a ≤ 1000 → a = Nat.gcd v u → wX5_lowest_j39 (nI u) (nI v) p3 (nI a) σ Q := by
      intro a ha e
      have na : ¬ nI a = 0 := nI_ne0 (by omega) (by omega)
      unfold wX5_lowest_j39
      refine ⟨fun _ => ⟨fun q => ⟨na, ?_⟩, fun q => ⟨na, ?_⟩⟩, fun q => absurd q na⟩
      · have d1 : v / a ≤ v := Nat.div_le_self _ _
        rw [nI_divN (by omega) (by omega), nI_l (by omega), e]
        exact h1 q
      · have d1 : u / a ≤ u := Nat.div_le_self _ _
        rw [nI_divN (by omega) (by omega), nI_l (by omega), e]
        exact h0 q
    intro m
    induction m with
    | zero =>
      intro a b i hb hbi ha e
      have eb : b = 0 := by omega
      subst eb
      rw [Nat.gcd_zero_right] at e
      apply wX5_lowest_l8_1
      exact ⟨fun _ => fin a ha e, fun _ => ⟨fun _ => fin a ha e, fun q => absurd rfl q⟩⟩
    | succ m ih =>
      intro a b i hb hbi ha e
      apply wX5_lowest_l8_1
      refine ⟨fun q => absurd q (nle (N := 100) (k := i) (by omega) (by decide)), fun _ => ⟨fun q => ?_, fun q => ⟨q, fun x8 e8 x9 e9 => ?_⟩⟩⟩
      · have eb : b = 0 := by
          rw [show (0 : Int32) = nI 0 from rfl, nI_eq (by omega) (by decide)] at q
          exact q
        subst eb
        rw [Nat.gcd_zero_right] at e
        exact fin a ha e
      · have hb0 : 0 < b := by
          rcases Nat.eq_zero_or_pos b with h | h
          · subst h; exact absurd rfl q
          · exact h
        have hm := Nat.mod_lt a hb0
        rw [e8, e9, irmN (by omega) (by omega), nI_1]
        exact ih b (a % b) (i + 1) (by omega) (by omega) (by omega) (by rw [gcd_st]; exact e)
  exact ⟨65, main 64 v u 0 hu (by omega) hv rfl⟩
theorem i_lowM {σ : St} {u v : Nat} {p3 : Int32} {Q : Int64 → St → Prop} (hu : u ≤ 1000) (hv0 : 0 < v) (hv : v ≤ 1000) (h0 : p3 = 0 → Q (lN (u / Nat.gcd v u)) σ) (h1 : ¬ p3 = 0 → Q (lN (v / Nat.gcd v u)) σ) : wX6_lowest (lN u) (lN v) p3 σ Q := by
  have hg : 0 < Nat.gcd v u := Nat.gcd_pos_of_pos_left _ hv0
  have l0 : ∀ n : Nat, n ≤ 1000 → (lN n = 0 ↔ n = 0) := by
    intro n hn
    refine ⟨fun q => ?_, fun q => by rw [q]; rfl⟩
    have h2 := congrArg Int64.toInt q
    have h3 : (lN n).toInt = n := by
      show (Int64.ofNat n).toInt = n
      rw [Int64.toInt_ofNat_of_lt (by omega)]
    rw [h3] at h2
    have h4 : (0 : Int64).toInt = 0 := rfl
    omega
  have main : ∀ (m a b : Nat), b ≤ m → b ≤ 1000 → a ≤ 1000 → Nat.gcd a b = Nat.gcd v u → wX6_lowest_l6 (m + 1) (lN u) (lN v) p3 (lN a) (lN b) σ Q := by
    have fin : ∀ a, a ≤ 1000 → a = Nat.gcd v u → ((¬ p3 = 0 → (¬ lN a = 0) ∧ Q (lN v / lN a) σ) ∧ (p3 = 0 → (¬ lN a = 0) ∧ Q (lN u / lN a) σ)) := by
      intro a ha e
      have na : ¬ lN a = 0 := fun q => by rw [l0 a ha] at q; omega
      refine ⟨fun q => ⟨na, ?_⟩, fun q => ⟨na, ?_⟩⟩
      · rw [lN_divN (by omega) (by omega), e]; exact h1 q
      · rw [lN_divN (by omega) (by omega), e]; exact h0 q
    intro m
    induction m with
    | zero =>
      intro a b hb hb1 ha e
      have eb : b = 0 := by omega
      subst eb
      rw [Nat.gcd_zero_right] at e
      apply wX6_lowest_l6_1
      exact ⟨fun _ => fin a ha e, fun q => absurd (lg_eq0.mpr rfl) q⟩
    | succ m ih =>
      intro a b hb hb1 ha e
      apply wX6_lowest_l6_1
      refine ⟨fun q => ?_, fun q => ⟨fun q2 => q (lg_eq0.mpr q2), fun x6 e6 => ?_⟩⟩
      · rw [lg_eq0, l0 b hb1] at q
        subst q
        rw [Nat.gcd_zero_right] at e
        exact fin a ha e
      · rw [lg_eq0, l0 b hb1] at q
        have hm := Nat.mod_lt a (Nat.pos_of_ne_zero q)
        rw [e6, lrmN (by omega) (by omega)]
        exact ih b (a % b) (by omega) (by omega) (by omega) (by rw [gcd_st]; exact e)
  exact ⟨v + 1, main v u v (Nat.le_refl _) hv hu (Nat.gcd_comm u v)⟩
/-! share -/
def sg (f : Nat → Int32) : Nat → Int32
  | 0 => 0
  | n + 1 => sg f n + f n
theorem sg_rg {f : Nat → Int32} : ∀ n : Nat, n ≤ 5 → (∀ k, k < n → rg (f k) 99) → rg (sg f n) (99 * n) := by
  intro n
  induction n with
  | zero => intro _ _; exact ⟨0, by omega, rfl⟩
  | succ n ih =>
    intro hn h
    obtain ⟨a, ha, e⟩ := ih (by omega) (fun k hk => h k (by omega))
    obtain ⟨b, hb, e2⟩ := h n (by omega)
    refine ⟨a + b, by omega, ?_⟩
    show sg f n + f n = _
    rw [e, e2, nI_add]
theorem sg_cong {f g : Nat → Int32} : ∀ n : Nat, (∀ k, k < n → f k = g k) → sg f n = sg g n := by
  intro n
  induction n with
  | zero => intro _; rfl
  | succ n ih => intro h; show sg f n + f n = sg g n + g n; rw [ih (fun k hk => h k (by omega)), h n (by omega)]
theorem i_given {X : St} {o n : Nat} {Q : Int32 → St → Prop} (hn : n ≤ 5) (e : gI X o 5 = nI n) (h : Q (sg (fun p => gA X o 10 p) n) X) : wX4_squaresGiven o X Q := by
  have main : ∀ (m k : Nat), k + m = n → wX4_squaresGiven_l4 (m + 1) o (sg (fun p => gA X o 10 p) k) (nI k) X Q := by
    intro m
    induction m with
    | zero =>
      intro k hk
      have e9 : k = n := by omega
      subst e9
      apply wX4_squaresGiven_l4_1
      unfold wX4_squaresGiven_l4s
      rw [e]
      exact ⟨fun _ => h, fun c => absurd (Int32.le_refl _) c⟩
    | succ m ih =>
      intro k hk
      apply wX4_squaresGiven_l4_1
      unfold wX4_squaresGiven_l4s
      rw [e, nI_clamp (by omega)]
      refine ⟨fun c => absurd c (nle (by omega) (by omega)), fun _ => ⟨vp_in_nI (by omega) (by decide), fun x3 e3 x4 e4 => ?_⟩⟩
      rw [e4, nI_1, e3]
      exact ih (k + 1) (by omega)
  exact ⟨n + 1, main n 0 (by omega)⟩
theorem sim15 {TR : OT → Int32 → (Nat → Int32) → Prop} : Sim15 (Rel TR) := by
  intro X S a hR
  obtain ⟨hW, hI, hT, hP, hSh, hid⟩ := id hR
  obtain ⟨⟨w1, w2, w3, w4, n, hn, w5⟩, -, wr, -⟩ := id hW.1
  have z0 : (0 : Int64).toInt = 0 := rfl
  have z1 : (1 : Int64).toInt = 1 := rfl
  have y0 : (0 : Int32).toInt = 0 := rfl
  have y1 : (1 : Int32).toInt = 1 := rfl
  have eg : sg (fun p => gA X 1 10 p) n = sg (fun p => gA S 16 11 (5 * p + 3)) n := sg_cong n (fun k hk => (wr k (by omega)).1.2.2.2.2)
  obtain ⟨v, hv, ev⟩ := sg_rg (f := fun p => gA S 16 11 (5 * p + 3)) n hn (fun k hk => (wr k (by omega)).2.2.2.2.2)
  have model : ∀ Q : Int64 → St → Prop, wX6_in (a.toInt64) 0 1 S (fun r3 σ2 => ((r3 = 0 → Q (-4611686018427387904) σ2) ∧ (¬ r3 = 0 → ((nI v ≤ 0 → Q (-4611686018427387904) σ2) ∧ (¬ nI v ≤ 0 → wX6_bitsOf (gJ σ2 16 8) σ2 (fun r7 σ6 => wX6_lowest (r7.toInt64) ((nI v).toInt64) a σ6 (fun r9 σ8 => Q r9 σ8))))))) → wX6_share a S Q := by
    intro Q h
    have main : ∀ (m k : Nat), k + m = n → wX6_share_l4 (m + 1) a (sg (fun p => gA S 16 11 (5 * p + 3)) k) (nI k) S Q := by
      intro m
      induction m with
      | zero =>
        intro k hk
        have e9 : k = n := by omega
        subst e9
        apply wX6_share_l4_1
        unfold wX6_share_l4s
        rw [w5, ev]
        exact ⟨fun _ => h, fun c => absurd (Int32.le_refl _) c⟩
      | succ m ih =>
        intro k hk
        apply wX6_share_l4_1
        unfold wX6_share_l4s
        have e53 : (5 * nI k + 3 : Int32) = nI (5 * k + 3) := by
          rw [show (5 : Int32) * nI k = nI (5 * k) from (Int32.ofNat_mul 5 k).symm]
          exact nI_add (5 * k) 3
        rw [w5, e53, nI_clamp (by omega)]
        refine ⟨fun c => absurd c (nle (by omega) (by omega)), fun _ => ⟨vp_in_nI (by omega) (by decide), fun x3 e3 x4 e4 => ?_⟩⟩
        rw [e4, nI_1, e3]
        exact ih (k + 1) (by omega)
    exact ⟨n + 1, main n 0 (by omega)⟩
  unfold wX5_share
  refine i_given hn (by rw [w4, w5]) ?_
  rw [eg, ev]
  refine ⟨fun h => ?_, fun h => ⟨fun h2 => ?_, fun h2 => ⟨fun h3 => ?_, fun h3 => ?_⟩⟩⟩
  · rw [Int32.lt_iff_toInt_lt] at h
    exact model _ (i_in (fun g1 g2 => by rw [i64] at g1; omega) (fun _ => ⟨fun _ => ⟨rfl, hR⟩, fun c => absurd rfl c⟩))
  · rw [Int32.lt_iff_toInt_lt] at h2
    exact model _ (i_in (fun g1 g2 => by rw [i64] at g2; omega) (fun _ => ⟨fun _ => ⟨rfl, hR⟩, fun c => absurd rfl c⟩))
  · rw [Int32.lt_iff_toInt_lt] at h h2
    have hv0 : 0 < v := by
      rcases Nat.eq_zero_or_pos v with q | q
      · subst q; exact absurd rfl h3
      · exact q
    refine i_filledCells ?_
    have hp := pc_le (gJ X 1 1)
    have fin : ∀ r : Int64, wX6_lowest (lN (pc (gJ X 1 1))) (lN v) a S (fun r1 S1 => r = r1 ∧ Rel TR X S1) → wX6_share a S (fun r1 S1 => r = r1 ∧ Rel TR X S1) := by
      intro r hr
      refine model _ (i_in (fun _ _ => ⟨fun c => absurd c ne10, fun _ => ⟨fun q => absurd q (nI_nle hv0 (by omega)), fun _ => i_bitsOf ?_⟩⟩) (fun h => absurd ⟨by rw [i64]; omega, by rw [i64]; omega⟩ h))
      rw [nI_l (by have := pc_le (gJ S 16 8); omega), nI_l (by omega), ← w1]
      exact hr
    refine i_lowC hp hv0 (by omega) (fun q => fin _ ?_) (fun q => fin _ ?_)
    · exact i_lowM (by omega) hv0 (by omega) (fun _ => ⟨rfl, hR⟩) (fun q2 => absurd q q2)
    · exact i_lowM (by omega) hv0 (by omega) (fun q2 => absurd q2 q) (fun _ => ⟨rfl, hR⟩)
  · rw [Int32.lt_iff_toInt_lt] at h h2
    exact model _ (i_in (fun _ _ => ⟨fun c => absurd c ne10, fun _ => ⟨fun _ => ⟨rfl, hR⟩, fun q => absurd (by rw [h3]; decide) q⟩⟩) (fun h => absurd ⟨by rw [i64]; omega, by rw [i64]; omega⟩ h))
