/-! wishes: want, drawn, chance -/
theorem c_filled {X : St} {o c : Nat} {fl : Int64} {Q : Int32 → St → Prop} (hc : c < 64) (e : gJ X o 1 = fl) (h1 : tb fl c = true → Q 1 X) (h0 : tb fl c = false → Q 0 X) : wX4_isFilled o (nI c) X Q := by
  unfold wX4_isFilled
  rw [e, lg_eq0, tb_one _ hc]
  refine ⟨h0, fun q => h1 ?_⟩
  cases z : tb fl c
  · exact absurd z q
  · rfl
theorem c_wish {X : St} {o c : Nat} {v : Int32} {fl : Int64} {dy ru mn : Int32} {bx rw wt : Nat → Int32} {Q : St → Prop} (hc : c < 64) (hv : rg v 3) (hW : WRel X o fl dy ru mn bx rw wt) (h : ∀ Y, (∀ q, ¬ q = o → Y q = X q) → WRel Y o fl dy ru mn bx rw (upd wt c v) → Q Y) : wX4_wish o (nI c) v X Q := by
  obtain ⟨j0, hj0, ev⟩ := hv
  have main : ∀ (m j : Nat) (T : St), j + m = 4 → (∀ q, ¬ q = o → T q = X q) → (∀ f, gI T o f = gI X o f) → (∀ f, gJ T o f = gJ X o f) → (∀ f, gA T o f = gA X o f) → (∀ k, k < 4 → ∀ i, i < 64 → tb (gB T o 0 k) i = (tb (gB X o 0 k) i && !(decide (k < j) && decide (c = i)))) → wX4_wish_l2 (m + 1) o (nI c) v (nI j) T Q := by
    intro m
    induction m with
    | zero =>
      intro j T hj fo fI fJ fA fB
      have ej : j = 4 := by omega
      subst ej
      apply wX4_wish_l2_1
      have vv : vp_in v 4 := by rw [ev]; exact vp_in_nI (by omega) (by decide)
      refine ⟨fun _ => ⟨vv, vv, fun σ4 s4 => ?_⟩, fun q => absurd (Int32.le_refl _) q⟩
      rw [ev, nI_clamp (n := j0) (by omega)] at s4
      refine h σ4 (fun q hq => by rw [s4, o_sB hq]; exact fo q hq) ?_
      unfold WRel at hW ⊢
      have gI4 : ∀ f, gI σ4 o f = gI X o f := fun f => by rw [s4, gI_sB]; exact fI f
      have gA4 : ∀ f, gA σ4 o f = gA X o f := fun f => by rw [s4, gA_sB]; exact fA f
      have gJ4 : ∀ f, gJ σ4 o f = gJ X o f := fun f => by rw [s4, gJ_sB]; exact fJ f
      rw [gJ4, gI4, gI4, gI4, gA4, gA4, gA4, gA4, gA4, gA4]
      refine ⟨hW.1, hW.2.1, hW.2.2.1, fun i hi => ?_⟩
      have h9 := hW.2.2.2 i hi
      refine ⟨?_, fun k hk => ?_⟩
      · unfold upd
        split
        · exact ⟨j0, hj0, ev⟩
        · exact h9.1
      · rw [s4, gB_sB]
        by_cases ek : k = j0
        · rw [if_pos ⟨rfl, rfl, ek⟩, tb_or, tb_lsh hc, fB j0 (by omega) i hi, decide_eq_true (show j0 < 4 by omega), Bool.true_and]
          unfold upd
          by_cases ei : i = c
          · rw [if_pos ei, ei, ev, ek]
            simp
          · rw [if_neg ei, ← h9.2 k hk, ek]
            have : ¬ c = i := fun q => ei q.symm
            simp [this]
        · rw [if_neg (fun q => ek q.2.2), fB k hk i hi, decide_eq_true (show k < 4 by omega), Bool.true_and]
          unfold upd
          by_cases ei : i = c
          · rw [if_pos ei, ei, ev]
            have : ¬ nI j0 = nI k := fun q => ek ((nI_eq (by omega) (by omega)).mp q).symm
            simp [this]
          · rw [if_neg ei, ← h9.2 k hk]
            have : ¬ c = i := fun q => ei q.symm
            simp [this]
    | succ m ih =>
      intro j T hj fo fI fJ fA fB
      apply wX4_wish_l2_1
      unfold wX4_wish_l2s
      rw [nI_clamp (n := j) (by omega)]
      have vj : vp_in (nI j) 4 := vp_in_nI (by omega) (by decide)
      refine ⟨fun q => absurd q (nle (N := 4) (k := j) (by omega) (by decide)), fun _ => ⟨vj, vj, fun σ7 s7 x8 e8 => ?_⟩⟩
      rw [e8, nI_1]
      refine ih (j + 1) σ7 (by omega) (fun q hq => by rw [s7, o_sB hq]; exact fo q hq) (fun f => by rw [s7, gI_sB]; exact fI f) (fun f => by rw [s7, gJ_sB]; exact fJ f) (fun f => by rw [s7, gA_sB]; exact fA f) (fun k hk i hi => ?_)
      rw [s7, gB_sB]
      by_cases ek : k = j
      · rw [if_pos ⟨rfl, rfl, ek⟩, tb_and, tb_not _ hi, tb_lsh hc, fB j (by omega) i hi, ek, decide_eq_false (Nat.lt_irrefl j), decide_eq_true (Nat.lt_succ_self j)]
        simp
      · rw [if_neg (fun q => ek q.2.2), fB k hk i hi]
        have : decide (k < j + 1) = decide (k < j) := by
          by_cases z : k < j
          · rw [decide_eq_true z, decide_eq_true (by omega)]
          · rw [decide_eq_false z, decide_eq_false (by omega)]
        rw [this]
  exact ⟨5, main 4 0 X (by omega) (fun _ _ => rfl) (fun _ => rfl) (fun _ => rfl) (fun _ => rfl) (fun k hk i hi => by rw [decide_eq_false (Nat.not_lt_zero k)]; simp)⟩
theorem FrC_o {X Y : St} (h : ∀ q, ¬ q = 2 → Y q = X q) : FrC 2 X Y := FrC_of h
theorem CR_w {f : Nat → Int32 → Int32 → Int32 → Int32 → Int32 → Int32 → Int32} {X Y : St} {ru : Int32} {n n' : Nat} {wt wt' : Nat → Int32} {a a' : Int32 × Int64 × (Nat → Int32) × (Nat → Int32)} (F : ∀ q, ¬ q = 2 → Y q = X q) (h : CW X 2 ru n wt a) (g : CW Y 2 ru n' wt' a') (hC : CR f X 2) : CR f Y 2 := CR_C (FrC_of F) (CW_3 h g) hC
/-- no day fills more CELLS than there are PEOPLE -/
theorem pc_go (wt : Nat → Int32) (fl : Int64) (g : Int32) : pc (goFl wt fl g) ≤ pc fl + 1 := by
  unfold goFl
  by_cases c : weF wt fl g < 64
  · rw [if_pos c]
    have h := (frm_in (P := fun c => !tb fl c && decide (wt c = g)) 64 0).2.2 (by unfold weF at c; omega)
    have h' : tb fl (weF wt fl g) = false := by
      rw [Bool.and_eq_true] at h
      have := h.1
      unfold weF
      simpa using this
    rw [pc_set c h']
    exact Nat.le_refl _
  · rw [if_neg c]; omega
theorem pc_look {f : Nat → Int32 → Int32 → Int32 → Int32 → Int32 → Int32 → Int32} {wt : Nat → Int32} {dy sil : Int32} {gv : Bool} {p : Nat} {fl : Int64} {bx rw : Nat → Int32} : pc (lookF f wt dy sil gv p fl bx rw).1 ≤ pc fl + 1 := by
  unfold lookF
  split
  · exact Nat.le_succ _
  · split
    · exact Nat.le_succ _
    · exact pc_go _ _ _
theorem pc_dayL {f : Nat → Int32 → Int32 → Int32 → Int32 → Int32 → Int32 → Int32} {wt : Nat → Int32} {dy sil : Int32} {gv : Bool} : ∀ (m p : Nat) (u : Int64 × (Nat → Int32) × (Nat → Int32)), pc (dayL f wt dy sil gv m p u).1 ≤ pc u.1 + m := by
  intro m
  induction m with
  | zero => intro p u; exact Nat.le_refl _
  | succ m ih =>
    intro p u
    have h1 := ih (p + 1) (lookF f wt dy sil gv p u.1 u.2.1 u.2.2)
    have h2 := pc_look (f := f) (wt := wt) (dy := dy) (sil := sil) (gv := gv) (p := p) (fl := u.1) (bx := u.2.1) (rw := u.2.2)
    show pc (dayL f wt dy sil gv m (p + 1) (lookF f wt dy sil gv p u.1 u.2.1 u.2.2)).1 ≤ _
    omega
theorem pc_days {f : Nat → Int32 → Int32 → Int32 → Int32 → Int32 → Int32 → Int32} {wt : Nat → Int32} {sil : Int32} {gv : Bool} {n : Nat} : ∀ (m : Nat) (a : Int32 × Int64 × (Nat → Int32) × (Nat → Int32)), pc (daysF f wt sil gv n m a).2.1 ≤ pc a.2.1 + m * n := by
  intro m
  induction m with
  | zero => intro a; show pc a.2.1 ≤ _; omega
  | succ m ih =>
    intro a
    have h1 := ih (dayF f wt sil gv n a)
    have h2 : pc (dayF f wt sil gv n a).2.1 ≤ pc a.2.1 + n := pc_dayL n 0 a.2
    show pc (daysF f wt sil gv n m (dayF f wt sil gv n a)).2.1 ≤ _
    rw [Nat.succ_mul]
    omega
/-- most, of CELLS that aren't FILLED -/
def lpU (E : Nat → Bool) (V : Nat → Int32) : Nat → Nat → Int32 × Int32 → Int32 × Int32
  | 0, _, w => w
  | m + 1, i, w => lpU E V m (i + 1) (if E (i / 4) = true then w else if V i ≤ w.2 then w else (nI (10 * (i / 4) + i % 4), V i))
theorem lpU_stay {E : Nat → Bool} {V : Nat → Int32} {b mo : Int32} (h : ∀ j, V j ≤ mo) : ∀ m i, lpU E V m i (b, mo) = (b, mo) := by
  intro m
  induction m with
  | zero => intro i; rfl
  | succ m ih =>
    intro i
    unfold lpU
    have : (if E (i / 4) = true then ((b, mo) : Int32 × Int32) else if V i ≤ mo then (b, mo) else (nI (10 * (i / 4) + i % 4), V i)) = (b, mo) := by
      split
      · rfl
      · rw [if_pos (h i)]
    rw [this]
    exact ih (i + 1)
theorem div4 {i : Nat} (h : i < 256) : nI i / 4 = nI (i / 4) := nI_divN (b := 4) (by omega) (by decide)
theorem mod4 {i : Nat} (h : i < 256) : irm (nI i) 4 = nI (i % 4) := irmN (b := 4) (by omega) (by decide)
theorem sim12 : Sim12 (Rel TR0) := by
  intro X S b c hR
  obtain ⟨f, n, d, hn, hd, en, ed, hC, hM, hW, hok, hid⟩ := ctx hR
  have y1 : (1 : Int32).toInt = 1 := rfl
  have y20 : (20 : Int32).toInt = 20 := rfl
  have z1' : (1 : Int64).toInt = 1 := rfl
  have z20 : (20 : Int64).toInt = 20 := rfl
  have z1 : (1 : Int64).toInt = ((1 : Nat) : Int) := rfl
  have bad : ¬ ((1 ≤ b.toInt ∧ b.toInt ≤ 20) ∧ rg c 1) → wX6_want b c S (fun r1 S1 => -2 = r1 ∧ Rel TR0 X S1) := by
    intro hx
    refine i_in (fun g1 g2 => ⟨fun q => absurd q ne10, fun _ => i_in0 z1 (fun g3 g4 => ?_) (fun _ => ⟨fun q => absurd rfl q, fun _ => ⟨rfl, hR⟩⟩)⟩) (fun _ => ⟨fun _ => ⟨rfl, hR⟩, fun q => absurd rfl q⟩)
    rw [i64, z1'] at g1
    rw [i64, z20] at g2
    exact absurd ⟨⟨g1, g2⟩, rg_of g3 g4 (by decide)⟩ hx
  unfold wX5_want
  refine ⟨fun q => bad (fun g => ?_), fun q1 => ⟨fun q => bad (fun g => ?_), fun q2 => ⟨fun q => bad (fun g => nin_lt q (rg_in g.2 (by decide)).1), fun q3 => ⟨fun q4 => ?_, fun q => bad (fun g => nin_gtl rfl (by decide) q (rg_in g.2 (by decide)).2)⟩⟩⟩⟩
  · rw [Int32.lt_iff_toInt_lt, y1] at q; omega
  · rw [Int32.lt_iff_toInt_lt, y20] at q; omega
  rw [Int32.lt_iff_toInt_lt, y1] at q1
  rw [Int32.lt_iff_toInt_lt, y20] at q2
  have rc : rg c 1 := in_rgl rfl (by decide) q3 q4
  obtain ⟨k, hk, eb⟩ := rg_of (x := b) (n := 20) (by omega) (by omega) (by decide)
  have hk1 : 1 ≤ k := by
    have : b.toInt = k := by rw [eb, nI_toInt (by omega)]
    omega
  obtain ⟨V, hV⟩ : ∃ V : Nat → Int32, ∀ j, V j = nI (pc (daysF f (upd (gA S 16 9) (j / 4) (nI (j % 4))) (-1) true n k (aM S)).2.1) := ⟨_, fun _ => rfl⟩
  obtain ⟨v0, hv0⟩ : ∃ v0 : Int32, v0 = nI (pc (daysF f (gA S 16 9) (-1) true n k (aM S)).2.1) := ⟨_, rfl⟩
  obtain ⟨E, hE⟩ : ∃ E : Nat → Bool, ∀ c, E c = tb (gJ S 16 8) c := ⟨_, fun _ => rfl⟩
  obtain ⟨FI, hFI⟩ : ∃ FI, lpU E V 256 0 (-1, v0) = FI := ⟨_, rfl⟩
  have model : ∀ X2, FrC 2 X X2 → wX6_want b c S (fun r1 S1 => (if c = 0 then FI.1 else FI.2) = r1 ∧ Rel TR0 X2 S1) := by
    intro X2 F2
    refine i_in (fun _ _ => ⟨fun q => absurd q ne10, fun _ => i_in_y z1 (by decide) rc ⟨fun _ => ?_, fun q => absurd q ne10⟩⟩) (fun g => absurd ⟨by rw [i64, z1']; omega, by rw [i64, z20]; omega⟩ g)
    rw [eb]
    refine m_fb hn (by omega) en hM hok (fun U0 FU0 => i_bitsOf ?_)
    rw [hid, ← hv0]
    have main : ∀ (m i : Nat) (T : St) (fo mo : Int32), i + m = 256 → FrL S T → lpU E V m i (fo, mo) = FI → wX6_want_l40 (m + 1) (nI k) c fo mo (nI i) T (fun r1 S1 => (if c = 0 then FI.1 else FI.2) = r1 ∧ Rel TR0 X2 S1) := by
      intro m
      induction m with
      | zero =>
        intro i T fo mo hi F e
        have ei : i = 256 := by omega
        subst ei
        have e' : (fo, mo) = FI := e
        apply wX6_want_l40_1
        rw [← e']
        refine ⟨fun _ => ⟨fun q => ⟨by rw [if_neg q], Rel_CL hR F2 F⟩, fun q => ⟨by rw [if_pos q], Rel_CL hR F2 F⟩⟩, fun q => absurd (Int32.le_refl _) q⟩
      | succ m ih =>
        intro i T fo mo hi F e
        apply wX6_want_l40_1
        unfold wX6_want_l40s
        rw [div4 (by omega), mod4 (by omega)]
        unfold lpU at e
        refine ⟨fun q => absurd q (nle (N := 256) (k := i) (by omega) (by decide)), fun _ x13 e13 => ?_⟩
        rw [e13, nI_clamp (n := i / 4) (by omega)]
        have vc : vp_in (nI (i / 4)) 64 := vp_in_nI (by omega) (by decide)
        refine i_has (by omega) (fun t => ⟨fun _ x17 e17 => ?_, fun q => absurd q ne10⟩) (fun t => ⟨fun q => absurd rfl q, fun _ => ⟨vc, fun x19 e19 => ⟨vc, fun σ21 s21 => ?_⟩⟩⟩)
        · rw [F.2.2 8 (by decide) (by decide)] at t
          rw [if_pos (by rw [hE]; exact t)] at e
          rw [e17, nI_1]
          exact ih (i + 1) T fo mo (by omega) F e
        · rw [F.2.2 8 (by decide) (by decide)] at t
          rw [if_neg (by rw [hE, t]; exact Bool.false_ne_true)] at e
          have F21 : FrA noN is9 S σ21 := by rw [s21]; exact FrA_sA rfl (FrA_L (FrA_refl S) F)
          have w21 : gA σ21 16 9 = upd (gA S 16 9) (i / 4) (nI (i % 4)) := by rw [s21, gA_sAs, F.2.1 9 (by decide)]
          have hok21 : ∀ c, c < 64 → rg (gA σ21 16 9 c) 3 := by
            intro c hc
            rw [w21]
            unfold upd
            split
            · exact ⟨i % 4, by omega, rfl⟩
            · exact hok c hc
          refine m_fb hn (by omega) (by rw [F21.1 12 rfl (by decide)]; exact en) (MR_of (F21.1 4 rfl (by decide)) (F21.2.1 2 rfl (by decide)) (F21.2.1 1 rfl (by decide)) hM) hok21 (fun U FU => i_bitsOf ⟨vc, fun σ27 s27 => ?_⟩)
          have ev : nI (pc (daysF f (gA σ21 16 9) (gI σ21 16 13) true n k (aM σ21)).2.1) = V i := by
            rw [hV, w21, F21.1 13 rfl (by decide), hid]
            unfold aM
            rw [F21.1 7 rfl (by decide), F21.2.2 8 (by decide) (by decide), F21.2.1 10 rfl (by decide), F21.2.1 11 rfl (by decide)]
          rw [ev]
          have F27 : FrL S σ27 := by
            have hA : FrA noN is9 S σ27 := by rw [s27]; exact FrA_sA rfl (FrA_L F21 FU)
            refine ⟨fun f hf => hA.1 f rfl hf, fun f hf => ?_, hA.2.2⟩
            by_cases e9 : f = 9
            · rw [e9, s27, gA_sAs, FU.2.1 9 (by decide), w21, upd_upd, e19, F.2.1 9 (by decide), upd_self]
            · by_cases e31 : f = 31
              · rw [e31, s27, gA_sAf _ _ _ _ _ (by decide), FU.2.1 31 (by decide), s21, gA_sAf _ _ _ _ _ (by decide), F.2.1 31 (by decide)]
              · exact hA.2.1 f (by simp [is9, e9, e31]) hf
          refine ⟨fun q x17 e17 => ?_, fun q x29 e29 x17 e17 => ?_⟩
          · rw [if_pos q] at e
            rw [e17, nI_1]
            exact ih (i + 1) σ27 fo mo (by omega) F27 e
          · rw [if_neg q] at e
            rw [e17, nI_1]
            have e10 : (10 : Int32) * nI (i / 4) = nI (10 * (i / 4)) := (Int32.ofNat_mul 10 (i / 4)).symm
            rw [e10, nI_add] at e29
            rw [e29]
            exact ih (i + 1) σ27 _ (V i) (by omega) F27 e
    exact ⟨257, main 256 0 U0 (-1) v0 (by omega) FU0 hFI⟩
  -- the class
  have hlim : ∀ j, V j ≤ nI (min 64 (pc (gJ S 16 8) + k * n)) := by
    intro j
    rw [hV, nI_leI (Nat.lt_of_le_of_lt (pc_le _) (by decide)) (Nat.lt_of_le_of_lt (Nat.min_le_left _ _) (by decide))]
    have h1 := pc_days (f := f) (wt := upd (gA S 16 9) (j / 4) (nI (j % 4))) (sil := -1) (gv := true) (n := n) k (aM S)
    have h2 := pc_le (daysF f (upd (gA S 16 9) (j / 4) (nI (j % 4))) (-1) true n k (aM S)).2.1
    have h3 : (aM S).2.1 = gJ S 16 8 := rfl
    rw [h3] at h1
    omega
  have kn : k * n ≤ 100 := by
    have : k * n ≤ 20 * 5 := Nat.mul_le_mul hk hn
    omega
  have hpc := pc_le (gJ S 16 8)
  refine c_think hW hC (fun Y FY WY CY => ?_)
  rw [eb]
  refine c_fb (sil := -1) hn (by omega) ed (by omega) WY CY (fun U FU => i_filledCells (fun x10 e10 => ?_))
  rw [← hv0]
  have FU' : FrC 2 X U := FrC_trans (FrC_of FY) FU
  have WU := CW_2 FU' hW
  have fU : gJ U 1 1 = gJ S 16 8 := WU.1.1
  rw [fU, CW_n WU] at e10
  have elim : x10 = nI (min 64 (pc (gJ S 16 8) + k * n)) := by
    have em : nI k * nI n = nI (k * n) := (Int32.ofNat_mul k n).symm
    rw [e10, em, nI_add, show (64 : Int32) = nI 64 from rfl]
    by_cases z : pc (gJ S 16 8) + k * n < 64
    · rw [if_pos ((nI_ltI (by omega) (by decide)).mpr z)]; congr 1; omega
    · rw [if_neg (fun q => z ((nI_ltI (by omega) (by decide)).mp q))]; congr 1; omega
  rw [← elim] at hlim
  have main : ∀ (m i : Nat) (T : St) (mo be : Int32), i + m = 256 → FrC 2 X T → v0 ≤ mo → lpU E V m i (be, mo) = FI → wX5_want_l64 (m + 1) (nI k) c mo be x10 (nI i) T (fun r X1 => wX6_want (nI k) c S (fun r1 S1 => r = r1 ∧ Rel TR0 X1 S1)) := by
    intro m
    induction m with
    | zero =>
      intro i T mo be hi F hle e
      have ei : i = 256 := by omega
      subst ei
      have e' : (be, mo) = FI := e
      have h9 := model T F
      rw [eb, ← e'] at h9
      apply wX5_want_l64_1
      refine ⟨fun _ => ⟨fun q => ?_, fun q => ?_⟩, fun q => absurd (Int32.le_refl _) q⟩
      · rw [if_neg q] at h9; exact h9
      · rw [if_pos q] at h9; exact h9
    | succ m ih =>
      intro i T mo be hi F hle e
      apply wX5_want_l64_1
      unfold wX5_want_l64s
      rw [div4 (by omega), mod4 (by omega)]
      have WT := CW_2 F hW
      refine ⟨fun q => absurd q (nle (N := 256) (k := i) (by omega) (by decide)), fun _ => ⟨fun ql => ?_, fun ql x14 e14 x15 e15 => ?_⟩⟩
      · have e' : (be, mo) = FI := by
          rw [← e]
          exact (lpU_stay (fun j => Int32.le_trans (hlim j) ql) (m + 1) i).symm
        have h9 := model T F
        rw [eb, ← e'] at h9
        refine ⟨fun q => ?_, fun q => ?_⟩
        · rw [if_neg q] at h9; exact h9
        · rw [if_pos q] at h9; exact h9
      · unfold lpU at e
        rw [e14, e15]
        refine c_filled (by omega) WT.1.1 (fun t => ⟨fun _ x19 e19 => ?_, fun q => absurd q ne10⟩) (fun t => ⟨fun q => absurd rfl q, fun _ => ?_⟩)
        · rw [if_pos (by rw [hE]; exact t)] at e
          rw [e19, nI_1]
          exact ih (i + 1) T mo be (by omega) F hle e
        · rw [if_neg (by rw [hE]; show ¬ tb (aM S).2.1 (i / 4) = true; rw [t]; exact Bool.false_ne_true)] at e
          have hwt := WT.2.2.2 (i / 4) (by omega)
          refine c_col (by omega) hwt.1 hwt.2 ⟨fun q => ?_, fun q x19 e19 => ?_⟩
          · refine c_think WT (CR_2 F hC) (fun Z FZ WZ CZ => c_wish (by omega) ⟨i % 4, by omega, rfl⟩ WZ (fun Z2 FZ2 WZ2 => ?_))
            refine c_fb (sil := -1) (wt := upd (gA S 16 9) (i / 4) (nI (i % 4))) (a := aM S) hn (by omega) ed (by omega) WZ2 (CR_w FZ2 WZ WZ2 CZ) (fun Z3 FZ3 => ?_)
            rw [← hV]
            have FT : FrC 2 X Z3 := FrC_trans F (FrC_trans (FrC_of FZ) (FrC_trans (FrC_of FZ2) FZ3))
            refine ⟨fun z x19 e19 => ?_, fun z x28 e28 x19 e19 => ?_⟩
            · rw [if_pos z] at e
              rw [e19, nI_1]
              exact ih (i + 1) Z3 mo be (by omega) FT hle e
            · rw [if_neg z] at e
              have e10 : (10 : Int32) * nI (i / 4) = nI (10 * (i / 4)) := (Int32.ofNat_mul 10 (i / 4)).symm
              rw [e10, nI_add] at e28
              rw [e19, nI_1, e28]
              refine ih (i + 1) Z3 (V i) _ (by omega) FT ?_ e
              rw [Int32.le_iff_toInt_le] at hle z ⊢
              omega
          · have evi : V i = v0 := by
              rw [hV, hv0, ← q, upd_self]
            rw [evi, if_pos hle] at e
            rw [e19, nI_1]
            exact ih (i + 1) T mo be (by omega) F hle e
  exact ⟨257, main 256 0 U v0 (-1) (by omega) FU' (Int32.le_refl _) hFI⟩
