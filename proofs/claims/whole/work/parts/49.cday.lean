/-! the day of the class -/
def FrV (X Y : St) : Prop := (∀ q, ¬ q = 4 → Y q = X q) ∧ gI Y 4 1 = gI X 4 1
def FrC (o : Nat) (X Y : St) : Prop := (∀ q, ¬ q = 4 → ¬ q = o → Y q = X q) ∧ gI Y 4 1 = gI X 4 1
theorem FrV_refl (X : St) : FrV X X := ⟨fun _ _ => rfl, rfl⟩
theorem FrC_refl (o : Nat) (X : St) : FrC o X X := ⟨fun _ _ _ => rfl, rfl⟩
theorem FrV_trans {X Y Z : St} (h : FrV X Y) (g : FrV Y Z) : FrV X Z := ⟨fun q hq => (g.1 q hq).trans (h.1 q hq), g.2.trans h.2⟩
theorem FrC_trans {o : Nat} {X Y Z : St} (h : FrC o X Y) (g : FrC o Y Z) : FrC o X Z := ⟨fun q h1 hq => (g.1 q h1 hq).trans (h.1 q h1 hq), g.2.trans h.2⟩
theorem FrV_C {o : Nat} {X Y : St} (h : FrV X Y) : FrC o X Y := ⟨fun q hq _ => h.1 q hq, h.2⟩
theorem FrC_sA {o f i : Nat} {X : St} {v : Int32} (ho : ¬ o = 4) : FrC o X (sA X o f i v) := ⟨fun q _ h => o_sA h, by rw [gI_sA]⟩
theorem FrC_sB {o f i : Nat} {X : St} {v : Int64} (ho : ¬ o = 4) : FrC o X (sB X o f i v) := ⟨fun q _ h => o_sB h, by rw [gI_sB]⟩
theorem FrC_sI {o f : Nat} {X : St} {v : Int32} (ho : ¬ o = 4) : FrC o X (sI X o f v) := ⟨fun q _ h => o_sI h, by rw [gI_sIf _ _ _ _ (by omega)]⟩
theorem FrC_sJ {o f : Nat} {X : St} {v : Int64} (ho : ¬ o = 4) : FrC o X (sJ X o f v) := ⟨fun q _ h => o_sJ h, by rw [gI_sJ]⟩
/-- what a TEXT's steps say -/
def CEv (f : Nat → Int32 → Int32 → Int32 → Int32 → Int32 → Int32 → Int32) (ob : OT) : Prop :=
  ∀ (X : St) (o t p wh : Nat) (Q : Int32 → St → Prop), X (6 + t) = ob → t < 6 → (o = 1 ∨ o = 2) → p < 5 → wh < 3 → gI X o 3 = nI t → (∃ k, t < k ∧ k ≤ 6 ∧ gI X 4 1 = nI k) →
  (∀ X', FrV X X' → Q (clp (f wh (gA X o 9 p) (gA X o 8 p) (gA X o 7 p) (gI X o 2) (nI (pc (gJ X o 1))) (boxF (gA X o 4))) (if wh = 0 then 0 else -99) 99) X') → wX1_reckon (nI wh) o (nI p) X Q
def CR (f : Nat → Int32 → Int32 → Int32 → Int32 → Int32 → Int32 → Int32) (X : St) (o : Nat) : Prop := (o = 1 ∨ o = 2) ∧ ∃ r k, r < k ∧ k ≤ 6 ∧ gI X 4 1 = nI k ∧ gI X o 3 = nI r ∧ CEv f (X (6 + r))
theorem CR_C {f : Nat → Int32 → Int32 → Int32 → Int32 → Int32 → Int32 → Int32} {X Y : St} {o : Nat} (h : FrC o X Y) (h3 : gI Y o 3 = gI X o 3) (hm : CR f X o) : CR f Y o := by
  obtain ⟨ho, r, k, h1, h2, h4, h5, h6⟩ := hm
  refine ⟨ho, r, k, h1, h2, by rw [h.2]; exact h4, by rw [h3]; exact h5, ?_⟩
  rw [h.1 (6 + r) (by omega) (by omega)]
  exact h6
theorem CR_V {f : Nat → Int32 → Int32 → Int32 → Int32 → Int32 → Int32 → Int32} {X Y : St} {o : Nat} (h : FrV X Y) (hm : CR f X o) : CR f Y o := CR_C (FrV_C h) (gI_same (h.1 o (by have := hm.1; omega))) hm
theorem c_box {X : St} {o : Nat} {Q : Int32 → St → Prop} (h : Q (boxF (gA X o 4)) X) : wX4_squaresInBox o X Q := by
  have main : ∀ (m k : Nat), k + m = 4 → wX4_squaresInBox_l4 (m + 1) o (sg (fun p => gA X o 4 p) k) (nI k) X Q := by
    intro m
    induction m with
    | zero =>
      intro k hk
      have e : k = 4 := by omega
      subst e
      apply wX4_squaresInBox_l4_1
      refine ⟨fun _ => ?_, fun c => absurd (Int32.le_refl _) c⟩
      have e9 : sg (fun p => gA X o 4 p) 4 = boxF (gA X o 4) := by
        unfold boxF
        simp [sg]
      rw [e9]
      exact h
    | succ m ih =>
      intro k hk
      apply wX4_squaresInBox_l4_1
      refine ⟨fun c => absurd c (nle (N := 4) (k := k) (by omega) (by decide)), fun _ => ⟨vp_in_nI (by omega) (by decide), fun x3 e3 x4 e4 => ?_⟩⟩
      rw [nI_clamp (by omega)] at e3
      rw [e4, nI_1, e3]
      exact ih (k + 1) (by omega)
  exact ⟨5, main 4 0 rfl⟩
theorem c_says {f : Nat → Int32 → Int32 → Int32 → Int32 → Int32 → Int32 → Int32} {X : St} {o p wh : Nat} {fl : Int64} {dy ru mn : Int32} {bx rw wt : Nat → Int32} {Q : Int32 → St → Prop} (hp : p < 5) (hw : wh < 3) (hW : WRel X o fl dy ru mn bx rw wt) (hM : CR f X o) (h : ∀ X', FrV X X' → Q (sayF f fl dy bx rw wh p) X') : wX1_reckon (nI wh) o (nI p) X Q := by
  obtain ⟨ho, r, k, h1, h2, h4, h5, h6⟩ := hM
  obtain ⟨⟨e1, e2, e3, e4, -⟩, hb, hr, ht⟩ := hW
  have h9 := (hr p hp).1
  refine h6 X o r p wh Q rfl (by omega) ho hp hw h5 ⟨k, h1, h2, h4⟩ (fun X' F => ?_)
  have eb : boxF (gA X o 4) = boxF bx := by
    unfold boxF
    rw [(hb 0 (by decide)).1, (hb 1 (by decide)).1, (hb 2 (by decide)).1, (hb 3 (by decide)).1]
  rw [h9.2.2.2.1, h9.2.2.1, h9.2.1, e2, e1, eb]
  exact h X' F
theorem i_bounded {v : Int32} {X : St} {Q : Int32 → St → Prop} (h : Q (clp v 1 99) X) : wX1_daysBounded v X Q := by
  unfold wX1_daysBounded
  rw [mn_clp v 1 (by decide)]
  exact h
theorem c_need {f : Nat → Int32 → Int32 → Int32 → Int32 → Int32 → Int32 → Int32} {X : St} {o p : Nat} {fl : Int64} {dy ru mn : Int32} {bx rw wt : Nat → Int32} {Q : Int32 → St → Prop} (hp : p < 5) (hW : WRel X o fl dy ru mn bx rw wt) (hM : CR f X o) (h : ∀ X', FrV X X' → Q (needF f fl dy bx rw p) X') : wX1_daysNeeded o (nI p) X Q := by
  have o4 : ¬ o = 4 := by have := hM.1; omega
  have hx := (hW.2.2.1 p hp)
  have eb : boxF (gA X o 4) = boxF bx := by
    have hb := hW.2.1
    unfold boxF
    rw [(hb 0 (by decide)).1, (hb 1 (by decide)).1, (hb 2 (by decide)).1, (hb 3 (by decide)).1]
  unfold wX1_daysNeeded
  rw [nI_clamp (n := p) (by omega)]
  have vp : vp_in (nI p) 5 := vp_in_nI hp (by decide)
  refine ⟨vp, fun x2 e2 => ?_⟩
  rw [hx.1.1] at e2
  unfold needF at h
  rw [← e2] at h
  have num : ∀ X', FrV X X' → gA X' o 7 p = rw (5 * p) := fun X' F => by rw [gA_same (F.1 o o4)]; exact hx.1.2.1
  refine ⟨fun a => c_says (wh := 0) hp (by decide) hW hM (fun X' F => i_bounded ?_), fun a => c_says (wh := 0) hp (by decide) hW hM (fun X' F => ⟨vp, i_bounded ?_⟩), fun a => c_says (wh := 0) hp (by decide) hW hM (fun X' F => i_bounded ?_), fun a => c_box ⟨fun b => c_says (wh := 0) hp (by decide) hW hM (fun X' F => ⟨vp, i_bounded ?_⟩), fun b => ?_⟩, fun a => ?_, fun a1 a2 a3 a4 a5 => c_says (wh := 0) hp (by decide) hW hM (fun X' F => i_bounded ?_)⟩
  · have h9 := h X' F
    rw [a] at h9
    simpa using h9
  · have h9 := h X' F
    rw [num X' F]
    rw [a] at h9
    simpa using h9
  · have h9 := h X' F
    rw [a] at h9
    simpa using h9
  · have h9 := h X' F
    rw [num X' F]
    rw [eb] at b
    rw [a, if_neg (by decide), if_neg (fun q => b q.2)] at h9
    simpa using h9
  · have h9 := h X (FrV_refl X)
    rw [eb] at b
    rw [a, if_neg (by decide), if_pos ⟨rfl, b⟩] at h9
    exact h9
  · have h9 := h X (FrV_refl X)
    rw [a] at h9
    simpa using h9
  · have h9 := h X' F
    have a0 : x2 = 0 := by
      obtain ⟨j, hj, e⟩ := hx.2.1
      rw [← e2] at e
      have : ∀ j, j ≤ 5 → (¬ nI j = 1 ∧ ¬ nI j = 2 ∧ ¬ nI j = 3 ∧ ¬ nI j = 4 ∧ ¬ nI j = 5) → nI j = 0 := by decide
      rw [e] at a1 a2 a3 a4 a5 ⊢
      exact this j hj ⟨a1, a2, a3, a4, a5⟩
    rw [a0] at h9
    simpa using h9
theorem c_col {X : St} {o c : Nat} {w : Int32} {Q : Int32 → St → Prop} (hc : c < 64) (hr : rg w 3) (ht : ∀ k, k < 4 → tb (gB X o 0 k) c = decide (w = nI k)) (h : Q w X) : wX4_colourOf o (lsh 1 (nI c)) X Q := by
  have main : ∀ (m k : Nat), k + m = 3 → (∀ i, i < k → ¬ w = nI i) → wX4_colourOf_l2 (m + 1) o (lsh 1 (nI c)) (nI k) X Q := by
    intro m
    induction m with
    | zero =>
      intro k hk hn
      have e : k = 3 := by omega
      subst e
      apply wX4_colourOf_l2_1
      refine ⟨fun _ => ?_, fun c => absurd (Int32.le_refl _) c⟩
      obtain ⟨j, hj, e⟩ := hr
      have : j = 3 := by
        by_cases j3 : j = 3
        · exact j3
        · exact absurd e (hn j (by omega))
      rw [← this, ← e]
      exact h
    | succ m ih =>
      intro k hk hn
      apply wX4_colourOf_l2_1
      refine ⟨fun c => absurd c (nle (N := 3) (k := k) (by omega) (by decide)), fun _ => ⟨vp_in_nI (by omega) (by decide), ?_⟩⟩
      rw [nI_clamp (by omega), lg_eq0, tb_one _ hc, ht k (by omega)]
      refine ⟨fun q => ?_, fun q x4 e4 => ?_⟩
      · have : w = nI k := by simpa using q
        rw [← this]
        exact h
      · rw [e4, nI_1]
        refine ih (k + 1) (by omega) (fun i hi => ?_)
        by_cases e : i = k
        · rw [e]; simpa using q
        · exact hn i (by omega)
  exact ⟨4, main 3 0 rfl (fun i hi => absurd hi (Nat.not_lt_zero i))⟩
theorem em_m1 (fl : Int64) : emF fl < 64 ↔ ¬ fl = -1 := by
  constructor
  · intro h e
    have h2 : emF fl = 64 := by
      have := frm_no (P := fun c => !tb fl c) 64 0 (fun i _ hi => by rw [e, tb_m1 i (by omega)]; rfl)
      unfold emF
      omega
    omega
  · intro h
    have h2 : ∃ c, c < 64 ∧ tb fl c = false := by
      by_cases z : ∃ c, c < 64 ∧ tb fl c = false
      · exact z
      · exfalso
        apply h
        apply tb_ext
        intro i hi
        rw [tb_m1 i hi]
        cases q : tb fl i
        · exact absurd ⟨i, hi, q⟩ z
        · rfl
    obtain ⟨c, hc, hq⟩ := h2
    have hle := em_in fl
    by_cases e : emF fl = 64
    · exfalso
      have : ∀ (m k : Nat), k ≤ c → c < k + m → frm (fun c => !tb fl c) m k < k + m := by
        intro m
        induction m with
        | zero => intro k h1 h2; omega
        | succ m ih =>
          intro k h1 h2
          unfold frm
          by_cases z : (!tb fl k) = true
          · rw [if_pos z]; omega
          · rw [if_neg z]
            have : ¬ k = c := fun q => z (by rw [q, hq]; rfl)
            have := ih (k + 1) (by omega) (by omega)
            omega
      have := this 64 0 (by omega) (by omega)
      unfold emF at e
      omega
    · omega
theorem em_low {fl : Int64} (h : ¬ fl = -1) : ((fl ^^^ (-1)) &&& (-(fl ^^^ (-1)))) = lsh 1 (nI (emF fl)) ∧ emF fl < 64 := by
  have h1 := (em_m1 fl).mpr h
  have hz : ¬ (fl ^^^ (-1)) = 0 := by
    intro q
    apply h
    apply tb_ext
    intro i hi
    have := (tb_eq0.mp q) i hi
    rw [tb_not fl hi] at this
    rw [tb_m1 i hi]
    simpa using this
  obtain ⟨c, hc, ht, hl, e, -⟩ := lowbit hz
  have : emF fl = c := by
    unfold emF
    refine frm_at 64 0 c (by omega) (by omega) ?_ (fun i _ hi => ?_)
    · rw [tb_not fl hc] at ht; exact ht
    · have := hl i hi
      rw [tb_not fl (by omega)] at this; exact this
  rw [e, this]
  exact ⟨rfl, hc⟩
theorem c_give {f : Nat → Int32 → Int32 → Int32 → Int32 → Int32 → Int32 → Int32} {X : St} {o p : Nat} {fl : Int64} {dy ru mn : Int32} {bx rw wt : Nat → Int32} {Q : Int32 → St → Prop} (hp : p < 5) (hd : 0 ≤ dy.toInt) (hW : WRel X o fl dy ru mn bx rw wt) (hM : CR f X o) (h : ∀ X', FrV X X' → Q (giveF f wt fl dy bx rw p) X') : wX1_colourGiven o (nI p) X Q := by
  have hx := (hW.2.2.1 p hp)
  unfold wX1_colourGiven
  rw [nI_clamp (n := p) (by omega)]
  have vp : vp_in (nI p) 5 := vp_in_nI hp (by decide)
  refine ⟨vp, fun x2 e2 => ⟨vp, fun x4 e4 => ?_⟩⟩
  rw [hx.1.1] at e4
  rw [hx.1.2.2.1] at e2
  have r2 : rg x2 3 := by rw [e2]; exact hx.2.2.2.1
  unfold giveF at h
  rw [← e2, ← e4] at h
  have dm : irm dy 2 = 0 ∨ irm dy 2 = 1 := by
    have h9 := irm_tm dy 2 (by decide)
    have h8 : (2 : Int32).toInt = 2 := rfl
    rw [h8] at h9
    have h7 : dy.toInt.tmod 2 = 0 ∨ dy.toInt.tmod 2 = 1 := by
      have g1 := Int.tmod_nonneg 2 hd
      have g2 := Int.natAbs_tmod dy.toInt 2
      have g3 : dy.toInt.natAbs % 2 < 2 := Nat.mod_lt _ (by decide)
      have g4 : (2 : Int).natAbs = 2 := rfl
      rw [g4] at g2
      omega
    rcases h7 with h7 | h7
    · exact Or.inl (Int32.toInt_inj.mp (by rw [h9, h7]; rfl))
    · exact Or.inr (Int32.toInt_inj.mp (by rw [h9, h7]; rfl))
  refine ⟨fun a => c_says (wh := 1) hp (by decide) hW hM (fun X' F => i_fmod ?_), fun a => i_fmod ?_, fun a => ⟨fun b => c_says (wh := 1) hp (by decide) hW hM (fun X' F => i_fmod ?_), fun b => ?_⟩, fun a => ⟨fun b => ?_, fun b => i_fmod ?_⟩, fun a => ⟨vp, i_fmod ?_⟩, fun a1 a2 a3 a4 a5 => ?_⟩
  · have h9 := h X' F
    rw [if_pos (Or.inl a)] at h9
    exact h9
  · have h9 := h X (FrV_refl X)
    rw [a] at h9
    simpa using h9
  · have h9 := h X' F
    rw [hW.1.2.1] at b
    have b1 : irm dy 2 = 1 := by rcases dm with q | q; exact absurd q b; exact q
    rw [if_pos (Or.inr ⟨a, b1⟩)] at h9
    exact h9
  · have h9 := h X (FrV_refl X)
    rw [hW.1.2.1] at b
    rw [a, b] at h9
    simp at h9
    rw [rnd_id r2] at h9
    exact h9
  · rw [lg_eq0, hW.1.1] at b
    have he := em_low b
    intro x1 e1
    rw [hW.1.1] at e1
    rw [e1, he.1]
    have hwt := hW.2.2.2 (emF fl) he.2
    refine c_col he.2 hwt.1 hwt.2 ?_
    have h9 := h X (FrV_refl X)
    rw [if_neg (by rw [a]; simp), if_pos ⟨a, he.2⟩] at h9
    exact h9
  · rw [lg_eq0, hW.1.1] at b
    have h9 := h X (FrV_refl X)
    have nb : ¬ emF fl < 64 := fun q => (em_m1 fl).mp q b
    rw [if_neg (by rw [a]; simp), if_neg (fun q => nb q.2), if_pos (Or.inr a)] at h9
    exact h9
  · have h9 := h X (FrV_refl X)
    rw [hx.1.2.1]
    rw [a] at h9
    simpa using h9
  · have h9 := h X (FrV_refl X)
    simp [a1, a2, a3, a4, a5] at h9
    rw [rnd_id r2] at h9
    exact h9
theorem c_turn {f : Nat → Int32 → Int32 → Int32 → Int32 → Int32 → Int32 → Int32} {X : St} {o p : Nat} {fl : Int64} {dy ru mn : Int32} {bx rw wt : Nat → Int32} {Q : Int32 → St → Prop} (hp : p < 5) (hW : WRel X o fl dy ru mn bx rw wt) (hM : CR f X o) (h : ∀ X', FrV X X' → Q (turnF f fl dy bx rw p) X') : wX1_colourNext o (nI p) X Q := by
  have o4 : ¬ o = 4 := by have := hM.1; omega
  have hx := (hW.2.2.1 p hp)
  unfold wX1_colourNext
  rw [nI_clamp (n := p) (by omega)]
  have vp : vp_in (nI p) 5 := vp_in_nI hp (by decide)
  refine ⟨vp, fun x2 e2 => ⟨vp, fun x4 e4 => ?_⟩⟩
  rw [hx.1.1] at e4
  rw [hx.1.2.2.1] at e2
  have r2 : rg x2 3 := by rw [e2]; exact hx.2.2.2.1
  unfold turnF at h
  rw [← e2, ← e4] at h
  have num : ∀ X', FrV X X' → gA X' o 7 p = rw (5 * p) := fun X' F => by rw [gA_same (F.1 o o4)]; exact hx.1.2.1
  refine ⟨fun a => ?_, fun a => c_says (wh := 2) hp (by decide) hW hM (fun X' F => i_fmod ?_), fun a => ⟨vp, i_fmod ?_⟩, fun a => c_says (wh := 2) hp (by decide) hW hM (fun X' F => i_fmod ?_), fun a => c_says (wh := 2) hp (by decide) hW hM (fun X' F => ⟨vp, i_fmod ?_⟩), fun a1 a2 a3 a4 a5 => c_says (wh := 2) hp (by decide) hW hM (fun X' F => i_fmod ?_)⟩
  · have h9 := h X (FrV_refl X)
    rw [if_pos a, rnd_id r2] at h9
    exact h9
  · have h9 := h X' F
    rw [a] at h9
    simpa using h9
  · have h9 := h X (FrV_refl X)
    rw [hx.1.2.1]
    rw [a] at h9
    simpa using h9
  · have h9 := h X' F
    rw [a] at h9
    simpa using h9
  · have h9 := h X' F
    rw [num X' F]
    rw [a] at h9
    simpa using h9
  · have h9 := h X' F
    have a0 : x4 = 0 := by
      obtain ⟨j, hj, e⟩ := hx.2.1
      rw [← e4] at e
      have : ∀ j, j ≤ 5 → (¬ nI j = 1 ∧ ¬ nI j = 2 ∧ ¬ nI j = 3 ∧ ¬ nI j = 4 ∧ ¬ nI j = 5) → nI j = 0 := by decide
      rw [e] at a1 a2 a3 a4 a5 ⊢
      exact this j hj ⟨a1, a2, a3, a4, a5⟩
    rw [a0] at h9
    simpa using h9
