/-! TOKENS of the class -/
theorem nI_sub {a e : Nat} (h : a ≤ e) : nI e - nI a = nI (e - a) := by
  have h1 := nI_add (e - a) a
  rw [Nat.sub_add_cancel h] at h1
  rw [← h1]
  exact Int32.add_sub_cancel _ _
def Fr5 (X Y : St) : Prop := (∀ q, ¬ q = 5 → Y q = X q) ∧ gA Y 5 0 = gA X 5 0 ∧ gI Y 5 1 = gI X 5 1
theorem Fr5_refl (X : St) : Fr5 X X := ⟨fun _ _ => rfl, rfl, rfl⟩
theorem Fr5_trans {X Y Z : St} (h : Fr5 X Y) (g : Fr5 Y Z) : Fr5 X Z := ⟨fun q hq => (g.1 q hq).trans (h.1 q hq), g.2.1.trans h.2.1, g.2.2.trans h.2.2⟩
theorem Fr5_sI {X : St} {f : Nat} {v : Int32} (h : ¬ f = 1) : Fr5 X (sI X 5 f v) := ⟨fun q hq => o_sI hq, gA_sI _ _ _ _ _ _, gI_sIf _ _ _ _ (by omega)⟩
def CT (b : Nat → Int32) (n : Nat) (X : St) : Prop := gI X 5 1 = nI n ∧ ∀ i, i < n → gA X 5 0 i = b i
theorem CT_F {b : Nat → Int32} {n : Nat} {X Y : St} (h : Fr5 X Y) (hT : CT b n X) : CT b n Y := ⟨h.2.2.trans hT.1, fun i hi => by rw [h.2.1]; exact hT.2 i hi⟩
theorem i_isLetter {x : Int32} {σ : St} {Q : Int32 → St → Prop} (h1 : isLt x = true → Q 1 σ) (h0 : isLt x = false → Q 0 σ) : wX0_isLetter x σ Q := by
  have a1 : (97 : Int32).toInt = 97 := rfl
  have a2 : (122 : Int32).toInt = 122 := rfl
  refine ⟨fun c => h0 ?_, fun c => ⟨fun d => h0 ?_, fun d => h1 ?_⟩⟩
  · rw [Int32.lt_iff_toInt_lt, a1] at c
    unfold isLt
    rw [decide_eq_false (by omega)]; rfl
  · rw [Int32.lt_iff_toInt_lt, a2] at d
    unfold isLt
    rw [decide_eq_false (p := x.toInt ≤ 122) (by omega), Bool.and_false]
  · rw [Int32.lt_iff_toInt_lt, a1] at c
    rw [Int32.lt_iff_toInt_lt, a2] at d
    unfold isLt
    rw [decide_eq_true (by omega), decide_eq_true (by omega)]; rfl
theorem i_isDigit {x : Int32} {σ : St} {Q : Int32 → St → Prop} (h1 : isDg x = true → Q 1 σ) (h0 : isDg x = false → Q 0 σ) : wX0_isDigit x σ Q := by
  have a1 : (48 : Int32).toInt = 48 := rfl
  have a2 : (57 : Int32).toInt = 57 := rfl
  refine ⟨fun c => h0 ?_, fun c => ⟨fun d => h0 ?_, fun d => h1 ?_⟩⟩
  · rw [Int32.lt_iff_toInt_lt, a1] at c
    unfold isDg
    rw [decide_eq_false (by omega)]; rfl
  · rw [Int32.lt_iff_toInt_lt, a2] at d
    unfold isDg
    rw [decide_eq_false (p := x.toInt ≤ 57) (by omega), Bool.and_false]
  · rw [Int32.lt_iff_toInt_lt, a1] at c
    rw [Int32.lt_iff_toInt_lt, a2] at d
    unfold isDg
    rw [decide_eq_true (by omega), decide_eq_true (by omega)]; rfl
theorem i_isSgn {x : Int32} {σ : St} {Q : Int32 → St → Prop} (h1 : isSg x = true → Q 1 σ) (h0 : isSg x = false → Q 0 σ) : wX0_isSign x σ Q := by
  unfold isSg at h1 h0
  refine ⟨fun c => h1 (by simp [c]), fun c1 => ⟨fun c => h1 (by simp [c]), fun c2 => ⟨fun c => h1 (by simp [c]), fun c3 => ⟨fun c => h1 (by simp [c]), fun c4 => ⟨fun c => h1 (by simp [c]), fun c5 => ⟨fun c => h1 (by simp [c]), fun c6 => ⟨fun c => h1 (by simp [c]), fun c7 => ⟨fun c8 => h0 (by simp [c1, c2, c3, c4, c5, c6, c7, c8]), fun c => h1 (by simp [c])⟩⟩⟩⟩⟩⟩⟩⟩
theorem c_tw {b : Nat → Int32} {n : Nat} (hn : n ≤ 160) {Q : St → Prop} : ∀ (m q : Nat) (X : St), n - q = m → q ≤ n → CT b n X → gI X 5 2 = nI q → (∀ Y, Fr5 X Y → gI Y 5 4 = gI X 5 4 → gI Y 5 2 = nI (sp isLt b n q) → wX0_takeWord_j39 Y Q) → wX0_takeWord_l0 (m + 1) X Q := by
  intro m
  induction m with
  | zero =>
    intro q X hm hq hT e K
    have eq : q = n := by omega
    subst eq
    apply wX0_takeWord_l0_1
    unfold wX0_takeWord_l0s
    rw [hT.1, e]
    refine ⟨fun _ => K X (Fr5_refl X) rfl ?_, fun c => absurd (Int32.le_refl _) c⟩
    rw [sp_end (Nat.le_refl _)]; exact e
  | succ m ih =>
    intro q X hm hq hT e K
    have hq' : q < n := by omega
    apply wX0_takeWord_l0_1
    unfold wX0_takeWord_l0s
    rw [hT.1, e, nI_clamp (by omega), hT.2 q hq']
    refine ⟨fun c => absurd c (nle hq' (by omega)), fun _ => ⟨vp_in_nI (by omega) (by decide), i_isLetter (fun t => ⟨fun q => absurd q ne10, fun _ σ16 e16 => ?_⟩) (fun t => ⟨fun _ => K X (Fr5_refl X) rfl ?_, fun q => absurd rfl q⟩)⟩⟩
    · rw [e, nI_1] at e16
      have F := Fr5_sI (X := X) (f := 2) (v := nI (q + 1)) (by decide)
      rw [← e16] at F
      refine ih (q + 1) σ16 (by omega) (by omega) (CT_F F hT) (by rw [e16, gI_sIs]) (fun Y FY e4 e2 => K Y (Fr5_trans F FY) (by rw [e4, e16, gI_sIf _ _ _ _ (by decide)]) ?_)
      rw [sp_yes hq' t]; exact e2
    · rw [sp_no t]; exact e
theorem str_z : ∀ i, i < 12 → strL.getD i 0 ≤ 8 ∧ ∀ j, j < 8 → (strL.getD i 0 ≤ j → strAt i j = 0) ∧ (j < strL.getD i 0 → ¬ strAt i j = 0) := by decide +kernel
theorem isLt_ne0 {x : Int32} (h : isLt x = true) : ¬ x = 0 := by
  intro q
  rw [q] at h
  exact absurd h (by decide)
theorem okW_iff {b : Nat → Int32} {a e i : Nat} (hi : i < 12) (ha : a ≤ e) (hl : ∀ j, a ≤ j → j < e → isLt (b j) = true) : okW b a e i = true ↔ (e - a = strL.getD i 0 ∧ ∀ j, j < strL.getD i 0 → strAt i j = b (a + j)) := by
  have hz := str_z i hi
  rw [okW_t]
  constructor
  · intro h
    have hL : e - a = strL.getD i 0 := by
      rcases Nat.lt_trichotomy (e - a) (strL.getD i 0) with q | q | q
      · exfalso
        have h1 := h.2 (e - a) (by omega)
        unfold ltA at h1
        rw [if_neg (by omega)] at h1
        exact (hz.2 (e - a) (by omega)).2 q h1.symm
      · exact q
      · exfalso
        have h1 := h.2 (strL.getD i 0) (by omega)
        unfold ltA at h1
        rw [if_pos (by omega), (hz.2 _ (by omega)).1 (Nat.le_refl _)] at h1
        exact isLt_ne0 (hl _ (by omega) (by omega)) h1
    refine ⟨hL, fun j hj => ?_⟩
    have h1 := h.2 j (by omega)
    unfold ltA at h1
    rw [if_pos (by omega)] at h1
    exact h1.symm
  · intro h
    refine ⟨by omega, fun j hj => ?_⟩
    unfold ltA
    by_cases c : a + j < e
    · rw [if_pos c]
      exact (h.2 j (by omega)).symm
    · rw [if_neg c]
      exact ((hz.2 j hj).1 (by omega)).symm
theorem c_isW {b : Nat → Int32} {n a e i : Nat} {X : St} {Q : Int32 → St → Prop} (hi : i < 12) (hn : n ≤ 160) (hT : CT b n X) (he : e ≤ n) (ha : a ≤ e) (e4 : gI X 5 4 = nI a) (e2 : gI X 5 2 = nI e) (hl : ∀ j, a ≤ j → j < e → isLt (b j) = true) (h1 : okW b a e i = true → Q 1 X) (h0 : okW b a e i = false → Q 0 X) : wX0_isWord i X Q := by
  have hz := str_z i hi
  have hok := okW_iff (b := b) hi ha hl
  have es : strLn i = nI (strL.getD i 0) := rfl
  have hno : ¬ (e - a = strL.getD i 0 ∧ ∀ j, j < strL.getD i 0 → strAt i j = b (a + j)) → Q 0 X := by
    intro q
    apply h0
    cases z : okW b a e i
    · rfl
    · exact absurd (hok.mp z) q
  unfold wX0_isWord
  rw [e2, e4, nI_sub ha, es, nI_eq (by omega) (by omega)]
  refine ⟨fun c => ?_, fun c => hno (fun q => c q.1.symm)⟩
  have main : ∀ (m j : Nat), j + m = strL.getD i 0 → (∀ k, k < j → strAt i k = b (a + k)) → wX0_isWord_l20 (m + 1) i (nI j) X Q := by
    intro m
    induction m with
    | zero =>
      intro j hj hk
      apply wX0_isWord_l20_1
      refine ⟨fun _ => h1 (hok.mpr ⟨c.symm, fun k hk2 => hk k (by omega)⟩), fun q => absurd ?_ q⟩
      rw [es, show j = strL.getD i 0 by omega]
      exact Int32.le_refl _
    | succ m ih =>
      intro j hj hk
      apply wX0_isWord_l20_1
      unfold wX0_isWord_l20s
      rw [e4, nI_add, nI_clamp (by omega), nI_clamp (by omega), hT.2 (a + j) (by omega), es]
      refine ⟨fun q => absurd q (nle (by omega) (by omega)), fun _ => ⟨vp_in_nI (by omega) (by omega), vp_in_nI (by omega) (by decide), fun q x6 e6 => ?_, fun q => hno (fun z => q (z.2 j (by omega)))⟩⟩
      rw [e6, nI_1]
      refine ih (j + 1) (by omega) (fun k hk2 => ?_)
      by_cases ek : k = j
      · rw [ek]; exact q
      · exact hk k (by omega)
  exact ⟨strL.getD i 0 + 1, main (strL.getD i 0) 0 (by omega) (fun k hk => absurd hk (Nat.not_lt_zero k))⟩
theorem i_wordAt {i : Nat} {σ : St} {Q : Nat → St → Prop} (hi : i < 12) (h : Q i σ) : wX0_wordAt (nI i) σ Q := by
  unfold wX0_wordAt
  match i, hi with
  | 0, _ | 1, _ | 2, _ | 3, _ | 4, _ | 5, _ | 6, _ | 7, _ | 8, _ | 9, _ | 10, _ | 11, _ =>
    refine ⟨fun q => ?_, fun q => ?_, fun q => ?_, fun q => ?_, fun q => ?_, fun q => ?_, fun q => ?_, fun q => ?_, fun q => ?_, fun q => ?_, fun q => ?_, fun q0 q1 q2 q3 q4 q5 q6 q7 q8 q9 q10 => ?_⟩
    all_goals first
      | exact h
      | exact absurd q (by decide)
      | exact absurd rfl q0
      | exact absurd rfl q1
      | exact absurd rfl q2
      | exact absurd rfl q3
      | exact absurd rfl q4
      | exact absurd rfl q5
      | exact absurd rfl q6
      | exact absurd rfl q7
      | exact absurd rfl q8
      | exact absurd rfl q9
      | exact absurd rfl q10
theorem c_word {b : Nat → Int32} {n a : Nat} {X : St} {Q : St → Prop} (hn : n ≤ 160) (ha : a ≤ n) (hT : CT b n X) (e2 : gI X 5 2 = nI a) (e4 : gI X 5 4 = nI a) (K : ∀ Y, Fr5 X Y → gI Y 5 2 = nI (sp isLt b n a) → gI Y 5 4 = nI a → gI Y 5 3 = wtk (okW b a (sp isLt b n a)) 12 → Q Y) : wX0_takeWord X Q := by
  refine ⟨n - a + 1, c_tw hn (n - a) a X rfl ha hT e2 (fun Y FY d4 d2 σ2 s2 => ?_)⟩
  have hle := sp_le (P := isLt) (b := b) ha
  have F2 : Fr5 X σ2 := by rw [s2]; exact Fr5_trans FY (Fr5_sI (by decide))
  have g2 : gI σ2 5 2 = nI (sp isLt b n a) := by rw [s2, gI_sIf _ _ _ _ (by decide)]; exact d2
  have g4 : gI σ2 5 4 = nI a := by rw [s2, gI_sIf _ _ _ _ (by decide), d4]; exact e4
  have g3 : gI σ2 5 3 = wtk (okW b a (sp isLt b n a)) 0 := by rw [s2, gI_sIs]; rfl
  have main : ∀ (m i : Nat) (T : St), i + m = 12 → Fr5 X T → gI T 5 2 = nI (sp isLt b n a) → gI T 5 4 = nI a → gI T 5 3 = wtk (okW b a (sp isLt b n a)) i → wX0_takeWord_l46 (m + 1) (nI i) T Q := by
    intro m
    induction m with
    | zero =>
      intro i T hi F t2 t4 t3
      have ei : i = 12 := by omega
      subst ei
      apply wX0_takeWord_l46_1
      exact ⟨fun _ => K T F t2 t4 t3, fun q => absurd (Int32.le_refl _) q⟩
    | succ m ih =>
      intro i T hi F t2 t4 t3
      apply wX0_takeWord_l46_1
      refine ⟨fun q => absurd q (nle (N := 12) (k := i) (by omega) (by decide)), fun _ => i_wordAt (by omega) (c_isW (e := sp isLt b n a) (by omega) hn (CT_F F hT) hle.2 hle.1 t4 t2 sp_all (fun t => ⟨fun q => absurd q ne10, fun _ σ10 e10 x9 e9 => ?_⟩) (fun t => ⟨fun _ x9 e9 => ?_, fun q => absurd rfl q⟩))⟩
      · rw [e9, nI_1]
        refine ih (i + 1) σ10 (by omega) (Fr5_trans F (by rw [e10]; exact Fr5_sI (by decide))) (by rw [e10, gI_sIf _ _ _ _ (by decide)]; exact t2) (by rw [e10, gI_sIf _ _ _ _ (by decide)]; exact t4) ?_
        rw [e10, gI_sIs]
        unfold wtk
        rw [if_pos t]
        exact nI_add 300 i
      · rw [e9, nI_1]
        refine ih (i + 1) T (by omega) F t2 t4 ?_
        unfold wtk
        rw [t]
        exact t3
  exact ⟨13, main 12 0 σ2 (by omega) F2 g2 g4 g3⟩
theorem c_dig {b : Nat → Int32} {n a : Nat} {X : St} {Q : St → Prop} (hn : n ≤ 160) (ha : a ≤ n) (hT : CT b n X) (e2 : gI X 5 2 = nI a) (e4 : gI X 5 4 = nI a) (K : ∀ Y, Fr5 X Y → gI Y 5 2 = nI (sp isDg b n a) → gI Y 5 4 = nI a → gI Y 5 3 = (if sp isDg b n a - a ≤ 4 then 2 else 1) → gI Y 5 5 = nuA b n a → Q Y) : wX0_takeDigits X Q := by
  intro σ1 s1
  have hle := sp_le (P := isDg) (b := b) ha
  have j68 : ∀ T, Fr5 X T → gI T 5 2 = nI (sp isDg b n a) → gI T 5 4 = nI a → gI T 5 5 = nuA b n a → wX0_takeDigits_j68 T Q := by
    intro T F t2 t4 t5
    unfold wX0_takeDigits_j68
    rw [t2, t4, nI_sub hle.1, show (4 : Int32) = nI 4 from rfl, nI_leI (by omega) (by decide)]
    refine ⟨fun c σ4 s4 => K σ4 (by rw [s4]; exact Fr5_trans F (Fr5_sI (by decide))) (by rw [s4, gI_sIf _ _ _ _ (by decide)]; exact t2) (by rw [s4, gI_sIf _ _ _ _ (by decide)]; exact t4) (by rw [s4, gI_sIs, if_pos c]) (by rw [s4, gI_sIf _ _ _ _ (by decide)]; exact t5), fun c σ4 s4 => K σ4 (by rw [s4]; exact Fr5_trans F (Fr5_sI (by decide))) (by rw [s4, gI_sIf _ _ _ _ (by decide)]; exact t2) (by rw [s4, gI_sIf _ _ _ _ (by decide)]; exact t4) (by rw [s4, gI_sIs, if_neg c]) (by rw [s4, gI_sIf _ _ _ _ (by decide)]; exact t5)⟩
  have main : ∀ (m q : Nat) (T : St), n - q = m → q ≤ n → Fr5 X T → gI T 5 2 = nI q → gI T 5 4 = nI a → sp isDg b n q = sp isDg b n a → nuf b (sp isDg b n q - q) q (gI T 5 5) = nuA b n a → wX0_takeDigits_l5 (m + 1) T Q := by
    intro m
    induction m with
    | zero =>
      intro q T hm hq F t2 t4 t6 t5
      have eq : q = n := by omega
      subst eq
      apply wX0_takeDigits_l5_1
      unfold wX0_takeDigits_l5s
      rw [(CT_F F hT).1, t2]
      rw [sp_end (Nat.le_refl _)] at t5 t6
      refine ⟨fun _ => j68 T F (by rw [← t6]; exact t2) t4 ?_, fun c => absurd (Int32.le_refl _) c⟩
      rw [Nat.sub_self] at t5
      exact t5
    | succ m ih =>
      intro q T hm hq F t2 t4 t6 t5
      have hq' : q < n := by omega
      apply wX0_takeDigits_l5_1
      unfold wX0_takeDigits_l5s
      rw [(CT_F F hT).1, t2, nI_clamp (by omega), (CT_F F hT).2 q hq']
      have vq : vp_in (nI q) 160 := vp_in_nI (by omega) (by decide)
      refine ⟨fun c => absurd c (nle hq' (by omega)), fun _ => ⟨vq, i_isDigit (fun t => ⟨fun q => absurd q ne10, fun _ => ⟨by rw [t2]; exact vq, fun σ10 e10 σ11 e11 => ?_⟩⟩) (fun t => ⟨fun _ => j68 T F ?_ t4 ?_, fun q => absurd rfl q⟩)⟩⟩
      · rw [t2, nI_clamp (by omega), (CT_F F hT).2 q hq'] at e10
        have f10 : gI σ10 5 2 = nI q := by rw [e10, gI_sIf _ _ _ _ (by decide)]; exact t2
        rw [f10, nI_1] at e11
        rw [sp_yes hq' t] at t5 t6
        have h3 := (sp_le (P := isDg) (b := b) (n := n) (p := q + 1) (by omega)).1
        refine ih (q + 1) σ11 (by omega) (by omega) (Fr5_trans F (by rw [e11]; exact Fr5_trans (by rw [e10]; exact Fr5_sI (by decide)) (Fr5_sI (by decide)))) (by rw [e11, gI_sIs]) (by rw [e11, gI_sIf _ _ _ _ (by decide), e10, gI_sIf _ _ _ _ (by decide)]; exact t4) t6 ?_
        rw [e11, gI_sIf _ _ _ _ (by decide), e10, gI_sIs, ← t5, show sp isDg b n (q + 1) - q = (sp isDg b n (q + 1) - (q + 1)) + 1 by omega]
        rfl
      · rw [sp_no t] at t6; rw [← t6]; exact t2
      · rw [sp_no t, Nat.sub_self] at t5; exact t5
  refine ⟨n - a + 1, main (n - a) a σ1 rfl ha (by rw [s1]; exact Fr5_sI (by decide)) (by rw [s1, gI_sIf _ _ _ _ (by decide)]; exact e2) (by rw [s1, gI_sIf _ _ _ _ (by decide)]; exact e4) rfl ?_⟩
  rw [s1, gI_sIs]
  rfl
theorem c_tok {b : Nat → Int32} {n a : Nat} {X : St} {Q : St → Prop} (hn : n ≤ 160) (ha : a ≤ n) (hT : CT b n X) (e : gI X 5 2 = nI a) (K : ∀ Y, Fr5 X Y → gI Y 5 2 = nI (nxA b n a) → gI Y 5 3 = tkA b n a → gI Y 5 4 = nI a → (tkA b n a = 2 → gI Y 5 5 = nuA b n a) → Q Y) : wX0_advance_j52 X Q := by
  intro σ2 s2
  have F2 : Fr5 X σ2 := by rw [s2]; exact Fr5_sI (by decide)
  have hT2 := CT_F F2 hT
  have h2 : gI σ2 5 2 = nI a := by rw [s2, gI_sIf _ _ _ _ (by decide)]; exact e
  have h4 : gI σ2 5 4 = nI a := by rw [s2, gI_sIs]; exact e
  unfold tkA nxA at K
  rw [hT2.1, h2, nI_clamp (by omega)]
  refine ⟨fun c => ?_, fun c σ21 s21 => ?_⟩
  · rw [nI_ltI (by omega) (by omega)] at c
    rw [hT2.2 a c]
    rw [if_neg (Nat.not_le.mpr c), if_neg (Nat.not_le.mpr c)] at K
    have va : vp_in (nI a) 160 := vp_in_nI (by omega) (by decide)
    refine ⟨va, i_isLetter (fun t => ⟨fun q => absurd q ne10, fun _ => ?_⟩) (fun t => ⟨fun _ => ⟨by rw [h2]; exact va, ?_⟩, fun q => absurd rfl q⟩)⟩
    · rw [if_pos t, if_pos t] at K
      refine c_word hn ha hT2 h2 h4 (fun Y F y2 y4 y3 => K Y (Fr5_trans F2 F) y2 y3 y4 (fun q => ?_))
      rw [q] at y3
      exfalso
      have hw : ∀ m, ¬ wtk (okW b a (sp isLt b n a)) m = 2 ∨ 12 < m := by
        intro m
        induction m with
        | zero => exact Or.inl (by unfold wtk; decide)
        | succ m ih =>
          by_cases hm : 12 < m + 1
          · exact Or.inr hm
          · refine Or.inl ?_
            unfold wtk
            split
            · intro z
              rw [show (2 : Int32) = nI 2 from rfl, nI_eq (by omega) (by decide)] at z
              omega
            · rcases ih with z | z
              · exact z
              · omega
      rcases hw 12 with z | z
      · exact z q
      · omega
    · have t9 : ¬ isLt (b a) = true := by rw [t]; decide
      rw [if_neg t9, if_neg t9] at K
      rw [h2, nI_clamp (by omega), hT2.2 a c]
      refine i_isDigit (fun d => ⟨fun q => absurd q ne10, fun _ => ?_⟩) (fun d => ⟨fun _ => ⟨by rw [h2]; exact va, ?_⟩, fun q => absurd rfl q⟩)
      · rw [if_pos d, if_pos d] at K
        exact c_dig hn ha hT2 h2 h4 (fun Y F y2 y4 y3 y5 => K Y (Fr5_trans F2 F) y2 y3 y4 (fun _ => y5))
      · have d9 : ¬ isDg (b a) = true := by rw [d]; decide
        rw [if_neg d9, if_neg d9] at K
        rw [h2, nI_clamp (by omega), hT2.2 a c]
        have j : ∀ v, v = (if isSg (b a) = true then b a else 1) → wX0_advance_j152 v σ2 Q := by
          intro v ev σ16 s16 σ17 s17
          have e16 : gI σ16 5 2 = nI a := by rw [s16, gI_sIf _ _ _ _ (by decide)]; exact h2
          rw [e16, nI_1] at s17
          refine K σ17 (Fr5_trans F2 (by rw [s17]; exact Fr5_trans (by rw [s16]; exact Fr5_sI (by decide)) (Fr5_sI (by decide)))) (by rw [s17, gI_sIs]) (by rw [s17, gI_sIf _ _ _ _ (by decide), s16, gI_sIs]; exact ev) (by rw [s17, gI_sIf _ _ _ _ (by decide), s16, gI_sIf _ _ _ _ (by decide)]; exact h4) (fun q => ?_)
          exfalso
          by_cases z : isSg (b a) = true
          · rw [if_pos z] at q
            rw [q] at z
            exact absurd z (by decide)
          · rw [if_neg z] at q
            exact absurd q (by decide)
        refine i_isSgn (fun z => ⟨fun q => absurd q ne10, fun _ => ⟨by rw [h2]; exact va, ?_⟩⟩) (fun z => ⟨fun _ => j 1 (by rw [z]; rfl), fun q => absurd rfl q⟩)
        rw [h2, nI_clamp (by omega), hT2.2 a c]
        exact j (b a) (by rw [if_pos z])
  · rw [nI_ltI (by omega) (by omega)] at c
    rw [if_pos (Nat.not_lt.mp c), if_pos (Nat.not_lt.mp c)] at K
    exact K σ21 (Fr5_trans F2 (by rw [s21]; exact Fr5_sI (by decide))) (by rw [s21, gI_sIf _ _ _ _ (by decide)]; exact h2) (by rw [s21, gI_sIs]) (by rw [s21, gI_sIf _ _ _ _ (by decide)]; exact h4) (fun q => absurd q (by decide))
/-- the class' reader stands at p -/
def CP (b : Nat → Int32) (n : Nat) (X : St) (p : Nat) : Prop := CT b n X ∧ gI X 5 2 = nI (nxP b n p) ∧ gI X 5 3 = tkP b n p ∧ gI X 5 4 = nI (lxA b n p) ∧ (tkP b n p = 2 → gI X 5 5 = nuP b n p)
theorem c_adv {b : Nat → Int32} {n q : Nat} {X : St} {Q : St → Prop} (hn : n ≤ 160) (hq : q ≤ n) (hT : CT b n X) (e : gI X 5 2 = nI q) (K : ∀ Y, Fr5 X Y → CP b n Y q → Q Y) : wX0_advance X Q := by
  have main : ∀ (m r : Nat) (T : St), n - r = m → r ≤ n → Fr5 X T → gI T 5 2 = nI r → lxA b n r = lxA b n q → wX0_advance_l0 (m + 1) T Q := by
    intro m
    induction m with
    | zero =>
      intro r T hm hr F t2 ex
      have er : r = n := by omega
      subst er
      have hT2 := CT_F F hT
      apply wX0_advance_l0_1
      unfold wX0_advance_l0s
      rw [hT2.1, t2]
      have hx : lxA b r r = r := sp_end (Nat.le_refl _)
      refine ⟨fun _ => c_tok hn hr hT2 t2 (fun Y FY y2 y3 y4 y5 => K Y (Fr5_trans F FY) ⟨CT_F FY hT2, ?_, ?_, ?_, ?_⟩), fun c => absurd (Int32.le_refl _) c⟩
      · unfold nxP; rw [← ex, hx]; exact y2
      · unfold tkP; rw [← ex, hx]; exact y3
      · rw [← ex, hx]; exact y4
      · unfold tkP nuP; rw [← ex, hx]; exact y5
    | succ m ih =>
      intro r T hm hr F t2 ex
      have hr' : r < n := by omega
      have hT2 := CT_F F hT
      apply wX0_advance_l0_1
      unfold wX0_advance_l0s
      rw [hT2.1, t2, nI_clamp (by omega), hT2.2 r hr']
      have vr : vp_in (nI r) 160 := vp_in_nI (by omega) (by decide)
      have go : isBl (b r) = true → wX0_advance_j39 T (fun σ => wX0_advance_l0 (m + 1) σ Q) Q := by
        intro z σ24 s24
        rw [t2, nI_1] at s24
        refine ih (r + 1) σ24 (by omega) (by omega) (Fr5_trans F (by rw [s24]; exact Fr5_sI (by decide))) (by rw [s24, gI_sIs]) ?_
        rw [← ex]
        exact (sp_yes hr' z).symm
      refine ⟨fun c => absurd c (nle hr' (by omega)), fun _ => ⟨vr, fun c => go (by unfold isBl; simp [c]), fun c => ⟨vr, fun d => ?_, fun d => go (by unfold isBl; simp [d])⟩⟩⟩
      have hx : lxA b n r = r := sp_no (by unfold isBl; simp [c, d])
      refine c_tok hn hr hT2 t2 (fun Y FY y2 y3 y4 y5 => K Y (Fr5_trans F FY) ⟨CT_F FY hT2, ?_, ?_, ?_, ?_⟩)
      · unfold nxP; rw [← ex, hx]; exact y2
      · unfold tkP; rw [← ex, hx]; exact y3
      · rw [← ex, hx]; exact y4
      · unfold tkP nuP; rw [← ex, hx]; exact y5
  exact ⟨n - q + 1, main (n - q) q X rfl hq (Fr5_refl X) e rfl⟩
