/-! the class reads a TEXT -/
def put (g : Nat → Int32) (s : Nat) (c : List Int32) : Nat → Int32 := fun i => if s ≤ i ∧ i < s + c.length then c.getD (i - s) 0 else g i
theorem put_nil (g : Nat → Int32) (s : Nat) : put g s [] = g := by
  funext i
  unfold put
  rw [if_neg (by simp)]
theorem put_app (g : Nat → Int32) (s : Nat) (c d : List Int32) : put (put g s c) (s + c.length) d = put g s (c ++ d) := by
  funext i
  unfold put
  rw [List.length_append]
  by_cases h1 : s + c.length ≤ i ∧ i < s + c.length + d.length
  · rw [if_pos h1, if_pos (by omega)]
    simp only [List.getD_eq_getElem?_getD]
    rw [List.getElem?_append_right (by omega)]
    congr 2
    omega
  · rw [if_neg h1]
    by_cases h2 : s ≤ i ∧ i < s + c.length
    · rw [if_pos h2, if_pos (by omega)]
      simp only [List.getD_eq_getElem?_getD]
      rw [List.getElem?_append_left (by omega)]
    · rw [if_neg h2, if_neg (by omega)]
theorem put_one (g : Nat → Int32) (s : Nat) (v : Int32) : upd g s v = put g s [v] := by
  funext i
  unfold put upd
  by_cases h : i = s
  · subst h
    simp
  · rw [if_neg h, if_neg (by simp; omega)]
def FrR (o : Nat) (X Y : St) : Prop := (∀ q, ¬ q = 5 → ¬ q = o → Y q = X q) ∧ gA Y 5 0 = gA X 5 0 ∧ gI Y 5 1 = gI X 5 1 ∧ gA Y o 1 = gA X o 1
theorem FrR_refl (o : Nat) (X : St) : FrR o X X := ⟨fun _ _ _ => rfl, rfl, rfl, rfl⟩
theorem FrR_trans {o : Nat} {X Y Z : St} (h : FrR o X Y) (g : FrR o Y Z) : FrR o X Z := ⟨fun q h1 h2 => (g.1 q h1 h2).trans (h.1 q h1 h2), g.2.1.trans h.2.1, g.2.2.1.trans h.2.2.1, g.2.2.2.trans h.2.2.2⟩
theorem Fr5_R {o : Nat} {X Y : St} (ho : ¬ o = 5) (h : Fr5 X Y) : FrR o X Y := ⟨fun q h1 _ => h.1 q h1, h.2.1, h.2.2, gA_same (h.1 o ho)⟩
theorem CP_5 {b : Nat → Int32} {n p : Nat} {X Y : St} (h : Y 5 = X 5) (hc : CP b n X p) : CP b n Y p := by
  unfold CP CT at hc ⊢
  rw [gI_same h, gA_same h, gI_same h, gI_same h, gI_same h, gI_same h]
  exact hc
theorem c_add {o s : Nat} {X : St} {v : Int32} {Q : St → Prop} (hs : s ≤ 160) (e : gI X o 2 = nI s) (K1 : s < 160 → ∀ Y : St, (∀ q, ¬ q = o → Y q = X q) → gI Y o 2 = nI (s + 1) → gA Y o 0 = upd (gA X o 0) s v → gA Y o 1 = gA X o 1 → Q Y) (K2 : ¬ s < 160 → Q X) : wX3_add o v X Q := by
  unfold wX3_add
  rw [e, nI_clamp (by omega), show (160 : Int32) = nI 160 from rfl, nI_leI (by decide) (by omega)]
  refine ⟨fun c => K2 (by omega), fun c => ⟨vp_in_nI (by omega) (by decide), fun σ3 e3 σ4 e4 => K1 (by omega) σ4 (fun q hq => ?_) ?_ ?_ ?_⟩⟩
  · rw [e4, o_sI hq, e3, o_sA hq]
  · rw [e4, gI_sIs, e3, gI_sA, e, nI_1]
  · rw [e4, gA_sI, e3, gA_sAs]
  · rw [e4, gA_sI, e3, gA_sAf _ _ _ _ _ (by omega)]
def bI (x : Bool) : Int32 := if x then 1 else 0
theorem bI_01 (x : Bool) : bI x = 0 ∨ bI x = 1 := by cases x <;> decide
theorem bI_0 {x : Bool} : bI x = 0 ↔ x = false := by cases x <;> decide
theorem bI_1 {x : Bool} : ¬ bI x = 0 ↔ x = true := by cases x <;> decide
def LI (b : Nat → Int32) (n o s : Nat) (X0 : St) (r : PR) (X : St) : Prop := FrR o X0 X ∧ CP b n X r.2.2 ∧ r.2.2 ≤ n ∧ (r.1 = true → gI X o 2 = nI (s + r.2.1.length) ∧ gA X o 0 = put (gA X0 o 0) s r.2.1 ∧ s + r.2.1.length ≤ r.2.2) ∧ ∃ s', s' ≤ 160 ∧ gI X o 2 = nI s'
def CS (b : Nat → Int32) (n d : Nat) (f : Nat → PR) (z : PT) : Prop := ∀ (o p s : Nat) (X : St) (Q : Int32 → St → Prop), ¬ o = 5 → CP b n X p → p ≤ n → gI X o 2 = nI s → s ≤ p → (∀ Y, LI b n o s X (f p) Y → Q (bI (f p).1) Y) → z o (nI (5 - d)) X Q
theorem LI_0 {b : Nat → Int32} {n o s p : Nat} {X : St} (hn : n ≤ 160) (h : CP b n X p) (hp : p ≤ n) (e : gI X o 2 = nI s) (hs : s ≤ p) : LI b n o s X (true, [], p) X := by
  refine ⟨FrR_refl o X, h, hp, fun _ => ⟨e, (put_nil _ _).symm, hs⟩, s, by omega, e⟩
theorem c_it {b : Nat → Int32} {n d o s : Nat} {f : Nat → PR} {z : PT} {X0 X : St} {r : PR} {op : Int32} {KK : Int32 → St → Prop} (hn : n ≤ 160) (ho : ¬ o = 5) (hz : CS b n d f z) (hg : Gd n f) (hr : r.1 = true) (ht : ¬ tkP b n r.2.2 = 0) (h : LI b n o s X0 r X) (K : ∀ Y, LI b n o s X0 ((f (nxP b n r.2.2)).1, r.2.1 ++ ((f (nxP b n r.2.2)).2.1 ++ [op]), (f (nxP b n r.2.2)).2.2) Y → KK (bI (f (nxP b n r.2.2)).1) Y) : wX0_advance X (fun σ9 => z o (nI (5 - d)) σ9 (fun r11 σ10 => wX3_add o op σ10 (fun σ12 => KK r11 σ12))) := by
  obtain ⟨hF, hC, hp, hc, -⟩ := h
  obtain ⟨c1, c2, c3⟩ := hc hr
  have hx := tk_lt (b := b) hp ht
  have hx2 := (nx_le (b := b) hp).2
  have hgp := hg (nxP b n r.2.2) hx2
  refine c_adv hn hx2 hC.1 hC.2.1 (fun Y FY CY => ?_)
  have e9 : gI Y o 2 = nI (s + r.2.1.length) := by rw [gI_same (FY.1 o ho)]; exact c1
  refine hz o (nxP b n r.2.2) (s + r.2.1.length) Y _ ho CY hx2 e9 (by omega) (fun Z hZ => ?_)
  obtain ⟨zF, zC, zp, zc, s', hs', ze⟩ := hZ
  refine c_add hs' ze (fun hs2 T hT t2 t0 t1 => K T ⟨?_, CP_5 (hT 5 (fun q => ho q.symm)) zC, zp, fun q => ?_, s' + 1, by omega, t2⟩) (fun hs2 => K Z ⟨?_, zC, zp, fun q => ?_, s', hs', ze⟩)
  · exact FrR_trans (FrR_trans (FrR_trans hF (Fr5_R ho FY)) zF) ⟨fun q _ h2 => hT q h2, gA_same (hT 5 (fun q => ho q.symm)), gI_same (hT 5 (fun q => ho q.symm)), t1⟩
  · obtain ⟨z1, z2, z3⟩ := zc q
    have hl := hgp.2.2 q
    have es : s' = s + r.2.1.length + (f (nxP b n r.2.2)).2.1.length := by
      rw [z1, nI_eq (by omega) (by omega)] at ze
      exact ze.symm
    have ln : (r.2.1 ++ ((f (nxP b n r.2.2)).2.1 ++ [op])).length = r.2.1.length + (f (nxP b n r.2.2)).2.1.length + 1 := by
      rw [List.length_append, List.length_append, List.length_singleton]; omega
    refine ⟨?_, ?_, ?_⟩
    · show gI T o 2 = nI (s + (r.2.1 ++ ((f (nxP b n r.2.2)).2.1 ++ [op])).length)
      rw [t2, ln]; congr 1; omega
    · show gA T o 0 = put (gA X0 o 0) s (r.2.1 ++ ((f (nxP b n r.2.2)).2.1 ++ [op]))
      rw [t0, z2, gA_same (FY.1 o ho), c2, put_one, es, put_app, put_app]
    · show s + (r.2.1 ++ ((f (nxP b n r.2.2)).2.1 ++ [op])).length ≤ (f (nxP b n r.2.2)).2.2
      rw [ln]; omega
  · exact FrR_trans (FrR_trans hF (Fr5_R ho FY)) zF
  · exfalso
    obtain ⟨z1, z2, z3⟩ := zc q
    have hl := hgp.2.2 q
    rw [z1, nI_eq (by omega) (by omega)] at ze
    omega
/-! the loops -/
def gLs (tok op : Int32) (zS : PT) (ih : Nat → Int32 → Int32 → Int32 → St → Prop) (q1 : Nat) (a2 : Int32) (a3 : Int32) (a4 : Int32) (σ : St) (Q : Int32 → St → Prop) : Prop := ((160 ≤ a4 → (a3 = 0 ∨ a3 = 1) ∧ Q a3 σ) ∧ (¬ 160 ≤ a4 → ((a3 = 0 → (a3 = 0 ∨ a3 = 1) ∧ Q a3 σ) ∧ (¬ a3 = 0 → ((¬ (gI σ 5 3) = tok → (a3 = 0 ∨ a3 = 1) ∧ Q a3 σ) ∧ ((gI σ 5 3) = tok → wX0_advance σ (fun σ9 => zS q1 a2 σ9 (fun r11 σ10 => wX3_add q1 op σ10 (fun σ12 => ∀ x13 : Int32, x13 = a4 + 1 → (ih q1 a2 r11 x13 σ12))))))))))
def gLl (tok op : Int32) (zS : PT) (n : Nat) : Nat → Int32 → Int32 → Int32 → St → (Int32 → St → Prop) → Prop := @Nat.rec (fun _ => Nat → Int32 → Int32 → Int32 → St → (Int32 → St → Prop) → Prop) (fun _ _ _ _ _ _ => False) (fun _ ih q1 a2 a3 a4 σ Q => gLs tok op zS (fun q1 a2 a3 a4 σ => ih q1 a2 a3 a4 σ Q) q1 a2 a3 a4 σ Q) n
def gL (tok op : Int32) (zS : PT) : PT := fun oa p2 σ Q => zS oa p2 σ (fun r2 σ1 => ∃ n14 : Nat, gLl tok op zS n14 oa p2 r2 0 σ1 Q)
theorem c_loop {b : Nat → Int32} {n d : Nat} {f : Nat → PR} {z : PT} {tok op : Int32} {is : Int32 → Bool} {ac : Int32 → Int32} (hi : ∀ t, is t = decide (t = tok)) (ha : ∀ t, ac t = op) (h0 : ¬ tok = 0) (hn : n ≤ 160) (hg : Gd n f) (hz : CS b n d f z) : CS b n d (pLo (tkP b n) (nxP b n) is ac 160 f) (gL tok op z) := by
  intro o p s X Q ho hC hp e hs K
  refine hz o p s X _ ho hC hp e hs (fun Y hY => ?_)
  have main : ∀ (m i : Nat) (r : PR) (T : St), i + m = 160 → LI b n o s X r T → lpP (tkP b n) (nxP b n) is ac f m r = pLo (tkP b n) (nxP b n) is ac 160 f p → gLl tok op z (m + 1) o (nI (5 - d)) (bI r.1) (nI i) T Q := by
    intro m
    induction m with
    | zero =>
      intro i r T hi9 hT er
      have ei : i = 160 := by omega
      subst ei
      have er' : r = pLo (tkP b n) (nxP b n) is ac 160 f p := er
      refine ⟨fun _ => ⟨bI_01 _, ?_⟩, fun q => absurd (Int32.le_refl _) q⟩
      rw [er'] at hT ⊢
      exact K T hT
    | succ m ih =>
      intro i r T hi9 hT er
      unfold lpP at er
      have out : ¬ (r.1 && is (tkP b n r.2.2)) = true → (bI r.1 = 0 ∨ bI r.1 = 1) ∧ Q (bI r.1) T := by
        intro q
        rw [if_neg q] at er
        rw [er] at hT ⊢
        exact ⟨bI_01 _, K T hT⟩
      refine ⟨fun q => absurd q (nle (N := 160) (k := i) (by omega) (by decide)), fun _ => ⟨fun q => out (by rw [bI_0.mp q]; simp), fun q => ?_⟩⟩
      have hr := bI_1.mp q
      rw [hT.2.1.2.2.1]
      refine ⟨fun t => out (by rw [hi, decide_eq_false t]; simp), fun t => ?_⟩
      have hit : (r.1 && is (tkP b n r.2.2)) = true := by rw [hr, hi, decide_eq_true t]; rfl
      rw [if_pos hit, ha] at er
      refine c_it hn ho hz hg hr (by rw [t]; exact h0) hT (fun V hV x13 e13 => ?_)
      rw [e13, nI_1]
      exact ih (i + 1) ((f (nxP b n r.2.2)).1, r.2.1 ++ ((f (nxP b n r.2.2)).2.1 ++ [op]), (f (nxP b n r.2.2)).2.2) V (by omega) hV er
  exact ⟨161, main 160 0 (f p) Y (by omega) hY rfl⟩
theorem c_term {b : Nat → Int32} {n d : Nat} {f : Nat → PR} {z : PT} (hn : n ≤ 160) (hg : Gd n f) (hz : CS b n d f z) : CS b n d (pLo (tkP b n) (nxP b n) isT acT 160 f) (wX0_term z) := c_loop (tok := 42) (op := -27) (fun _ => rfl) (fun _ => rfl) (by decide) hn hg hz
theorem c_both {b : Nat → Int32} {n d : Nat} {f : Nat → PR} {z : PT} (hn : n ≤ 160) (hg : Gd n f) (hz : CS b n d f z) : CS b n d (pLo (tkP b n) (nxP b n) isB acB 160 f) (wX0_both z) := c_loop (tok := 304) (op := -22) (fun _ => rfl) (fun _ => rfl) (by decide) hn hg hz
theorem c_either {b : Nat → Int32} {n d : Nat} {f : Nat → PR} {z : PT} (hn : n ≤ 160) (hg : Gd n f) (hz : CS b n d f z) : CS b n d (pLo (tkP b n) (nxP b n) isE acE 160 f) (wX0_either z) := c_loop (tok := 303) (op := -21) (fun _ => rfl) (fun _ => rfl) (by decide) hn hg hz
theorem c_sum {b : Nat → Int32} {n d : Nat} {f : Nat → PR} {z : PT} (hn : n ≤ 160) (hg : Gd n f) (hz : CS b n d f z) : CS b n d (pLo (tkP b n) (nxP b n) isU acU 160 f) (wX0_sum z) := by
  intro o p s X Q ho hC hp e hs K
  refine hz o p s X _ ho hC hp e hs (fun Y hY => ?_)
  have main : ∀ (m i : Nat) (r : PR) (T : St), i + m = 160 → LI b n o s X r T → lpP (tkP b n) (nxP b n) isU acU f m r = pLo (tkP b n) (nxP b n) isU acU 160 f p → wX0_sum_l10 z (m + 1) o (nI (5 - d)) (bI r.1) (nI i) T Q := by
    intro m
    induction m with
    | zero =>
      intro i r T hi9 hT er
      have ei : i = 160 := by omega
      subst ei
      have er' : r = pLo (tkP b n) (nxP b n) isU acU 160 f p := er
      apply wX0_sum_l10_1
      refine ⟨fun _ => ⟨bI_01 _, ?_⟩, fun q => absurd (Int32.le_refl _) q⟩
      rw [er'] at hT ⊢
      exact K T hT
    | succ m ih =>
      intro i r T hi9 hT er
      unfold lpP at er
      have out : ¬ (r.1 && isU (tkP b n r.2.2)) = true → (bI r.1 = 0 ∨ bI r.1 = 1) ∧ Q (bI r.1) T := by
        intro q
        rw [if_neg q] at er
        rw [er] at hT ⊢
        exact ⟨bI_01 _, K T hT⟩
      apply wX0_sum_l10_1
      refine ⟨fun q => absurd q (nle (N := 160) (k := i) (by omega) (by decide)), fun _ => ⟨fun q => out (by rw [bI_0.mp q]; simp), fun q => ?_⟩⟩
      have hr := bI_1.mp q
      have et := hT.2.1.2.2.1
      have go : isU (tkP b n r.2.2) = true → wX0_sum_j40 z o (nI (5 - d)) (nI i) T (fun q1 a2 a3 a4 σ => wX0_sum_l10 z (m + 1) q1 a2 a3 a4 σ Q) Q := by
        intro hu
        have hit : (r.1 && isU (tkP b n r.2.2)) = true := by rw [hr, hu]; rfl
        rw [if_pos hit] at er
        have hne : ¬ tkP b n r.2.2 = 0 := fun z0 => by rw [z0] at hu; exact absurd hu (by decide)
        unfold wX0_sum_j40
        rw [et]
        refine ⟨fun c => ?_, fun c => ?_⟩
        · have ea : acU (tkP b n r.2.2) = -26 := by unfold acU; rw [if_neg c]
          rw [ea] at er
          refine c_it hn ho hz hg hr hne hT (fun V hV x13 e13 => ?_)
          rw [e13, nI_1]
          exact ih (i + 1) ((f (nxP b n r.2.2)).1, r.2.1 ++ ((f (nxP b n r.2.2)).2.1 ++ [(-26)]), (f (nxP b n r.2.2)).2.2) V (by omega) hV er
        · have ea : acU (tkP b n r.2.2) = -25 := by unfold acU; rw [if_pos c]
          rw [ea] at er
          refine c_it hn ho hz hg hr hne hT (fun V hV x13 e13 => ?_)
          rw [e13, nI_1]
          exact ih (i + 1) ((f (nxP b n r.2.2)).1, r.2.1 ++ ((f (nxP b n r.2.2)).2.1 ++ [(-25)]), (f (nxP b n r.2.2)).2.2) V (by omega) hV er
      rw [et]
      refine ⟨fun t => go (by unfold isU; simp [t]), fun t => ⟨fun t2 => out (by unfold isU; simp [t, t2]), fun t2 => go (by unfold isU; simp [t2])⟩⟩
  exact ⟨161, main 160 0 (f p) Y (by omega) hY rfl⟩
theorem c_cmp {b : Nat → Int32} {n d : Nat} {f : Nat → PR} {z : PT} (hn : n ≤ 160) (hg : Gd n f) (hz : CS b n d f z) : CS b n d (pLo (tkP b n) (nxP b n) isC acC 1 f) (wX0_compared z) := by
  intro o p s X Q ho hC hp e hs K
  refine hz o p s X _ ho hC hp e hs (fun Y hY => ?_)
  have er : pLo (tkP b n) (nxP b n) isC acC 1 f p = if ((f p).1 && isC (tkP b n (f p).2.2)) = true then ((f (nxP b n (f p).2.2)).1, (f p).2.1 ++ ((f (nxP b n (f p).2.2)).2.1 ++ [acC (tkP b n (f p).2.2)]), (f (nxP b n (f p).2.2)).2.2) else f p := rfl
  rw [er] at K
  have out : ¬ ((f p).1 && isC (tkP b n (f p).2.2)) = true → (bI (f p).1 = 0 ∨ bI (f p).1 = 1) ∧ Q (bI (f p).1) Y := by
    intro q
    rw [if_neg q] at K
    exact ⟨bI_01 _, K Y hY⟩
  refine ⟨fun q => out (by rw [bI_0.mp q]; simp), fun q => ?_⟩
  have hr := bI_1.mp q
  have et := hY.2.1.2.2.1
  have go : isC (tkP b n (f p).2.2) = true → wX0_compared_j31 z o (nI (5 - d)) Y Q := by
    intro hu
    have hit : ((f p).1 && isC (tkP b n (f p).2.2)) = true := by rw [hr, hu]; rfl
    rw [if_pos hit] at K
    have hne : ¬ tkP b n (f p).2.2 = 0 := fun z0 => by rw [z0] at hu; exact absurd hu (by decide)
    unfold wX0_compared_j31
    rw [et]
    refine ⟨fun c => ?_, fun c => ?_⟩
    · have ea : acC (tkP b n (f p).2.2) = -24 := by unfold acC; rw [if_neg c]
      rw [ea] at K
      exact c_it (KK := fun r9 σ10 => (r9 = 0 ∨ r9 = 1) ∧ Q r9 σ10) hn ho hz hg hr hne hY (fun V hV => ⟨bI_01 _, K V hV⟩)
    · have ea : acC (tkP b n (f p).2.2) = -23 := by unfold acC; rw [if_pos c]
      rw [ea] at K
      exact c_it (KK := fun r9 σ10 => (r9 = 0 ∨ r9 = 1) ∧ Q r9 σ10) hn ho hz hg hr hne hY (fun V hV => ⟨bI_01 _, K V hV⟩)
  rw [et]
  exact ⟨fun t => go (by unfold isC; simp [t]), fun t => ⟨fun t2 => go (by unfold isC; simp [t2]), fun t2 => out (by unfold isC; simp [t, t2])⟩⟩
theorem c_neg {b : Nat → Int32} {n d : Nat} {dp : Bool} {ng co : Nat → PR} {zN zC : PT} (hn : n ≤ 160) (hd : d ≤ 5) (h1 : dp = true → ∃ d', d = d' + 1 ∧ Gd n ng ∧ CS b n d' ng zN) (h0 : dp = false → d = 0) (hc : CS b n d co zC) : CS b n d (pNe (tkP b n) (nxP b n) dp ng co) (wX0_negated zN zC) := by
  intro o p s X Q ho hC hp e hs K
  unfold pNe at K
  unfold wX0_negated
  rw [hC.2.2.1]
  refine ⟨fun t => ?_, fun t => ?_⟩
  · rw [if_pos t] at K
    cases hdp : dp with
    | true =>
      obtain ⟨d', ed, hg, hz⟩ := h1 hdp
      rw [hdp, if_pos rfl] at K
      rw [show nI (5 - d) + 1 = nI (5 - d') by rw [nI_1]; congr 1; omega]
      refine ⟨fun _ => c_it (r := (true, [], p)) (KK := fun r5 σ6 => (r5 = 0 ∨ r5 = 1) ∧ Q r5 σ6) hn ho hz hg rfl (by rw [t]; decide) (LI_0 hn hC hp e hs) (fun V hV => ⟨bI_01 _, K V hV⟩), fun q => absurd ?_ q⟩
      rw [show (5 : Int32) = nI 5 from rfl, nI_ltI (by omega) (by decide)]
      omega
    | false =>
      have ed := h0 hdp
      rw [hdp, if_neg Bool.false_ne_true] at K
      refine ⟨fun q => absurd q ?_, fun _ => K X ?_⟩
      · rw [show (5 : Int32) = nI 5 from rfl, nI_ltI (by omega) (by decide)]
        omega
      · exact ⟨FrR_refl o X, hC, hp, fun q => absurd q Bool.false_ne_true, s, by omega, e⟩
  · rw [if_neg t] at K
    exact hc o p s X _ ho hC hp e hs (fun Y hY => ⟨bI_01 _, K Y hY⟩)
theorem c_skip {b : Nat → Int32} {n p : Nat} {X : St} {t : Int32} {Q : Int32 → St → Prop} (hn : n ≤ 160) (hp : p ≤ n) (hC : CP b n X p) (h1 : tkP b n p = t → ∀ Y, Fr5 X Y → CP b n Y (nxP b n p) → Q 1 Y) (h0 : ¬ tkP b n p = t → Q 0 X) : wX0_skip t X Q := by
  unfold wX0_skip
  rw [hC.2.2.1]
  exact ⟨fun q => c_adv hn (nx_le hp).2 hC.1 hC.2.1 (fun Y FY CY => h1 q Y FY CY), h0⟩
theorem c_leaf {b : Nat → Int32} {n o p s : Nat} {X : St} {v : Int32} {Q : Int32 → St → Prop} (hn : n ≤ 160) (ho : ¬ o = 5) (hC : CP b n X p) (hp : p ≤ n) (e : gI X o 2 = nI s) (hs : s ≤ p) (ht : ¬ tkP b n p = 0) (K : ∀ Y, LI b n o s X (true, [v], nxP b n p) Y → Q 1 Y) : wX3_add o v X (fun σ => wX0_advance σ (fun σ' => Q 1 σ')) := by
  have hx := tk_lt (b := b) hp ht
  have hx1 := lx_le (b := b) hp
  have hx2 := (nx_le (b := b) hp).2
  refine c_add (by omega) e (fun _ T hT t2 t0 t1 => ?_) (fun q => absurd (by omega) q)
  have h5 : T 5 = X 5 := hT 5 (fun q => ho q.symm)
  have hC' := CP_5 h5 hC
  refine c_adv hn hx2 hC'.1 hC'.2.1 (fun Y FY CY => K Y ⟨FrR_trans ⟨fun q _ h2 => hT q h2, gA_same h5, gI_same h5, t1⟩ (Fr5_R ho FY), CY, hx2, fun _ => ⟨?_, ?_, ?_⟩, s + 1, by omega, ?_⟩)
  · rw [gI_same (FY.1 o ho), t2]; rfl
  · rw [gA_same (FY.1 o ho), t0, put_one]
  · show s + 1 ≤ nxP b n p
    omega
  · rw [gI_same (FY.1 o ho), t2]
theorem c_single {b : Nat → Int32} {n d : Nat} {dp : Bool} {sf ef : Nat → PR} {zS zE : PT} (hn : n ≤ 160) (hd : d ≤ 5) (h1 : dp = true → ∃ d', d = d' + 1 ∧ (Gd n sf ∧ CS b n d' sf zS) ∧ Gd n ef ∧ CS b n d' ef zE) (h0 : dp = false → d = 0) : CS b n d (pSi (tkP b n) (nxP b n) (nuP b n) dp sf ef) (wX0_single zS zE) := by
  intro o p s X Q ho hC hp e hs K
  have et := hC.2.2.1
  have fail : pSi (tkP b n) (nxP b n) (nuP b n) dp sf ef p = (false, [], p) → Q 0 X := by
    intro q
    have h9 := K X (by rw [q]; exact ⟨FrR_refl o X, hC, hp, fun q => absurd q Bool.false_ne_true, s, by omega, e⟩)
    rw [q] at h9
    exact h9
  unfold wX0_single
  rw [et]
  refine ⟨fun t2 => ⟨fun t3 => ?_, fun t3 => ?_⟩, fun t2 => ?_⟩
  · have j70 : (tkP b n p = 45 ∨ tkP b n p = 40) → wX0_single_j70 zS zE o (nI (5 - d)) X Q := by
      intro t4
      unfold wX0_single_j70
      cases hdp : dp with
      | false =>
        have ed := h0 hdp
        refine ⟨fun q => absurd q ?_, fun _ => fail ?_⟩
        · rw [show (5 : Int32) = nI 5 from rfl, nI_ltI (by omega) (by decide)]
          omega
        · unfold pSi
          rw [if_neg t2, if_neg (fun q => q t3), hdp]
          rcases t4 with t4 | t4
          · rw [if_pos t4, if_neg Bool.false_ne_true]
          · rw [if_neg (by rw [t4]; decide), if_pos t4, if_neg Bool.false_ne_true]
      | true =>
        obtain ⟨d', ed, ⟨hgs, hzs⟩, hge, hze⟩ := h1 hdp
        rw [show nI (5 - d) + 1 = nI (5 - d') by rw [nI_1]; congr 1; omega]
        refine ⟨fun _ => c_skip hn hp hC (fun t5 Y FY CY => ⟨fun q => absurd q ne10, fun _ => ?_⟩) (fun t5 => ⟨fun _ => ?_, fun q => absurd rfl q⟩), fun q => absurd ?_ q⟩
        · have hx := tk_lt (b := b) hp (by rw [t5]; decide)
          have hx2 := (nx_le (b := b) hp).2
          have eK : pSi (tkP b n) (nxP b n) (nuP b n) dp sf ef p = if ((ef (nxP b n p)).1 && decide (tkP b n (ef (nxP b n p)).2.2 = 41)) = true then (true, (ef (nxP b n p)).2.1, nxP b n (ef (nxP b n p)).2.2) else (false, (ef (nxP b n p)).2.1, (ef (nxP b n p)).2.2) := by
            unfold pSi
            rw [if_neg t2, if_neg (fun q => q t3), if_neg (by rw [t5]; decide), if_pos t5, hdp, if_pos rfl]
          rw [eK] at K
          have eo : gI Y o 2 = nI s := by rw [gI_same (FY.1 o ho)]; exact e
          refine hze o (nxP b n p) s Y _ ho CY hx2 eo (by omega) (fun Z hZ => ?_)
          obtain ⟨zF, zC, zp, zc, s', hs', ze⟩ := hZ
          have hgp := hge (nxP b n p) hx2
          refine ⟨fun q => ?_, fun q => c_skip hn zp zC (fun t6 V FV CV => ⟨fun q => absurd q ne10, fun _ => ?_⟩) (fun t6 => ⟨fun _ => ?_, fun q => absurd rfl q⟩)⟩
          · rw [if_neg (by rw [bI_0.mp q]; simp)] at K
            exact K Z ⟨FrR_trans (Fr5_R ho FY) zF, zC, zp, fun q => absurd q Bool.false_ne_true, s', hs', ze⟩
          · have hr := bI_1.mp q
            rw [if_pos (by rw [hr, decide_eq_true t6]; rfl)] at K
            obtain ⟨z1, z2, z3⟩ := zc hr
            have hl := nx_le (b := b) zp
            refine K V ⟨FrR_trans (FrR_trans (Fr5_R ho FY) zF) (Fr5_R ho FV), CV, hl.2, fun _ => ⟨?_, ?_, ?_⟩, s', hs', ?_⟩
            · rw [gI_same (FV.1 o ho)]; exact z1
            · rw [gA_same (FV.1 o ho), z2, gA_same (FY.1 o ho)]
            · show s + (ef (nxP b n p)).2.1.length ≤ nxP b n (ef (nxP b n p)).2.2
              omega
            · rw [gI_same (FV.1 o ho)]; exact ze
          · rw [if_neg (by rw [decide_eq_false t6]; simp)] at K
            exact K Z ⟨FrR_trans (Fr5_R ho FY) zF, zC, zp, fun q => absurd q Bool.false_ne_true, s', hs', ze⟩
        · have t6 : tkP b n p = 45 := by
            rcases t4 with t4 | t4
            · exact t4
            · exact absurd t4 t5
          have eK : pSi (tkP b n) (nxP b n) (nuP b n) dp sf ef p = ((sf (nxP b n p)).1, (sf (nxP b n p)).2.1 ++ [-11], (sf (nxP b n p)).2.2) := by
            unfold pSi
            rw [if_neg t2, if_neg (fun q => q t3), if_pos t6, hdp, if_pos rfl]
          rw [eK] at K
          exact c_it (r := (true, [], p)) (KK := fun r5 σ6 => (r5 = 0 ∨ r5 = 1) ∧ Q r5 σ6) hn ho hzs hgs rfl (by rw [t6]; decide) (LI_0 hn hC hp e hs) (fun V hV => ⟨bI_01 _, K V hV⟩)
        · rw [show (5 : Int32) = nI 5 from rfl, nI_ltI (by omega) (by decide)]
          omega
    refine ⟨fun t4 => j70 (Or.inl t4), fun t4 => ⟨fun t5 => fail ?_, fun t5 => j70 (Or.inr t5)⟩⟩
    unfold pSi
    rw [if_neg t2, if_neg (fun q => q t3), if_neg t4, if_neg t5]
  · have eK : pSi (tkP b n) (nxP b n) (nuP b n) dp sf ef p = (true, [-1 - (tkP b n p - 306)], nxP b n p) := by
      unfold pSi
      rw [if_neg t2, if_pos t3]
    rw [eK] at K
    exact c_leaf hn ho hC hp e hs (fun q => t3 (by rw [q]; decide)) K
  · have eK : pSi (tkP b n) (nxP b n) (nuP b n) dp sf ef p = (true, [nuP b n p], nxP b n p) := by
      unfold pSi
      rw [if_pos t2]
    rw [eK] at K
    rw [hC.2.2.2.2 t2]
    exact c_leaf hn ho hC hp e hs (by rw [t2]; decide) K
theorem c_level {b : Nat → Int32} {n d : Nat} {dp : Bool} {q : (Nat → PR) × (Nat → PR) × (Nat → PR)} {z : PT × PT × PT} (hn : n ≤ 160) (hd : d ≤ 5) (h1 : dp = true → ∃ d', d = d' + 1 ∧ (Gd n q.1 ∧ Gd n q.2.1 ∧ Gd n q.2.2) ∧ CS b n d' q.1 z.1 ∧ CS b n d' q.2.1 z.2.1 ∧ CS b n d' q.2.2 z.2.2) (h0 : dp = false → d = 0) :
    CS b n d (lev (tkP b n) (nxP b n) (nuP b n) dp q).1 (wX0_either (wX0_both (wX0_negated z.2.1 (wX0_compared (wX0_sum (wX0_term (wX0_single z.2.2 z.1))))))) ∧ CS b n d (lev (tkP b n) (nxP b n) (nuP b n) dp q).2.1 (wX0_negated z.2.1 (wX0_compared (wX0_sum (wX0_term (wX0_single z.2.2 z.1))))) ∧ CS b n d (lev (tkP b n) (nxP b n) (nuP b n) dp q).2.2 (wX0_single z.2.2 z.1) := by
  have hL := Lx_of b n
  have g1 : Gd n (pSi (tkP b n) (nxP b n) (nuP b n) dp q.2.2 q.1) := Gd_si hL (fun e => by obtain ⟨d', _, hg, _⟩ := h1 e; exact hg.2.2) (fun e => by obtain ⟨d', _, hg, _⟩ := h1 e; exact hg.1)
  have s1 : CS b n d (pSi (tkP b n) (nxP b n) (nuP b n) dp q.2.2 q.1) (wX0_single z.2.2 z.1) := c_single hn hd (fun e => by obtain ⟨d', ed, hg, hz⟩ := h1 e; exact ⟨d', ed, ⟨hg.2.2, hz.2.2⟩, hg.1, hz.1⟩) h0
  have g2 := Gd_lo (m := 160) (is := isT) (ac := acT) hL (by decide) g1
  have g3 := Gd_lo (m := 160) (is := isU) (ac := acU) hL (by decide) g2
  have g4 := Gd_lo (m := 1) (is := isC) (ac := acC) hL (by decide) g3
  have g5 : Gd n (levN (tkP b n) (nxP b n) dp q.2.1 (pSi (tkP b n) (nxP b n) (nuP b n) dp q.2.2 q.1)) := Gd_ne hL (fun e => by obtain ⟨d', _, hg, _⟩ := h1 e; exact hg.2.1) g4
  have s5 : CS b n d (levN (tkP b n) (nxP b n) dp q.2.1 (pSi (tkP b n) (nxP b n) (nuP b n) dp q.2.2 q.1)) (wX0_negated z.2.1 (wX0_compared (wX0_sum (wX0_term (wX0_single z.2.2 z.1))))) := c_neg hn hd (fun e => by obtain ⟨d', ed, hg, hz⟩ := h1 e; exact ⟨d', ed, hg.2.1, hz.2.1⟩) h0 (c_cmp hn g3 (c_sum hn g2 (c_term hn g1 s1)))
  have g6 := Gd_lo (m := 160) (is := isB) (ac := acB) hL (by decide) g5
  exact ⟨c_either hn g6 (c_both hn g5 s5), s5, s1⟩
theorem c_pX {b : Nat → Int32} {n : Nat} (hn : n ≤ 160) : ∀ d, d ≤ 5 → CS b n d (pP (tkP b n) (nxP b n) (nuP b n) d).1 (pX (d + 3)).1 ∧ CS b n d (pP (tkP b n) (nxP b n) (nuP b n) d).2.1 (pX (d + 3)).2.1 ∧ CS b n d (pP (tkP b n) (nxP b n) (nuP b n) d).2.2 (pX (d + 3)).2.2 := by
  intro d
  induction d with
  | zero => intro _; exact c_level (dp := false) (q := (noP, noP, noP)) (z := pX 2) hn (by decide) (fun q => absurd q Bool.false_ne_true) (fun _ => rfl)
  | succ d ih =>
    intro hd
    exact c_level (dp := true) (q := pP (tkP b n) (nxP b n) (nuP b n) d) (z := pX (d + 3)) hn hd (fun _ => ⟨d, rfl, Gd_P (Lx_of b n) d, ih (by omega)⟩) (fun q => absurd q.symm Bool.false_ne_true)
theorem c_wEith {b : Nat → Int32} {n : Nat} (hn : n ≤ 160) : CS b n 5 (pP (tkP b n) (nxP b n) (nuP b n) 5).1 wEith := (c_pX hn 5 (Nat.le_refl _)).1
