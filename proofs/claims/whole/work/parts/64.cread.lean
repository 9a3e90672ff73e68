/-! the class reads three parts, and reckons -/
def pRd (tk : Nat → Int32) (nx : Nat → Nat) (E : Nat → PR) (p0 : Nat) : Bool × (List Int32 × List Int32 × List Int32) × Nat :=
  if (pPt tk nx E 0 p0).1 = true then (if (pPt tk nx E 1 (pPt tk nx E 0 p0).2.2).1 = true then (if (pPt tk nx E 2 (pPt tk nx E 1 (pPt tk nx E 0 p0).2.2).2.2).1 = true then
    (decide (tk (pPt tk nx E 2 (pPt tk nx E 1 (pPt tk nx E 0 p0).2.2).2.2).2.2 = 0), ((pPt tk nx E 0 p0).2.1, (pPt tk nx E 1 (pPt tk nx E 0 p0).2.2).2.1, (pPt tk nx E 2 (pPt tk nx E 1 (pPt tk nx E 0 p0).2.2).2.2).2.1), (pPt tk nx E 2 (pPt tk nx E 1 (pPt tk nx E 0 p0).2.2).2.2).2.2)
    else (false, ([], [], []), (pPt tk nx E 2 (pPt tk nx E 1 (pPt tk nx E 0 p0).2.2).2.2).2.2)) else (false, ([], [], []), (pPt tk nx E 1 (pPt tk nx E 0 p0).2.2).2.2)) else (false, ([], [], []), (pPt tk nx E 0 p0).2.2)
def rdP (b : Nat → Int32) (n : Nat) : Bool × (List Int32 × List Int32 × List Int32) × Nat := pRd (tkP b n) (nxP b n) (pP (tkP b n) (nxP b n) (nuP b n) 5).1 0
/-- a TEXT of the class: its steps -/
def TXT (ob : OT) (c : List Int32 × List Int32 × List Int32) : Prop := c.1.length + c.2.1.length + c.2.2.length ≤ 160 ∧ (ob.2.2.1 1 0 = nI c.1.length ∧ ob.2.2.1 1 1 = nI (c.1.length + c.2.1.length) ∧ ob.2.2.1 1 2 = nI (c.1.length + c.2.1.length + c.2.2.length)) ∧ (∀ j, j < c.1.length → ob.2.2.1 0 j = c.1.getD j 0) ∧ (∀ j, j < c.2.1.length → ob.2.2.1 0 (c.1.length + j) = c.2.1.getD j 0) ∧ ∀ j, j < c.2.2.length → ob.2.2.1 0 (c.1.length + c.2.1.length + j) = c.2.2.getD j 0
theorem put_in {g : Nat → Int32} {s j : Nat} {c : List Int32} (h : j < c.length) : put g s c (s + j) = c.getD j 0 := by
  unfold put
  rw [if_pos (by omega), Nat.add_sub_cancel_left]
theorem put_out {g : Nat → Int32} {s i : Nat} {c : List Int32} (h : i < s) : put g s c i = g i := by
  unfold put
  rw [if_neg (by omega)]
theorem txt_of {A B C Y : St} {o : Nat} {c0 c1 c2 : List Int32} (h : c0.length + c1.length + c2.length ≤ 160) (as : gI A o 2 = nI c0.length) (bs : gI B o 2 = nI (c0.length + c1.length)) (cs : gI C o 2 = nI (c0.length + c1.length + c2.length)) (ac : gA A o 0 = put (gA Y o 0) 0 c0) (bc : gA B o 0 = put (gA A o 0) c0.length c1) (cc : gA C o 0 = put (gA B o 0) (c0.length + c1.length) c2) (aE : gA A o 1 = upd (gA Y o 1) 0 (gI A o 2)) (bE : gA B o 1 = upd (gA A o 1) 1 (gI B o 2)) (cE : gA C o 1 = upd (gA B o 1) 2 (gI C o 2)) : TXT (C o) (c0, c1, c2) := by
  refine ⟨h, ⟨?_, ?_, ?_⟩, ?_, ?_, ?_⟩
  · show gA C o 1 0 = nI c0.length
    rw [cE, bE, aE]
    unfold upd
    rw [if_neg (by decide), if_neg (by decide), if_pos rfl]
    exact as
  · show gA C o 1 1 = nI (c0.length + c1.length)
    rw [cE, bE]
    unfold upd
    rw [if_neg (by decide), if_pos rfl]
    exact bs
  · show gA C o 1 2 = nI (c0.length + c1.length + c2.length)
    rw [cE]
    unfold upd
    rw [if_pos rfl]
    exact cs
  · intro j hj
    have hj' : j < c0.length := hj
    show gA C o 0 j = c0.getD j 0
    have h9 := put_in (g := gA Y o 0) (s := 0) hj'
    rw [Nat.zero_add] at h9
    rw [cc, put_out (by omega), bc, put_out (by omega), ac, h9]
  · intro j hj
    have hj' : j < c1.length := hj
    show gA C o 0 (c0.length + j) = c1.getD j 0
    rw [cc, put_out (by omega), bc, put_in hj']
  · intro j hj
    have hj' : j < c2.length := hj
    show gA C o 0 (c0.length + c1.length + j) = c2.getD j 0
    rw [cc, put_in hj']
theorem c_read {b : Nat → Int32} {n o : Nat} {X : St} {Q : Int32 → St → Prop} (hn : n ≤ 160) (ho : ¬ o = 5) (hT : CT b n X) (K1 : (rdP b n).1 = true → ∀ Y, (∀ q, ¬ q = 5 → ¬ q = o → Y q = X q) → gA Y 5 0 = gA X 5 0 → gI Y 5 1 = gI X 5 1 → TXT (Y o) (rdP b n).2.1 → Q (-1) Y) (K0 : (rdP b n).1 = false → ∀ Y, (∀ q, ¬ q = 5 → ¬ q = o → Y q = X q) → gA Y 5 0 = gA X 5 0 → gI Y 5 1 = gI X 5 1 → Q (nI (lxA b n (rdP b n).2.2)) Y) : wX0_readInto o X Q := by
  have hL := Lx_of b n
  have hg := (Gd_P (nu := nuP b n) hL 5).1
  intro σ1 e1 σ2 e2
  have h2 : ∀ q, ¬ q = 5 → ¬ q = o → σ2 q = X q := fun q a1 a2 => by rw [e2, o_sI a1, e1, o_sI a2]
  have t2 : gA σ2 5 0 = gA X 5 0 := by rw [e2, gA_sI, e1, gA_sI]
  have n2 : gI σ2 5 1 = gI X 5 1 := by rw [e2, gI_sIf _ _ _ _ (by decide), e1, gI_sIf _ _ _ _ (by omega)]
  have z2 : gI σ2 o 2 = nI 0 := by rw [e2, gI_sIf _ _ _ _ (by omega), e1, gI_sIs]; rfl
  have hT2 : CT b n σ2 := ⟨by rw [n2]; exact hT.1, fun i hi => by rw [t2]; exact hT.2 i hi⟩
  refine c_adv hn (Nat.zero_le n) hT2 (by rw [e2, gI_sIs]; rfl) (fun Y FY CY => ⟨4, ?_⟩)
  have y2 : gI Y o 2 = nI 0 := by rw [gI_same (FY.1 o ho)]; exact z2
  unfold rdP pRd at K1 K0
  obtain ⟨E, hE⟩ : ∃ E, (pP (tkP b n) (nxP b n) (nuP b n) 5).1 = E := ⟨_, rfl⟩
  rw [hE] at K1 K0 hg
  apply wX0_readInto_l15_1
  refine c_part (k := 0) (by decide) hn ho CY (Nat.zero_le n) y2 (Nat.le_refl _) (fun r0 A hA aE => ?_) (fun r0 A a1 a2 a3 => ?_)
  · rw [hE] at r0 hA
    rw [if_pos r0] at K1 K0
    obtain ⟨a1, a2, a3, aC, ap, as, ac, al⟩ := hA
    have g0 := Gd_pt (k := 0) (by decide) hL hg 0 (Nat.zero_le n)
    apply wX0_readInto_l15_1
    refine c_part (k := 1) (by decide) hn ho aC ap as al (fun r1 B hB bE => ?_) (fun r1 B b1 b2 b3 => ?_)
    · rw [hE] at r1 hB
      rw [if_pos r1] at K1 K0
      obtain ⟨b1, b2, b3, bC, bp, bs, bc, bl⟩ := hB
      apply wX0_readInto_l15_1
      refine c_part (k := 2) (by decide) hn ho bC bp bs bl (fun r2 C hC cE => ?_) (fun r2 C c1 c2 c3 => ?_)
      · rw [hE] at r2 hC
        rw [if_pos r2] at K1 K0
        obtain ⟨c1, c2, c3, cC, cp, cs, cc, cl⟩ := hC
        apply wX0_readInto_l15_1
        have f1 : ∀ q, ¬ q = 5 → ¬ q = o → C q = X q := fun q h5 h6 => (c1 q h5 h6).trans ((b1 q h5 h6).trans ((a1 q h5 h6).trans ((FY.1 q h5).trans (h2 q h5 h6))))
        have f2 : gA C 5 0 = gA X 5 0 := c2.trans (b2.trans (a2.trans (FY.2.1.trans t2)))
        have f3 : gI C 5 1 = gI X 5 1 := c3.trans (b3.trans (a3.trans (FY.2.2.trans n2)))
        refine ⟨fun _ => ?_, fun q => absurd (by decide) q⟩
        rw [cC.2.2.1, cC.2.2.2.1]
        refine ⟨fun q => K0 (decide_eq_false q) C f1 f2 f3, fun q => K1 (decide_eq_true q) C f1 f2 f3 ?_⟩
        rw [Nat.zero_add] at as al bs bc bl cs cc cl
        exact txt_of (by omega) as bs cs ac bc cc aE bE cE
      · rw [hE] at r2 ⊢
        rw [if_neg (by rw [r2]; exact Bool.false_ne_true)] at K0
        exact K0 rfl C (fun q h5 h6 => (c1 q h5 h6).trans ((b1 q h5 h6).trans ((a1 q h5 h6).trans ((FY.1 q h5).trans (h2 q h5 h6))))) (c2.trans (b2.trans (a2.trans (FY.2.1.trans t2)))) (c3.trans (b3.trans (a3.trans (FY.2.2.trans n2))))
    · rw [hE] at r1 ⊢
      rw [if_neg (by rw [r1]; exact Bool.false_ne_true)] at K0
      exact K0 rfl B (fun q h5 h6 => (b1 q h5 h6).trans ((a1 q h5 h6).trans ((FY.1 q h5).trans (h2 q h5 h6)))) (b2.trans (a2.trans (FY.2.1.trans t2))) (b3.trans (a3.trans (FY.2.2.trans n2)))
  · rw [hE] at r0 ⊢
    rw [if_neg (by rw [r0]; exact Bool.false_ne_true)] at K0
    exact K0 rfl A (fun q h5 h6 => (a1 q h5 h6).trans ((FY.1 q h5).trans (h2 q h5 h6))) (a2.trans (FY.2.1.trans t2)) (a3.trans (FY.2.2.trans n2))
theorem rd_wf {b : Nat → Int32} {n : Nat} (h : (rdP b n).1 = true) : WF (rdP b n).2.1.1 ∧ WF (rdP b n).2.1.2.1 ∧ WF (rdP b n).2.1.2.2 := by
  have hw := (WF_P (nx := nxP b n) (TkOk_of b n) 5).1
  unfold rdP pRd at h ⊢
  obtain ⟨E, hE⟩ : ∃ E, (pP (tkP b n) (nxP b n) (nuP b n) 5).1 = E := ⟨_, rfl⟩
  rw [hE] at h hw ⊢
  by_cases r0 : (pPt (tkP b n) (nxP b n) E 0 0).1 = true
  · rw [if_pos r0] at h ⊢
    by_cases r1 : (pPt (tkP b n) (nxP b n) E 1 (pPt (tkP b n) (nxP b n) E 0 0).2.2).1 = true
    · rw [if_pos r1] at h ⊢
      by_cases r2 : (pPt (tkP b n) (nxP b n) E 2 (pPt (tkP b n) (nxP b n) E 1 (pPt (tkP b n) (nxP b n) E 0 0).2.2).2.2).1 = true
      · rw [if_pos r2] at h ⊢
        exact ⟨WF_pt hw _ r0, WF_pt hw _ r1, WF_pt hw _ r2⟩
      · rw [if_neg r2] at h; exact absurd h Bool.false_ne_true
    · rw [if_neg r1] at h; exact absurd h Bool.false_ne_true
  · rw [if_neg r0] at h; exact absurd h Bool.false_ne_true
/-! reckoning -/
def fF (c : List Int32 × List Int32 × List Int32) (wh : Nat) (l k m d fi bo : Int32) : Int32 := valF (nmF l k m d fi bo) (if wh = 0 then c.1 else if wh = 1 then c.2.1 else c.2.2)
theorem i_ofOne {x a : Int32} {σ : St} {Q : Int32 → St → Prop} (h : Q (op1 x a) σ) : wX1_ofOne x a σ Q := by
  unfold op1 at h
  refine ⟨fun c => ⟨fun d => ?_, fun d => ?_⟩, fun c => ?_⟩
  · rw [if_neg c, if_neg d] at h; exact h
  · rw [if_neg c, if_pos d] at h; exact h
  · rw [if_pos c] at h; exact h
theorem i_ofTwo {x a b : Int32} {σ : St} {Q : Int32 → St → Prop} (h : Q (op2 x a b) σ) : wX1_ofTwo x a b σ Q := by
  unfold op2 at h
  refine ⟨fun c => ?_, fun c => ?_, fun c => ?_, fun c => ⟨fun d => ?_, fun d => ?_⟩, fun c => ⟨fun d => ?_, fun d => ?_⟩, fun c => ⟨fun d => ?_, fun d => ⟨fun e => ?_, fun e => ?_⟩⟩, fun c => ⟨fun d => ?_, fun d => ⟨fun e => ?_, fun e => ?_⟩⟩, fun c1 c2 c3 c4 c5 c6 c7 => ?_⟩
  · rw [if_pos c] at h; exact h
  · rw [if_neg (by rw [c]; decide), if_pos c] at h; exact h
  · rw [if_neg (by rw [c]; decide), if_neg (by rw [c]; decide), if_pos c] at h; exact h
  · rw [if_neg (by rw [c]; decide), if_neg (by rw [c]; decide), if_neg (by rw [c]; decide), if_pos c, if_neg d] at h; exact h
  · rw [if_neg (by rw [c]; decide), if_neg (by rw [c]; decide), if_neg (by rw [c]; decide), if_pos c, if_pos d] at h; exact h
  · rw [if_neg (by rw [c]; decide), if_neg (by rw [c]; decide), if_neg (by rw [c]; decide), if_neg (by rw [c]; decide), if_pos c, if_pos d] at h; exact h
  · rw [if_neg (by rw [c]; decide), if_neg (by rw [c]; decide), if_neg (by rw [c]; decide), if_neg (by rw [c]; decide), if_pos c, if_neg d] at h; exact h
  · rw [if_neg (by rw [c]; decide), if_neg (by rw [c]; decide), if_neg (by rw [c]; decide), if_neg (by rw [c]; decide), if_neg (by rw [c]; decide), if_pos c, if_pos d] at h; exact h
  · rw [if_neg (by rw [c]; decide), if_neg (by rw [c]; decide), if_neg (by rw [c]; decide), if_neg (by rw [c]; decide), if_neg (by rw [c]; decide), if_pos c, if_neg d, if_pos e] at h; exact h
  · rw [if_neg (by rw [c]; decide), if_neg (by rw [c]; decide), if_neg (by rw [c]; decide), if_neg (by rw [c]; decide), if_neg (by rw [c]; decide), if_pos c, if_neg d, if_neg e] at h; exact h
  · rw [if_neg (by rw [c]; decide), if_neg (by rw [c]; decide), if_neg (by rw [c]; decide), if_neg (by rw [c]; decide), if_neg (by rw [c]; decide), if_neg (by rw [c]; decide), if_pos c, if_neg d] at h; exact h
  · rw [if_neg (by rw [c]; decide), if_neg (by rw [c]; decide), if_neg (by rw [c]; decide), if_neg (by rw [c]; decide), if_neg (by rw [c]; decide), if_neg (by rw [c]; decide), if_pos c, if_pos d, if_pos e] at h; exact h
  · rw [if_neg (by rw [c]; decide), if_neg (by rw [c]; decide), if_neg (by rw [c]; decide), if_neg (by rw [c]; decide), if_neg (by rw [c]; decide), if_neg (by rw [c]; decide), if_pos c, if_pos d, if_neg e] at h; exact h
  · rw [if_neg c1, if_neg c2, if_neg c3, if_neg c4, if_neg c5, if_neg c6, if_neg c7] at h; exact h
theorem i_named {x : Int32} {o p : Nat} {σ : St} {Q : Int32 → St → Prop} (hp : p < 5) (h : Q (nmF (gA σ o 9 p) (gA σ o 8 p) (gA σ o 7 p) (gI σ o 2) (nI (pc (gJ σ o 1))) (boxF (gA σ o 4)) x) σ) : wX1_named x o (nI p) σ Q := by
  unfold nmF at h
  unfold wX1_named
  rw [nI_clamp (n := p) (by omega)]
  have vp : vp_in (nI p) 5 := vp_in_nI hp (by decide)
  refine ⟨fun c => c_box ?_, fun c => i_bitCount ?_, fun c => ?_, fun c => ⟨vp, ?_⟩, fun c => ⟨vp, ?_⟩, fun c => ⟨vp, ?_⟩, fun c1 c2 c3 c4 c5 c6 => ?_⟩
  · rw [if_pos c] at h; exact h
  · rw [if_neg (by rw [c]; decide), if_pos c] at h; exact h
  · rw [if_neg (by rw [c]; decide), if_neg (by rw [c]; decide), if_pos c] at h; exact h
  · rw [if_neg (by rw [c]; decide), if_neg (by rw [c]; decide), if_neg (by rw [c]; decide), if_pos c] at h; exact h
  · rw [if_neg (by rw [c]; decide), if_neg (by rw [c]; decide), if_neg (by rw [c]; decide), if_neg (by rw [c]; decide), if_pos c] at h; exact h
  · rw [if_neg (by rw [c]; decide), if_neg (by rw [c]; decide), if_neg (by rw [c]; decide), if_neg (by rw [c]; decide), if_neg (by rw [c]; decide), if_pos c] at h; exact h
  · rw [if_neg c1, if_neg c2, if_neg c3, if_neg c4, if_neg c5, if_neg c6] at h; exact h
def rnF (N : Int32 → Int32) (g : Nat → Int32) : Nat → Nat → (Nat → Int32) × Nat → (Nat → Int32) × Nat
  | 0, _, w => w
  | m + 1, i, w => rnF N g m (i + 1) (stp N w (g i))
theorem rn_fold {N : Int32 → Int32} {g : Nat → Int32} : ∀ (c : List Int32) (s : Nat) (w : (Nat → Int32) × Nat), (∀ j, j < c.length → g (s + j) = c.getD j 0) → rnF N g c.length s w = c.foldl (stp N) w := by
  intro c
  induction c with
  | nil => intro s w _; rfl
  | cons x c ih =>
    intro s w h
    have h0 := h 0 (by simp)
    rw [Nat.add_zero] at h0
    have h0' : g s = x := h0
    show rnF N g c.length (s + 1) (stp N w (g s)) = c.foldl (stp N) (stp N w x)
    rw [h0']
    refine ih (s + 1) _ (fun j hj => ?_)
    have h1 := h (j + 1) (by simp; omega)
    rw [show s + 1 + j = s + (j + 1) by omega, h1]
    rfl
theorem c_reck {X : St} {o p wh q4 e i : Nat} {w : (Nat → Int32) × Nat} {N : Int32 → Int32} {Q : Int32 → St → Prop} (ho : ¬ o = 4) (hq : ¬ q4 = 4) (hp : p < 5) (hwh : wh < 3) (hN : N = nmF (gA X o 9 p) (gA X o 8 p) (gA X o 7 p) (gI X o 2) (nI (pc (gJ X o 1))) (boxF (gA X o 4))) (hie : i ≤ e) (he : e ≤ 160) (hw : w = rnF N (gA X q4 0) (e - i) i (gA X 4 2, 0)) (h : ∀ Y, FrV X Y → Q (clp (if w.2 = 0 then 0 else w.1 0) (if wh = 0 then 0 else -99) 99) Y) : wX1_reckon_j56 (nI wh) o (nI p) q4 0 (nI e) (nI i) X Q := by
  have main : ∀ (m i z : Nat) (T : St), i + m = e → FrV X T → z ≤ 160 → rnF N (gA X q4 0) m i (gA T 4 2, z) = w → wX1_reckon_l58 (m + 1) (nI wh) o (nI p) q4 (nI z) (nI e) (nI i) T Q := by
    intro m
    induction m with
    | zero =>
      intro i z T hi F hz ew
      have ei : i = e := by omega
      subst ei
      have ew' : (gA T 4 2, z) = w := ew
      apply wX1_reckon_l58_1
      have h9 := h T F
      rw [← ew'] at h9
      have fin : ∀ v, v = (if z = 0 then 0 else gA T 4 2 0) → wX1_reckon_j220 (nI wh) v T Q := by
        intro v ev
        rw [← ev] at h9
        unfold wX1_reckon_j220 wX1_reckon_j232
        rw [mn_clp v (-99) (by decide), mn_clp v 0 (by decide)]
        refine ⟨fun q => ?_, fun q => ?_⟩
        · have : ¬ wh = 0 := fun e => q (by rw [e]; rfl)
          rw [if_neg this] at h9; exact h9
        · have : wh = 0 := by
            rw [show (0 : Int32) = nI 0 from rfl, nI_eq (by omega) (by decide)] at q
            exact q
          rw [if_pos this] at h9; exact h9
      refine ⟨fun _ => ⟨fun q => fin 0 ?_, fun q => fin _ ?_⟩, fun q => absurd (Int32.le_refl _) q⟩
      · rw [show (0 : Int32) = nI 0 from rfl, nI_leI (by omega) (by decide)] at q
        rw [if_pos (by omega)]
      · rw [show (0 : Int32) = nI 0 from rfl, nI_leI (by omega) (by decide)] at q
        rw [if_neg (by omega)]; rfl
    | succ m ih =>
      intro i z T hi F hz ew
      apply wX1_reckon_l58_1
      unfold wX1_reckon_l58s
      have ec : gA T q4 0 = gA X q4 0 := gA_same (F.1 q4 hq)
      rw [nI_clamp (n := i) (by omega), ec]
      have ew' : rnF N (gA X q4 0) m (i + 1) (stp N (gA T 4 2, z) (gA X q4 0 i)) = w := ew
      unfold stp at ew'
      refine ⟨fun q => absurd q (nle (by omega) (by omega)), fun _ => ⟨vp_in_nI (by omega) (by decide), fun x ex => ?_⟩⟩
      rw [← ex] at ew'
      have l1 : nI z ≤ 1 ↔ z ≤ 1 := by rw [show (1 : Int32) = nI 1 from rfl, nI_leI (by omega) (by decide)]
      have l0 : nI z ≤ 0 ↔ z = 0 := by rw [show (0 : Int32) = nI 0 from rfl, nI_leI (by omega) (by decide)]; omega
      have l160 : (160 : Int32) ≤ nI z ↔ 160 ≤ z := by rw [show (160 : Int32) = nI 160 from rfl, nI_leI (by decide) (by omega)]
      have st : ∀ (z' : Nat) (U : St), FrV X U → z' ≤ 160 → rnF N (gA X q4 0) m (i + 1) (gA U 4 2, z') = w → wX1_reckon_j199 (nI wh) o (nI p) q4 (nI z') (nI e) (nI i) U (fun a1 q2 a3 q4 a5 a6 a7 σ => wX1_reckon_l58 (m + 1) a1 q2 a3 q4 a5 a6 a7 σ Q) Q := by
        intro z' U FU hz' eU x18 e18
        rw [e18, nI_1]
        exact ih (i + 1) z' U (by omega) FU hz' eU
      have frv : ∀ (j : Nat) (v : Int32), FrV X (sA T 4 2 j v) := fun j v => FrV_trans F ⟨fun q hq => o_sA hq, gI_sA _ _ _ _ _ _ _⟩
      refine ⟨fun c => ⟨fun d => ⟨fun f => ?_, fun f x19 e19 => ?_⟩, fun d => ⟨fun f => ?_, fun f => ?_⟩⟩, fun c => ⟨fun d => ?_, fun d => ?_⟩⟩
      · rw [if_pos c, if_pos d, if_pos (l1.mp f)] at ew'
        exact st z T F hz ew'
      · rw [l1] at f
        rw [if_pos c, if_pos d, if_neg f] at ew'
        have e19' : x19 = nI (z - 1) := by
          rw [e19]
          have : (-1 : Int32) = - 1 := rfl
          rw [show nI z + (-1) = nI z - 1 from (Int32.sub_eq_add_neg _ _).symm]
          exact nI_sub (a := 1) (by omega)
        have e18 : x19 - 1 = nI (z - 2) := by
          rw [e19', show z - 2 = z - 1 - 1 by omega]
          exact nI_sub (a := 1) (by omega)
        rw [e18, e19', nI_clamp (n := z - 2) (by omega), nI_clamp (n := z - 1) (by omega)]
        have v2 : vp_in (nI (z - 2)) 160 := vp_in_nI (by omega) (by decide)
        refine ⟨v2, vp_in_nI (by omega) (by decide), i_ofTwo ⟨v2, fun σ25 e25 => ?_⟩⟩
        refine st (z - 1) σ25 (by rw [e25]; exact frv _ _) (by omega) ?_
        rw [e25, gA_sAs]
        exact ew'
      · rw [if_pos c, if_neg d, if_pos (l0.mp f)] at ew'
        exact st z T F hz ew'
      · rw [l0] at f
        rw [if_pos c, if_neg d, if_neg f] at ew'
        have e18 : nI z - 1 = nI (z - 1) := nI_sub (a := 1) (by omega)
        rw [e18, nI_clamp (n := z - 1) (by omega)]
        have v2 : vp_in (nI (z - 1)) 160 := vp_in_nI (by omega) (by decide)
        refine ⟨v2, i_ofOne ⟨v2, fun σ25 e25 => ?_⟩⟩
        refine st z σ25 (by rw [e25]; exact frv _ _) (by omega) ?_
        rw [e25, gA_sAs]
        exact ew'
      · rw [if_neg c, if_pos (l160.mp d)] at ew'
        exact st z T F hz ew'
      · rw [l160] at d
        rw [if_neg c, if_neg d] at ew'
        have pu : ∀ v, v = (if x < 0 then N x else x) → wX1_reckon_j115 (nI wh) o (nI p) q4 (nI z) (nI e) (nI i) (nI z) v T (fun a1 q2 a3 q4 a5 a6 a7 σ => wX1_reckon_l58 (m + 1) a1 q2 a3 q4 a5 a6 a7 σ Q) Q := by
          intro v ev
          unfold wX1_reckon_j115
          rw [nI_clamp (n := z) (by omega)]
          refine ⟨vp_in_nI (by omega) (by decide), fun σ37 e37 x38 e38 => ?_⟩
          rw [e38, nI_1]
          refine st (z + 1) σ37 (by rw [e37]; exact frv _ _) (by omega) ?_
          rw [e37, gA_sAs, ev]
          exact ew'
        refine ⟨fun f => i_named hp (pu _ ?_), fun f => pu x (by rw [if_neg f])⟩
        have eo := F.1 o ho
        rw [if_pos f, hN, gA_same eo, gA_same eo, gA_same eo, gI_same eo, gJ_same eo, gA_same eo]
  exact ⟨e - i + 1, main (e - i) i 0 X (by omega) (FrV_refl X) (by decide) hw.symm⟩
theorem c_ev {ob : OT} {c : List Int32 × List Int32 × List Int32} (hT : TXT ob c) (h0 : WF c.1) (h1 : WF c.2.1) (h2 : WF c.2.2) : CEv (fF c) ob := by
  intro X o t p wh Q hob ht ho hp hwh h3 hk hQ
  obtain ⟨k, hk1, hk2, hk3⟩ := hk
  obtain ⟨hl, ⟨e0, e1, e2⟩, g0, g1, g2⟩ := hT
  have hA : ∀ f, gA X (6 + t) f = ob.2.2.1 f := fun f => by unfold gA; rw [hob]
  have o4 : ¬ o = 4 := by omega
  unfold wX1_reckon
  rw [h3, hk3, nI_clamp (n := wh) (by omega)]
  have fin : ∀ (s : Nat) (cc : List Int32), cc = (if wh = 0 then c.1 else if wh = 1 then c.2.1 else c.2.2) → WF cc → s + cc.length ≤ 160 → (∀ j, j < cc.length → ob.2.2.1 0 (s + j) = cc.getD j 0) → wX1_reckon_j56 (nI wh) o (nI p) (6 + t) 0 (nI (s + cc.length)) (nI s) X Q := by
    intro s cc ec hw hs hg
    refine c_reck (N := nmF (gA X o 9 p) (gA X o 8 p) (gA X o 7 p) (gI X o 2) (nI (pc (gJ X o 1))) (boxF (gA X o 4))) o4 (by omega) hp hwh rfl (by omega) hs rfl (fun Y F => ?_)
    have h9 := hQ Y F
    unfold fF at h9
    rw [← ec] at h9
    obtain ⟨v, hv⟩ := hw (nmF (gA X o 9 p) (gA X o 8 p) (gA X o 7 p) (gI X o 2) (nI (pc (gJ X o 1))) (boxF (gA X o 4)))
    rw [Ev_val hv (by omega)] at h9
    obtain ⟨g', a1, a2, -⟩ := hv (gA X 4 2) 0 (by omega)
    rw [Nat.add_sub_cancel_left, rn_fold cc s _ (fun j hj => by rw [hA]; exact hg j hj), a1]
    rw [if_neg (by show ¬ 0 + 1 = 0; decide)]
    show Q (clp (g' 0) _ 99) Y
    rw [a2]
    exact h9
  refine i_isIn (fun _ _ => ⟨fun _ => ⟨by rw [h3]; exact vp_in_nI ht (by decide), fun o5 e5 => ⟨vp_in_nI hwh (by decide), fun x7 e7 => ?_⟩⟩, fun q => absurd q ne10⟩) (fun q => absurd ⟨?_, ?_⟩ q)
  · rw [h3, nI_clamp (n := t) (by omega)] at e5
    rw [e5, hA] at e7
    rw [e5, hA, e7]
    have hc : wh = 0 ∨ wh = 1 ∨ wh = 2 := by omega
    rcases hc with hc | hc | hc
    · refine ⟨fun q => absurd (by rw [hc]; rfl) q, fun _ => ?_⟩
      have h9 := fin 0 c.1 (by rw [hc]; rfl) h0 (by omega) (fun j hj => by rw [Nat.zero_add]; exact g0 j hj)
      rw [Nat.zero_add] at h9
      rw [hc, e0]
      rw [hc] at h9
      exact h9
    · have h9 := fin c.1.length c.2.1 (by rw [hc]; rfl) h1 (by omega) g1
      rw [hc] at h9
      rw [hc, e1]
      have e8 : (nI 1 - 1).toNatClampNeg = 0 := by decide
      refine ⟨fun _ => ⟨by unfold vp_in; decide, ?_⟩, fun q => absurd q (by decide)⟩
      rw [e8, e0]
      exact h9
    · have h9 := fin (c.1.length + c.2.1.length) c.2.2 (by rw [hc]; rfl) h2 (by omega) g2
      rw [hc] at h9
      rw [hc, e2]
      have e8 : (nI 2 - 1).toNatClampNeg = 1 := by decide
      refine ⟨fun _ => ⟨by unfold vp_in; decide, ?_⟩, fun q => absurd q (by decide)⟩
      rw [e8, e1]
      exact h9
  · rw [nI_toInt (by omega)]; omega
  · rw [nI_toInt (by omega), nI_toInt (by omega)]; omega
