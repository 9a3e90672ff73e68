/-! what steps say; three parts; the class reckons -/
def nmF (l c m d fi bo : Int32) (x : Int32) : Int32 := if x = -6 then bo else if x = -5 then fi else if x = -4 then d else if x = -3 then m else if x = -2 then c else if x = -1 then l else 0
def op1 (x a : Int32) : Int32 := if x = -11 then -a else if a = 0 then 1 else 0
def op2 (x a b : Int32) : Int32 := if x = -27 then a * b else if x = -26 then a - b else if x = -25 then a + b else if x = -24 then (if a = b then 1 else 0) else if x = -23 then (if b ≤ a then 0 else 1) else if x = -22 then (if a = 0 then 0 else if b = 0 then 0 else 1) else if x = -21 then (if a = 0 then (if b = 0 then 0 else 1) else 1) else 0
def stp (N : Int32 → Int32) (w : (Nat → Int32) × Nat) (x : Int32) : (Nat → Int32) × Nat :=
  if x ≤ -10 then (if x ≤ -20 then (if w.2 ≤ 1 then w else (upd w.1 (w.2 - 2) (op2 x (w.1 (w.2 - 2)) (w.1 (w.2 - 1))), w.2 - 1)) else (if w.2 = 0 then w else (upd w.1 (w.2 - 1) (op1 x (w.1 (w.2 - 1))), w.2))) else (if 160 ≤ w.2 then w else (upd w.1 w.2 (if x < 0 then N x else x), w.2 + 1))
def Ev (N : Int32 → Int32) (c : List Int32) (v : Int32) : Prop := ∀ (g : Nat → Int32) (z : Nat), z + c.length ≤ 160 → ∃ g', c.foldl (stp N) (g, z) = (g', z + 1) ∧ g' z = v ∧ ∀ i, i < z → g' i = g i
theorem Ev_lit {N : Int32 → Int32} {x : Int32} (hx : ¬ x ≤ -10) : Ev N [x] (if x < 0 then N x else x) := by
  intro g z hz
  have hz1 : z + 1 ≤ 160 := hz
  refine ⟨upd g z (if x < 0 then N x else x), ?_, ?_, fun i hi => ?_⟩
  · show stp N (g, z) x = _
    unfold stp
    rw [if_neg hx, if_neg (by show ¬ 160 ≤ z; omega)]
  · unfold upd; rw [if_pos rfl]
  · unfold upd; rw [if_neg (by omega)]
theorem Ev_1 {N : Int32 → Int32} {c : List Int32} {v x : Int32} (h : Ev N c v) (h1 : x ≤ -10) (h2 : ¬ x ≤ -20) : Ev N (c ++ [x]) (op1 x v) := by
  intro g z hz
  rw [List.length_append, List.length_singleton] at hz
  obtain ⟨g1, e1, e2, e3⟩ := h g z (by omega)
  refine ⟨upd g1 z (op1 x v), ?_, ?_, fun i hi => ?_⟩
  · rw [List.foldl_append, e1]
    show stp N (g1, z + 1) x = _
    unfold stp
    rw [if_pos h1, if_neg h2, if_neg (by show ¬ z + 1 = 0; omega)]
    show (upd g1 (z + 1 - 1) (op1 x (g1 (z + 1 - 1))), z + 1) = _
    rw [Nat.add_sub_cancel, e2]
  · unfold upd; rw [if_pos rfl]
  · unfold upd; rw [if_neg (by omega)]; exact e3 i hi
theorem Ev_2 {N : Int32 → Int32} {c d : List Int32} {v w x : Int32} (h : Ev N c v) (hd : Ev N d w) (h2 : x ≤ -20) : Ev N (c ++ (d ++ [x])) (op2 x v w) := by
  have h1 : x ≤ -10 := by
    rw [Int32.le_iff_toInt_le] at h2 ⊢
    have a1 : (-20 : Int32).toInt = -20 := rfl
    have a2 : (-10 : Int32).toInt = -10 := rfl
    omega
  intro g z hz
  rw [List.length_append, List.length_append, List.length_singleton] at hz
  obtain ⟨g1, e1, e2, e3⟩ := h g z (by omega)
  obtain ⟨g2, f1, f2, f3⟩ := hd g1 (z + 1) (by omega)
  refine ⟨upd g2 z (op2 x v w), ?_, ?_, fun i hi => ?_⟩
  · rw [List.foldl_append, e1, List.foldl_append, f1]
    show stp N (g2, z + 1 + 1) x = _
    unfold stp
    rw [if_pos h1, if_pos h2, if_neg (by show ¬ z + 1 + 1 ≤ 1; omega)]
    show (upd g2 (z + 1 + 1 - 2) (op2 x (g2 (z + 1 + 1 - 2)) (g2 (z + 1 + 1 - 1))), z + 1 + 1 - 1) = _
    rw [show z + 1 + 1 - 2 = z by omega, show z + 1 + 1 - 1 = z + 1 by omega, f2, f3 z (by omega), e2]
  · unfold upd; rw [if_pos rfl]
  · unfold upd; rw [if_neg (by omega), f3 i (by omega)]; exact e3 i hi
def valF (N : Int32 → Int32) (c : List Int32) : Int32 := (c.foldl (stp N) (fun _ => 0, 0)).1 0
theorem Ev_val {N : Int32 → Int32} {c : List Int32} {v : Int32} (h : Ev N c v) (hc : c.length ≤ 160) : valF N c = v := by
  obtain ⟨g, e1, e2, -⟩ := h (fun _ => 0) 0 (by omega)
  unfold valF
  rw [e1]
  exact e2
/-- steps that say something -/
def WF (c : List Int32) : Prop := ∀ N : Int32 → Int32, ∃ v, Ev N c v
def WFs (f : Nat → PR) : Prop := ∀ p, (f p).1 = true → WF (f p).2.1
theorem WF_lp {tk : Nat → Int32} {nx : Nat → Nat} {is : Int32 → Bool} {ac : Int32 → Int32} {sub : Nat → PR} (ha : ∀ t, ac t ≤ -20) (hs : WFs sub) : ∀ (m : Nat) (r : PR), (r.1 = true → WF r.2.1) → (lpP tk nx is ac sub m r).1 = true → WF (lpP tk nx is ac sub m r).2.1 := by
  intro m
  induction m with
  | zero => intro r h; exact h
  | succ m ih =>
    intro r h
    unfold lpP
    by_cases c : (r.1 && is (tk r.2.2)) = true
    · rw [if_pos c]
      rw [Bool.and_eq_true] at c
      refine ih _ (fun q N => ?_)
      obtain ⟨v, hv⟩ := h c.1 N
      obtain ⟨w, hw⟩ := hs _ q N
      exact ⟨_, Ev_2 hv hw (ha _)⟩
    · rw [if_neg c]
      exact h
theorem WF_lo {m : Nat} {tk : Nat → Int32} {nx : Nat → Nat} {is : Int32 → Bool} {ac : Int32 → Int32} {sub : Nat → PR} (ha : ∀ t, ac t ≤ -20) (hs : WFs sub) : WFs (pLo tk nx is ac m sub) := fun p => WF_lp ha hs m (sub p) (hs p)
theorem WF_ne {tk : Nat → Int32} {nx : Nat → Nat} {dp : Bool} {ng co : Nat → PR} (h1 : dp = true → WFs ng) (h2 : WFs co) : WFs (pNe tk nx dp ng co) := by
  intro p
  unfold pNe
  split
  · split
    · next hd =>
      intro q N
      obtain ⟨v, hv⟩ := h1 hd _ q N
      exact ⟨_, Ev_1 hv (by decide) (by decide)⟩
    · intro q; exact absurd q Bool.false_ne_true
  · exact h2 p
def TkOk (tk : Nat → Int32) (nu : Nat → Int32) : Prop := ∀ p, (¬ tk p < 306 → ¬ (-1 - (tk p - 306)) ≤ -10) ∧ (tk p = 2 → ¬ nu p ≤ -10)
theorem WF_si {tk : Nat → Int32} {nx : Nat → Nat} {nu : Nat → Int32} {dp : Bool} {s e : Nat → PR} (hT : TkOk tk nu) (h1 : dp = true → WFs s) (h2 : dp = true → WFs e) : WFs (pSi tk nx nu dp s e) := by
  intro p
  unfold pSi
  split
  · next t => intro _ N; exact ⟨_, Ev_lit ((hT p).2 t)⟩
  · split
    · next t => intro _ N; exact ⟨_, Ev_lit ((hT p).1 t)⟩
    · split
      · split
        · next hd =>
          intro q N
          obtain ⟨v, hv⟩ := h1 hd _ q N
          exact ⟨_, Ev_1 hv (by decide) (by decide)⟩
        · intro q; exact absurd q Bool.false_ne_true
      · split
        · split
          · next hd =>
            split
            · next hj =>
              intro _
              rw [Bool.and_eq_true] at hj
              exact h2 hd _ hj.1
            · intro q; exact absurd q Bool.false_ne_true
          · intro q; exact absurd q Bool.false_ne_true
        · intro q; exact absurd q Bool.false_ne_true
theorem acU_le (t : Int32) : acU t ≤ -20 := by unfold acU; split <;> decide
theorem acC_le (t : Int32) : acC t ≤ -20 := by unfold acC; split <;> decide
theorem acT_le (t : Int32) : acT t ≤ -20 := by unfold acT; decide
theorem acB_le (t : Int32) : acB t ≤ -20 := by unfold acB; decide
theorem acE_le (t : Int32) : acE t ≤ -20 := by unfold acE; decide
theorem WF_lev {tk : Nat → Int32} {nx : Nat → Nat} {nu : Nat → Int32} {dp : Bool} {q : (Nat → PR) × (Nat → PR) × (Nat → PR)} (hT : TkOk tk nu) (h : dp = true → WFs q.1 ∧ WFs q.2.1 ∧ WFs q.2.2) : WFs (lev tk nx nu dp q).1 ∧ WFs (lev tk nx nu dp q).2.1 ∧ WFs (lev tk nx nu dp q).2.2 := by
  have h1 : WFs (pSi tk nx nu dp q.2.2 q.1) := WF_si hT (fun e => (h e).2.2) (fun e => (h e).1)
  have h2 : WFs (levN tk nx dp q.2.1 (pSi tk nx nu dp q.2.2 q.1)) := WF_ne (fun e => (h e).2.1) (WF_lo acC_le (WF_lo acU_le (WF_lo acT_le h1)))
  exact ⟨WF_lo acE_le (WF_lo acB_le h2), h2, h1⟩
theorem WF_P {tk : Nat → Int32} {nx : Nat → Nat} {nu : Nat → Int32} (hT : TkOk tk nu) : ∀ d, WFs (pP tk nx nu d).1 ∧ WFs (pP tk nx nu d).2.1 ∧ WFs (pP tk nx nu d).2.2 := by
  intro d
  induction d with
  | zero => exact WF_lev hT (fun q => absurd q Bool.false_ne_true)
  | succ d ih => exact WF_lev hT (fun _ => ih)
/-- a number of four digits at most is a small one -/
theorem nuf_rg {b : Nat → Int32} : ∀ (m i v : Nat) (x : Int32), x = nI v → (∀ j, j < m → isDg (b (i + j)) = true) → v < 10 ^ (8 - m) → m ≤ 8 → ∃ u, u < 10 ^ 8 ∧ nuf b m i x = nI u := by
  intro m
  induction m with
  | zero => intro i v x hx _ hv _; exact ⟨v, hv, hx⟩
  | succ m ih =>
    intro i v x hx hd hv hm
    have h0 := hd 0 (by omega)
    unfold isDg at h0
    rw [Bool.and_eq_true, decide_eq_true_iff, decide_eq_true_iff, Nat.add_zero] at h0
    obtain ⟨u, hu, eu⟩ : ∃ u, u ≤ 9 ∧ b i = nI (48 + u) := ⟨((b i).toInt - 48).toNat, by omega, Int32.toInt_inj.mp (by rw [nI_toInt (by omega)]; omega)⟩
    have e1 : x * 10 + b i - 48 = nI (10 * v + u) := by
      rw [hx, eu, show (10 : Int32) = nI 10 from rfl, show (48 : Int32) = nI 48 from rfl]
      have h1 : nI v * nI 10 = nI (v * 10) := (Int32.ofNat_mul v 10).symm
      rw [h1, nI_add, nI_sub (by omega)]
      congr 1
      omega
    refine ih (i + 1) (10 * v + u) _ e1 (fun j hj => ?_) ?_ (by omega)
    · have := hd (j + 1) (by omega)
      rw [show i + 1 + j = i + (j + 1) by omega]
      exact this
    · have hp : 10 ^ (8 - m) = 10 * 10 ^ (8 - (m + 1)) := by
        rw [show 8 - m = (8 - (m + 1)) + 1 by omega, Nat.pow_succ, Nat.mul_comm]
      omega
theorem wtk_in (ok : Nat → Bool) : ∀ m, m ≤ 12 → wtk ok m = 1 ∨ ∃ i, i < m ∧ ok i = true ∧ wtk ok m = nI (300 + i) := by
  intro m
  induction m with
  | zero => intro _; exact Or.inl rfl
  | succ m ih =>
    intro hm
    unfold wtk
    by_cases h : ok m = true
    · rw [if_pos h]; exact Or.inr ⟨m, by omega, h, rfl⟩
    · rw [if_neg h]
      rcases ih (by omega) with q | ⟨i, hi, h1, h2⟩
      · exact Or.inl q
      · exact Or.inr ⟨i, by omega, h1, h2⟩
theorem isSg_lt {x : Int32} (h : isSg x = true) : x < 306 ∧ ¬ x = 2 ∧ ¬ x = 0 ∧ ¬ x = 1 := by
  unfold isSg at h
  simp only [Bool.or_eq_true, decide_eq_true_iff] at h
  rcases h with ((((((h | h) | h) | h) | h) | h) | h) | h <;> (rw [h]; decide)
theorem TkOk_of (b : Nat → Int32) (n : Nat) : TkOk (tkP b n) (nuP b n) := by
  intro p
  unfold tkP nuP
  obtain ⟨a, ea⟩ : ∃ a, lxA b n p = a := ⟨_, rfl⟩
  rw [ea]
  have h300 : ∀ i, i < 12 → ¬ (-1 - (nI (300 + i) - 306)) ≤ -10 ∧ ¬ nI (300 + i) = 2 := by decide +kernel
  have h99 : ¬ nI 0 < 306 → False := by decide
  unfold tkA
  split
  · exact ⟨fun q => absurd (by decide) q, fun q => absurd q (by decide)⟩
  · split
    · rcases wtk_in (okW b a (sp isLt b n a)) 12 (Nat.le_refl _) with q | ⟨i, hi, -, q⟩
      · rw [q]; exact ⟨fun q => absurd (by decide) q, fun q => absurd q (by decide)⟩
      · rw [q]; exact ⟨fun _ => (h300 i hi).1, fun z => absurd z (h300 i hi).2⟩
    · split
      · split
        · next h4 =>
          refine ⟨fun q => absurd (by decide) q, fun _ => ?_⟩
          unfold nuA
          obtain ⟨u, hu, eu⟩ := nuf_rg (b := b) (sp isDg b n a - a) a 0 0 rfl (fun j hj => sp_all (P := isDg) (b := b) (n := n) (p := a) (a + j) (by omega) (by omega)) (Nat.pow_pos (by decide)) (by omega)
          rw [eu, Int32.le_iff_toInt_le, nI_toInt (by omega)]
          have : (-10 : Int32).toInt = -10 := rfl
          omega
        · exact ⟨fun q => absurd (by decide) q, fun q => absurd q (by decide)⟩
      · split
        · next hs => exact ⟨fun q => absurd (isSg_lt hs).1 q, fun q => absurd q (isSg_lt hs).2.1⟩
        · exact ⟨fun q => absurd (by decide) q, fun q => absurd q (by decide)⟩
/-! three parts -/
def pPt (tk : Nat → Int32) (nx : Nat → Nat) (E : Nat → PR) (k p : Nat) : PR := if tk p = nI (300 + k) then (if ((E (nx p)).1 && decide (tk (E (nx p)).2.2 = 59)) = true then (true, (E (nx p)).2.1, nx (E (nx p)).2.2) else (false, (E (nx p)).2.1, (E (nx p)).2.2)) else (false, [], p)
theorem Gd_pt {n k : Nat} {tk : Nat → Int32} {nx : Nat → Nat} {E : Nat → PR} (hk : k < 3) (hL : Lx n tk nx) (he : Gd n E) : Gd n (pPt tk nx E k) := by
  intro p hp
  unfold pPt
  by_cases c : tk p = nI (300 + k)
  · rw [if_pos c]
    have h0 := hL.1 p hp
    have h2 := he (nx p) h0.2
    have h4 := hL.1 _ h2.2.1
    by_cases j : ((E (nx p)).1 && decide (tk (E (nx p)).2.2 = 59)) = true
    · rw [if_pos j]
      rw [Bool.and_eq_true] at j
      have h3 := h2.2.2 j.1
      refine ⟨?_, h4.2, fun _ => ?_⟩
      · show p ≤ nx (E (nx p)).2.2
        omega
      · show (E (nx p)).2.1.length + p ≤ nx (E (nx p)).2.2
        omega
    · rw [if_neg j]
      refine ⟨?_, h2.2.1, fun q => absurd q Bool.false_ne_true⟩
      show p ≤ (E (nx p)).2.2
      omega
  · rw [if_neg c]
    exact ⟨Nat.le_refl _, hp, fun q => absurd q Bool.false_ne_true⟩
theorem WF_pt {k : Nat} {tk : Nat → Int32} {nx : Nat → Nat} {E : Nat → PR} (he : WFs E) : WFs (pPt tk nx E k) := by
  intro p
  unfold pPt
  split
  · split
    · next hj =>
      intro _
      rw [Bool.and_eq_true] at hj
      exact he _ hj.1
    · intro q; exact absurd q Bool.false_ne_true
  · intro q; exact absurd q Bool.false_ne_true
/-- the class: one part -/
def LJ (b : Nat → Int32) (n o s : Nat) (X0 : St) (r : PR) (X : St) : Prop := (∀ q, ¬ q = 5 → ¬ q = o → X q = X0 q) ∧ gA X 5 0 = gA X0 5 0 ∧ gI X 5 1 = gI X0 5 1 ∧ CP b n X r.2.2 ∧ r.2.2 ≤ n ∧ gI X o 2 = nI (s + r.2.1.length) ∧ gA X o 0 = put (gA X0 o 0) s r.2.1 ∧ s + r.2.1.length ≤ r.2.2
theorem c_part {b : Nat → Int32} {n o p s k : Nat} {X : St} {ih : Nat → Int32 → St → Prop} {Q : Int32 → St → Prop} (hk : k < 3) (hn : n ≤ 160) (ho : ¬ o = 5) (hC : CP b n X p) (hp : p ≤ n) (e : gI X o 2 = nI s) (hs : s ≤ p) (K1 : (pPt (tkP b n) (nxP b n) (pP (tkP b n) (nxP b n) (nuP b n) 5).1 k p).1 = true → ∀ Y, LJ b n o s X (pPt (tkP b n) (nxP b n) (pP (tkP b n) (nxP b n) (nuP b n) 5).1 k p) Y → gA Y o 1 = upd (gA X o 1) k (gI Y o 2) → ih o (nI (k + 1)) Y)
    (K0 : (pPt (tkP b n) (nxP b n) (pP (tkP b n) (nxP b n) (nuP b n) 5).1 k p).1 = false → ∀ Y, (∀ q, ¬ q = 5 → ¬ q = o → Y q = X q) → gA Y 5 0 = gA X 5 0 → gI Y 5 1 = gI X 5 1 → Q (nI (lxA b n (pPt (tkP b n) (nxP b n) (pP (tkP b n) (nxP b n) (nuP b n) 5).1 k p).2.2)) Y) : wX0_readInto_l15s ih o (nI k) X Q := by
  have hL := Lx_of b n
  have hg := (Gd_P (nu := nuP b n) hL 5).1
  unfold pPt at K1 K0
  unfold wX0_readInto_l15s
  have e300 : (300 : Int32) + nI k = nI (300 + k) := nI_add 300 k
  refine ⟨fun q => absurd q (nle (N := 3) hk (by decide)), fun _ => ?_⟩
  rw [e300]
  refine c_skip hn hp hC (fun t Y FY CY => ⟨fun q => absurd q ne10, fun _ => ?_⟩) (fun t => ⟨fun _ => ?_, fun q => absurd rfl q⟩)
  · rw [if_pos t] at K1 K0
    have hx := nx_le (b := b) hp
    have eo : gI Y o 2 = nI s := by rw [gI_same (FY.1 o ho)]; exact e
    refine c_wEith hn o (nxP b n p) s Y _ ho CY hx.2 eo (by omega) (fun Z hZ => ?_)
    obtain ⟨zF, zC, zp, zc, s', hs', ze⟩ := hZ
    have hgp := hg (nxP b n p) hx.2
    have hF : FrR o X Z := FrR_trans (Fr5_R ho FY) zF
    have e4 : gI Z 5 4 = nI (lxA b n ((pP (tkP b n) (nxP b n) (nuP b n) 5).1 (nxP b n p)).2.2) := zC.2.2.2.1
    refine ⟨fun q => ?_, fun q => c_skip hn zp zC (fun t6 V FV CV => ⟨fun _ => ?_, fun q => absurd q ne10⟩) (fun t6 => ⟨fun q => absurd rfl q, fun _ => ?_⟩)⟩
    · rw [if_neg (by rw [bI_0.mp q]; simp)] at K0
      rw [e4]
      exact K0 rfl Z hF.1 hF.2.1 hF.2.2.1
    · have hr := bI_1.mp q
      rw [if_pos (by rw [hr, decide_eq_true t6]; rfl)] at K1
      obtain ⟨z1, z2, z3⟩ := zc hr
      have hl := nx_le (b := b) zp
      refine ⟨vp_in_nI hk (by decide), fun σ2 e2 x16 e16 => ?_⟩
      rw [nI_clamp (by omega)] at e2
      rw [e16, nI_1]
      have h5 : σ2 5 = V 5 := by rw [e2, o_sA (fun q => ho q.symm)]
      have v2 : gI V o 2 = gI Z o 2 := gI_same (FV.1 o ho)
      have hFV := FrR_trans hF (Fr5_R ho FV)
      refine K1 rfl σ2 ⟨fun q h1 h2 => ?_, ?_, ?_, CP_5 h5 CV, hl.2, ?_, ?_, ?_⟩ ?_
      · rw [e2, o_sA h2]; exact hFV.1 q h1 h2
      · rw [gA_same h5]; exact hFV.2.1
      · rw [gI_same h5]; exact hFV.2.2.1
      · rw [e2, gI_sA, v2]; exact z1
      · rw [e2, gA_sAf _ _ _ _ _ (by omega), gA_same (FV.1 o ho), z2, gA_same (FY.1 o ho)]
      · show s + ((pP (tkP b n) (nxP b n) (nuP b n) 5).1 (nxP b n p)).2.1.length ≤ nxP b n ((pP (tkP b n) (nxP b n) (nuP b n) 5).1 (nxP b n p)).2.2
        omega
      · rw [e2, gA_sAs, gI_sA, hFV.2.2.2]
    · rw [if_neg (by rw [decide_eq_false t6]; simp)] at K0
      rw [e4]
      exact K0 rfl Z hF.1 hF.2.1 hF.2.2.1
  · rw [if_neg t] at K0
    rw [hC.2.2.2.1]
    exact K0 rfl X (fun _ _ _ => rfl) rfl rfl
