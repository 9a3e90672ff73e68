/-! tells -/
def foF (f : Nat → Int32 → Int32 → Int32 → Int32 → Int32 → Int32 → Int32) (wt : Nat → Int32) (n : Nat) (it : Nat → Int32) : Nat → Nat → Int32 × Int64 × (Nat → Int32) × (Nat → Int32) → Int32
  | 0, _, _ => -1
  | m + 1, t, a => if nI (pc (dayF f wt (-1) true n a).2.1) = it t then foF f wt n it m (t + 1) (dayF f wt (-1) true n a) else nI t
theorem c_fo {f : Nat → Int32 → Int32 → Int32 → Int32 → Int32 → Int32 → Int32} {X : St} {o n d z : Nat} {ru : Int32} {wt it : Nat → Int32} {a : Int32 × Int64 × (Nat → Int32) × (Nat → Int32)} {Q : Int32 → St → Prop} (ho : 12 ≤ o) (hn : n ≤ 5) (hz : z ≤ 40) (hd : a.1 = nI d) (hd9 : d ≤ 1000) (hW : CW X 2 ru n wt a) (hC : CR f X 2) (e1 : gI X o 1 = nI z) (e0 : ∀ i, i < z → gA X o 0 i = it i) (h : ∀ U, FrC 2 X U → Q (foF f wt n it z 0 a) U) : wX5_firstOtherwise o X Q := by
  obtain ⟨N, hN⟩ : ∃ N, foF f wt n it z 0 a = N := ⟨_, rfl⟩
  rw [hN] at h
  have main : ∀ (m t : Nat) (T : St) (c : Int32 × Int64 × (Nat → Int32) × (Nat → Int32)), t + m = z → c.1 = nI (d + t) → FrC 2 X T → CW T 2 ru n wt c → foF f wt n it m t c = N → wX5_firstOtherwise_l2 (m + 1) o (nI t) T Q := by
    intro m
    induction m with
    | zero =>
      intro t T c ht hc F WT e
      have et : t = z := by omega
      subst et
      have e' : (-1 : Int32) = N := e
      apply wX5_firstOtherwise_l2_1
      unfold wX5_firstOtherwise_l2s
      rw [gI_same (F.1 o (by omega) (by omega)), e1]
      refine ⟨fun _ => by rw [e']; exact h T F, fun q => absurd (Int32.le_refl _) q⟩
    | succ m ih =>
      intro t T c ht hc F WT e
      apply wX5_firstOtherwise_l2_1
      unfold wX5_firstOtherwise_l2s
      rw [gI_same (F.1 o (by omega) (by omega)), e1]
      refine ⟨fun q => absurd q (nle (by omega) (by omega)), fun _ => ?_⟩
      refine c_day hn (by rw [hc, nI_toInt (by omega)]; omega) WT (CR_C F (CW_3 hW WT) hC) (fun U FU WU => ⟨vp_in_nI (by omega) (by decide), i_filledCells ?_⟩)
      rw [day_m1 hn] at WU
      have FT := FrC_trans F FU
      rw [nI_clamp (n := t) (by omega), gA_same (FT.1 o (by omega) (by omega)), e0 t (by omega), WU.1.1]
      unfold foF at e
      refine ⟨fun q x7 e7 => ?_, fun q => ?_⟩
      · rw [if_pos q.symm] at e
        rw [e7, nI_1]
        exact ih (t + 1) U _ (by omega) (by rw [day_1]; exact inc_to hc) FT WU e
      · rw [if_neg (fun y => q y.symm)] at e
        rw [e]
        exact h U FT
  exact ⟨z + 1, main z 0 X a (by omega) hd (FrC_refl 2 X) hW hN⟩
theorem m_fo {f : Nat → Int32 → Int32 → Int32 → Int32 → Int32 → Int32 → Int32} {S : St} {s n z : Nat} {it : Nat → Int32} {Q : Int32 → St → Prop} (hs : s < 4) (hn : n ≤ 5) (hz : z ≤ 40) (en : gI S 16 12 = nI n) (hM : MR f S) (hok : ∀ c, c < 64 → rg (gA S 16 9 c) 3) (hid : gI S 16 13 = -1) (e1 : gA S 16 41 s = nI z) (e0 : ∀ i, i < z → gA S 16 42 (40 * s + i) = it i) (h : ∀ U, FrL S U → Q (foF f (gA S 16 9) n it z 0 (aM S)) U) : wX6_firstOther (nI s) S Q := by
  refine m_asideA (fun T0 hA eT => ?_)
  have vs : vp_in (nI s) 4 := vp_in_nI hs (by decide)
  obtain ⟨N, hN⟩ : ∃ N, foF f (gA S 16 9) n it z 0 (aM S) = N := ⟨_, rfl⟩
  rw [hN] at h
  have fin : ∀ (T : St) (x : Int32), Asd S T → N = x → wX6_firstOther_j60 x T Q := fun T x hT e => m_backA hT (fun U FU => by rw [← e]; exact h U FU)
  have main : ∀ (m t : Nat) (T : St), t + m = z → Asd S T → foF f (gA S 16 9) n it m t (aM T) = N → wX6_firstOther_l8 (m + 2) (nI s) (-1) (nI t) T Q := by
    intro m
    induction m with
    | zero =>
      intro t T ht hT e
      have et : t = z := by omega
      subst et
      apply wX6_firstOther_l8_1
      unfold wX6_firstOther_l8s
      rw [nI_clamp (n := s) (by omega), hT.2.1 41 (by decide) (by decide) (by decide), e1]
      exact ⟨vs, fun _ => fin T (-1) hT e.symm, fun q => absurd (Int32.le_refl _) q⟩
    | succ m ih =>
      intro t T ht hT e
      have w := Asd_w hT
      apply wX6_firstOther_l8_1
      unfold wX6_firstOther_l8s
      rw [nI_clamp (n := s) (by omega), hT.2.1 41 (by decide) (by decide) (by decide), e1]
      refine ⟨vs, fun q => absurd q (nle (by omega) (by omega)), fun _ => ⟨fun q => absurd rfl q, fun _ => ?_⟩⟩
      refine m_day hn (by rw [w.2.2.2.2.1]; exact en) (MR_A hT hM) (by rw [w.1]; exact hok) (fun U FU eU => i_bitsOf ?_)
      rw [w.1, w.2.2.2.2.2, hid] at eU
      have hU : Asd S U := by
        refine Asd_M hT FU ?_
        have o1 := Out_days (f := f) (sil := -1) (gv := true) hn hok 1 (aM T)
        have : daysF f (gA S 16 9) (-1) true n 1 (aM T) = aM U := eU.symm
        rw [this] at o1
        exact o1
      have e9 : ((40 : Int32) * nI s + nI t) = nI (40 * s + t) := by
        rw [show (40 : Int32) * nI s = nI (40 * s) from (Int32.ofNat_mul 40 s).symm, nI_add]
      rw [e9, nI_clamp (n := 40 * s + t) (by omega), hU.2.1 42 (by decide) (by decide) (by decide), e0 t (by omega)]
      have eb : nI (pc (gJ U 16 8)) = nI (pc (dayF f (gA S 16 9) (-1) true n (aM T)).2.1) := by rw [← eU]; rfl
      rw [eb]
      unfold foF at e
      refine ⟨vp_in_nI (by omega) (by decide), fun q x11 e11 => ?_, fun q x11 e11 => ?_⟩
      · rw [if_neg q] at e
        rw [e11, nI_1]
        apply wX6_firstOther_l8_1
        unfold wX6_firstOther_l8s
        exact ⟨vs, fun _ => fin U (nI t) hU e.symm, fun _ => ⟨fun _ => fin U (nI t) hU e.symm, fun y => absurd y (rg_ne1 (n := 40) ⟨t, by omega, rfl⟩ (by decide))⟩⟩
      · rw [if_pos q] at e
        rw [e11, nI_1]
        exact ih (t + 1) U (by omega) hU (by rw [eU]; exact e)
  exact ⟨z + 2, main z 0 T0 (by omega) hA (by rw [eT]; exact hN)⟩
/-! all that fit: bits, how many, the least -/
def bU (bt : Nat → Int32) (R : Nat → Int32) : Nat → Int32
  | 0 => 0
  | v + 1 => if R v = -1 then bU bt R v ||| bt v else bU bt R v
def ctU (R : Nat → Int32) : Nat → Nat
  | 0 => 0
  | v + 1 => if R v = -1 then ctU R v + 1 else ctU R v
def leU (R : Nat → Int32) : Nat → Int32
  | 0 => -1
  | v + 1 => if R v = -1 then (if leU R v = -1 then nI v else leU R v) else leU R v
theorem bU_cong {bt bt' : Nat → Int32} {R : Nat → Int32} : ∀ v, (∀ j, j < v → bt j = bt' j) → bU bt R v = bU bt' R v := by
  intro v
  induction v with
  | zero => intro _; rfl
  | succ v ih =>
    intro h
    unfold bU
    rw [ih (fun j hj => h j (by omega)), h v (by omega)]
def mb (v : Nat) : Int32 := if 10 ≤ v then 0 else ish 1 (nI v)
def outF (w : Int32) (bi co le : Int32) : Int32 := if w = 4 then co else if w = 5 then le else bi
theorem c_tell {X : St} {o ch : Nat} {p2 p3 : Int32} {R : Nat → Int32} {Q : Int32 → St → Prop} (hch : ch ≤ 100) (hstep : ∀ v, v < ch → ∀ (T : St) (K : Int32 → St → Prop), FrC 2 X T → (∀ U, FrC 2 X U → K (R v) U) → wX5_think T (fun σ21 => wX5_suppose p2 p3 (nI v) σ21 (fun σ22 => wX5_firstOtherwise o σ22 K)))
    (h : ∀ U, FrC 2 X U → Q (outF p3 (bU (fun v => ish 1 (nI v)) R ch) (nI (ctU R ch)) (leU R ch)) U) : ∃ j, wX5_tells_l101 j p2 p3 o 0 0 (-1) (nI ch) 0 X Q := by
  have main : ∀ (m v : Nat) (T : St), v + m = ch → FrC 2 X T → wX5_tells_l101 (m + 1) p2 p3 o (bU (fun v => ish 1 (nI v)) R v) (nI (ctU R v)) (leU R v) (nI ch) (nI v) T Q := by
    intro m
    induction m with
    | zero =>
      intro v T hv F
      have ev : v = ch := by omega
      subst ev
      have h9 := h T F
      unfold outF at h9
      apply wX5_tells_l101_1
      refine ⟨fun _ => ⟨fun q => ⟨fun q2 => ?_, fun q2 => ?_⟩, fun q => ?_⟩, fun q => absurd (Int32.le_refl _) q⟩
      · rw [if_neg q, if_neg q2] at h9; exact h9
      · rw [if_neg q, if_pos q2] at h9; exact h9
      · rw [if_pos q] at h9; exact h9
    | succ m ih =>
      intro v T hv F
      have h9 := ih (v + 1)
      apply wX5_tells_l101_1
      refine ⟨fun q => absurd q (nle (by omega) (by omega)), fun _ => hstep v (by omega) T _ F (fun U FU => ?_)⟩
      have h8 := h9 U (by omega) FU
      unfold bU ctU leU at h8
      refine ⟨fun q x26 e26 => ?_, fun q x27 e27 x28 e28 => ⟨fun q2 x26 e26 => ?_, fun q2 x26 e26 => ?_⟩⟩
      · rw [if_neg q, if_neg q, if_neg q] at h8
        rw [e26, nI_1]; exact h8
      · rw [if_pos q, if_pos q, if_pos q, if_neg q2] at h8
        rw [e26, e27, e28, nI_1, nI_1]; exact h8
      · rw [if_pos q, if_pos q, if_pos q, if_pos q2] at h8
        rw [e26, e27, e28, nI_1, nI_1]; exact h8
  exact ⟨ch + 1, main ch 0 X (by omega) (FrC_refl 2 X)⟩
theorem m_tell {Inv : St → Prop} {S : St} {ch : Nat} {p1 p2 p3 so be : Int32} {R : Nat → Int32} {Q : Int32 → St → Prop} (hch : ch ≤ 100) (h0 : Inv S) (hstep : ∀ v, v < ch → ∀ (T : St) (K : Int32 → St → Prop), Inv T → (∀ U, Inv U → K (R v) U) → wX6_lays so p2 (nI v) T (fun σ30 => wX6_firstOther p1 σ30 K))
    (h : ∀ T, Inv T → wX6_lays so p2 be T (fun U => Q (outF p3 (bU mb R ch) (nI (ctU R ch)) (leU R ch)) U)) : ∃ j, wX6_tells_l197 j p1 p2 p3 so be 0 0 (-1) (nI ch - 1) S Q := by
  obtain ⟨B, hB⟩ : ∃ B, bU mb R ch = B := ⟨_, rfl⟩
  obtain ⟨C, hC⟩ : ∃ C, ctU R ch = C := ⟨_, rfl⟩
  obtain ⟨L, hL⟩ : ∃ L, leU R ch = L := ⟨_, rfl⟩
  rw [hB, hC, hL] at h
  have main : ∀ (v c : Nat) (b le : Int32) (T : St), v ≤ ch → Inv T → b ||| bU mb R v = B → c + ctU R v = C → (if leU R v = -1 then le else leU R v) = L → wX6_tells_l197 (v + 1) p1 p2 p3 so be b (nI c) le (nI v - 1) T Q := by
    intro v
    induction v with
    | zero =>
      intro c b le T hv hT e1 e2 e3
      have e1' : b ||| 0 = B := e1
      rw [Int32.or_zero] at e1'
      have e2' : c = C := e2
      have e3' : le = L := e3
      rw [e1', e2', e3']
      apply wX6_tells_l197_1
      refine ⟨fun _ => ?_, fun q => absurd (by decide) q⟩
      have h9 := h T hT
      have hc : ∀ U, Q (outF p3 (B) (nI (C)) (L)) U → ((¬ p3 = 4 → ((¬ p3 = 5 → Q (B) U) ∧ (p3 = 5 → Q (L) U))) ∧ (p3 = 4 → Q (nI (C)) U)) := by
        intro U hU
        unfold outF at hU
        refine ⟨fun q => ⟨fun q2 => ?_, fun q2 => ?_⟩, fun q => ?_⟩
        · rw [if_neg q, if_neg q2] at hU; exact hU
        · rw [if_neg q, if_pos q2] at hU; exact hU
        · rw [if_pos q] at hU; exact hU
      refine ⟨fun a => ⟨fun b => ⟨fun c => ⟨fun d => ⟨fun e σ s => hc σ (((((h9.1 a).1 b).1 c).1 d).1 e σ s), fun e => ⟨(((((h9.1 a).1 b).1 c).1 d).2 e).1, fun σ s => hc σ ((((((h9.1 a).1 b).1 c).1 d).2 e).2 σ s)⟩⟩, fun d => ⟨((((h9.1 a).1 b).1 c).2 d).1, fun σ s => hc σ (((((h9.1 a).1 b).1 c).2 d).2 σ s)⟩⟩, fun c σ s => hc σ ((((h9.1 a).1 b).2 c) σ s)⟩, fun b => ⟨(((h9.1 a).2 b)).1, fun σ s => hc σ ((((h9.1 a).2 b)).2 σ s)⟩⟩, fun a σ s => hc σ ((h9.2 a) σ s)⟩
    | succ v ih =>
      intro c b le T hv hT e1 e2 e3
      rw [nI_pred]
      apply wX6_tells_l197_1
      refine ⟨fun q => absurd q (nI_pos (by omega)), fun _ => hstep v (by omega) T _ hT (fun U hU => ?_)⟩
      unfold bU at e1
      unfold ctU at e2
      unfold leU at e3
      have e34 : nI v + (-1) = nI v - 1 := (Int32.sub_eq_add_neg _ _).symm
      refine ⟨fun q x34 e => ?_, fun q => ?_⟩
      · rw [if_neg q] at e1 e2 e3
        rw [e, e34]
        exact ih c b le U (by omega) hU e1 e2 e3
      · rw [if_pos q] at e1 e2 e3
        have e1' : (b ||| mb v) ||| bU mb R v = B := by
          rw [← e1, Int32.or_assoc, Int32.or_comm (mb v)]
        have e2' : c + 1 + ctU R v = C := by omega
        have e3' : (if leU R v = -1 then nI v else leU R v) = L := by
          by_cases z : leU R v = -1
          · rw [if_pos z] at e3 ⊢
            rw [if_neg (rg_ne1 (n := 100) ⟨v, by omega, rfl⟩ (by decide))] at e3
            exact e3
          · rw [if_neg z] at e3 ⊢
            rw [if_neg z] at e3
            exact e3
        have go : ∀ s1 : Int32, s1 = mb v → wX6_tells_j237 p1 p2 p3 so be (nI c) (nI v) b s1 U (fun a1 a2 a3 a4 a5 a7 a8 a9 a10 σ => wX6_tells_l197 (v + 1) a1 a2 a3 a4 a5 a7 a8 a9 a10 σ Q) Q := by
          intro s1 es x36 e36 x37 e37 x34 e
          rw [e36, e37, e, es, nI_1, e34]
          exact ih (c + 1) _ (nI v) U (by omega) hU e1' e2' e3'
        have l10 : (10 : Int32) ≤ nI v ↔ 10 ≤ v := by rw [show (10 : Int32) = nI 10 from rfl, nI_leI (by decide) (by omega)]
        refine ⟨fun z => go 0 ?_, fun z => go _ ?_⟩
        · unfold mb; rw [if_pos (l10.mp z)]
        · unfold mb; rw [if_neg (fun y => z (l10.mpr y))]
  have hl : (if leU R ch = -1 then -1 else leU R ch) = L := by
    by_cases z : leU R ch = -1
    · rw [if_pos z, ← hL, z]
    · rw [if_neg z]; exact hL
  exact ⟨ch + 1, main ch 0 0 (-1) S (Nat.le_refl _) h0 (by rw [Int32.zero_or]; exact hB) (by rw [Nat.zero_add]; exact hC) hl⟩
