/-! told, set -/
/-- whether there is such a one -/
def TH (n j : Nat) (a : Int32) : Prop := j = 0 ∨ ((j = 1 ∨ j = 2) ∧ 0 ≤ a.toInt ∧ a.toInt < 64) ∨ (j = 3 ∧ 0 ≤ a.toInt ∧ a.toInt < 4) ∨ (4 ≤ j ∧ 0 ≤ a.toInt ∧ a.toInt < n)
theorem nIc {j : Nat} (hj : j ≤ 11) : ∀ i, i ≤ 11 → (nI j = nI i ↔ j = i) := fun i hi => nI_eq (by omega) (by omega)
theorem c_there {X : St} {n j : Nat} {a : Int32} {Q : Int32 → St → Prop} (hn : n ≤ 5) (hj : j ≤ 11) (e5 : gI X 1 5 = nI n) (h1 : TH n j a → Q 1 X) (h0 : ¬ TH n j a → Q 0 X) : wX5_isThere (nI j) a X Q := by
  have c := nIc hj
  have y64 : (64 : Int32).toInt = 64 := rfl
  have y4 : (4 : Int32).toInt = 4 := rfl
  have yn : (nI n).toInt = n := nI_toInt (by omega)
  unfold wX5_isThere
  rw [e5]
  unfold TH at h1 h0
  refine ⟨fun q => h1 (Or.inl ((c 0 (by decide)).mp q)), fun q => ?_, fun q => ?_, fun q => ?_, fun q0 q1 q2 q3 => ?_⟩
  · have e := (c 1 (by decide)).mp q
    exact i_isIn (fun p1 p2 => ⟨Or.inr rfl, h1 (by omega)⟩) (fun p => ⟨Or.inl rfl, h0 (by omega)⟩)
  · have e := (c 2 (by decide)).mp q
    exact i_isIn (fun p1 p2 => ⟨Or.inr rfl, h1 (by omega)⟩) (fun p => ⟨Or.inl rfl, h0 (by omega)⟩)
  · have e := (c 3 (by decide)).mp q
    exact i_isIn (fun p1 p2 => ⟨Or.inr rfl, h1 (by omega)⟩) (fun p => ⟨Or.inl rfl, h0 (by omega)⟩)
  · have n0 : ¬ j = 0 := fun z => q0 ((c 0 (by decide)).mpr z)
    have n1 : ¬ j = 1 := fun z => q1 ((c 1 (by decide)).mpr z)
    have n2 : ¬ j = 2 := fun z => q2 ((c 2 (by decide)).mpr z)
    have n3 : ¬ j = 3 := fun z => q3 ((c 3 (by decide)).mpr z)
    exact i_isIn (fun p1 p2 => ⟨Or.inr rfl, h1 (by omega)⟩) (fun p => ⟨Or.inl rfl, h0 (by omega)⟩)
theorem m_of {S : St} {n j : Nat} {a : Int32} {Q : Int32 → St → Prop} (hn : n ≤ 5) (hj : j ≤ 11) (en : gI S 16 12 = nI n) (h1 : TH n j a → Q 1 S) (h0 : ¬ TH n j a → Q 0 S) : wX6_isOf (nI j) a S Q := by
  have c := nIc hj
  have z3 : (3 : Int64).toInt = ((3 : Nat) : Int) := rfl
  have z63 : (63 : Int64).toInt = ((63 : Nat) : Int) := rfl
  have l3 : (3 : Int32) ≤ nI j ↔ 3 ≤ j := by rw [show (3 : Int32) = nI 3 from rfl, nI_leI (by decide) (by omega)]
  unfold TH at h1 h0
  refine ⟨fun q => h1 (Or.inl ((c 0 (by decide)).mp q)), fun q0 => ⟨fun q => ⟨fun q3 => ?_, fun q3 => ?_⟩, fun q => ?_⟩⟩
  · have n3 : ¬ j = 3 := fun z => q3 ((c 3 (by decide)).mpr z)
    have l := l3.mp q
    exact i_isOne hn en (fun p1 p2 => ⟨fun z => absurd z ne10, fun _ => h1 (by omega)⟩) (fun p => ⟨fun _ => h0 (by omega), fun z => absurd rfl z⟩)
  · have e := (c 3 (by decide)).mp q3
    exact i_in0 z3 (fun p1 p2 => ⟨fun z => absurd z ne10, fun _ => h1 (by omega)⟩) (fun p => ⟨fun _ => h0 (by omega), fun z => absurd rfl z⟩)
  · have n0 : ¬ j = 0 := fun z => q0 ((c 0 (by decide)).mpr z)
    have l : ¬ 3 ≤ j := fun z => q (l3.mpr z)
    exact i_in0 z63 (fun p1 p2 => ⟨fun z => absurd z ne10, fun _ => h1 (by omega)⟩) (fun p => ⟨fun _ => h0 (by omega), fun z => absurd rfl z⟩)
def figV (S : St) (j o : Nat) : Int32 := if j = 0 then gI S 16 7 else if j = 1 then gA S 16 9 o else if j = 2 then (if tb (gJ S 16 8) o = true then 1 else 0) else if j = 3 then gA S 16 10 o else gA S 16 11 (5 * o + j - 4)
def OK9 (n j : Nat) (a : Int32) (o : Nat) : Prop := j = 0 ∨ (a = nI o ∧ o < 64 ∧ (j = 3 → o < 4) ∧ (4 ≤ j → o < n))
theorem TH_o {n j : Nat} {a : Int32} (hn : n ≤ 5) (h : TH n j a) : ∃ o, OK9 n j a o := by
  unfold TH at h
  unfold OK9
  rcases h with h | h | h | h
  · exact ⟨0, Or.inl h⟩
  all_goals
    refine ⟨a.toInt.toNat, Or.inr ⟨Int32.toInt_inj.mp (by rw [nI_toInt (by omega)]; omega), by omega, by omega, by omega⟩⟩
theorem c_fig {X S : St} {n j : Nat} {a : Int32} {Q : Int32 → St → Prop} (hn : n ≤ 5) (hj : j ≤ 8) (hW : CW X 1 (gI S 16 4) n (gA S 16 9) (aM S)) {o : Nat} (ho : OK9 n j a o) (h : Q (figV S j o) X) : wX4_figure 1 (nI j) a X Q := by
  have c := nIc (j := j) (by omega)
  rcases ho with e | ⟨ea, o64, o4, o5⟩
  · subst e
    have h9 := h
    refine ⟨fun _ => ?_, fun q => absurd q (by decide), fun q => absurd q (by decide), fun q => absurd q (by decide), fun q => absurd q (by decide), fun q => absurd q (by decide), fun q => absurd q (by decide), fun q => absurd q (by decide), fun q => absurd q (by decide), fun q => absurd rfl q⟩
    rw [hW.1.2.1]
    exact h9
  · have h9 := h
    unfold figV at h9
    rw [ea]
    unfold wX4_figure
    rw [nI_clamp (n := o) (by omega)]
    have hr := fun (x : o < 5) => (hW.2.2.1 o x).1
    refine ⟨fun q => ?_, fun q => ?_, fun q => ?_, fun q => ?_, fun q => ?_, fun q => ?_, fun q => ?_, fun q => ?_, fun q => ?_, fun q0 q1 q2 q3 q4 q5 q6 q7 q8 => ?_⟩
    · have e := (c 0 (by decide)).mp q
      rw [if_pos e] at h9
      rw [hW.1.2.1]; exact h9
    · have e := (c 1 (by decide)).mp q
      rw [if_neg (by omega), if_pos e] at h9
      exact c_col o64 (hW.2.2.2 o o64).1 (hW.2.2.2 o o64).2 h9
    · have e := (c 2 (by decide)).mp q
      rw [if_neg (by omega), if_neg (by omega), if_pos e] at h9
      refine c_filled o64 hW.1.1 (fun t => ⟨fun q => absurd q ne10, fun _ => ?_⟩) (fun t => ⟨fun _ => ?_, fun q => absurd rfl q⟩)
      · have t' : tb (gJ S 16 8) o = true := t
        rw [if_pos t'] at h9; exact h9
      · have t' : ¬ tb (gJ S 16 8) o = true := by
          have : tb (gJ S 16 8) o = false := t
          rw [this]; exact Bool.false_ne_true
        rw [if_neg t'] at h9; exact h9
    · have e := (c 3 (by decide)).mp q
      rw [if_neg (by omega), if_neg (by omega), if_neg (by omega), if_pos e] at h9
      refine ⟨vp_in_nI (o4 e) (by decide), ?_⟩
      rw [(hW.2.1 o (o4 e)).1]; exact h9
    · have e := (c 4 (by decide)).mp q
      have l := o5 (by omega)
      rw [if_neg (by omega), if_neg (by omega), if_neg (by omega), if_neg (by omega)] at h9
      refine ⟨vp_in_nI (by omega) (by decide), ?_⟩
      rw [(hr (by omega)).2.1, show 5 * o = 5 * o + j - 4 by omega]; exact h9
    · have e := (c 5 (by decide)).mp q
      have l := o5 (by omega)
      rw [if_neg (by omega), if_neg (by omega), if_neg (by omega), if_neg (by omega)] at h9
      refine ⟨vp_in_nI (by omega) (by decide), ?_⟩
      rw [(hr (by omega)).2.2.1, show 5 * o + 1 = 5 * o + j - 4 by omega]; exact h9
    · have e := (c 6 (by decide)).mp q
      have l := o5 (by omega)
      rw [if_neg (by omega), if_neg (by omega), if_neg (by omega), if_neg (by omega)] at h9
      refine ⟨vp_in_nI (by omega) (by decide), ?_⟩
      rw [(hr (by omega)).2.2.2.1, show 5 * o + 2 = 5 * o + j - 4 by omega]; exact h9
    · have e := (c 7 (by decide)).mp q
      have l := o5 (by omega)
      rw [if_neg (by omega), if_neg (by omega), if_neg (by omega), if_neg (by omega)] at h9
      refine ⟨vp_in_nI (by omega) (by decide), ?_⟩
      rw [(hr (by omega)).2.2.2.2, show 5 * o + 3 = 5 * o + j - 4 by omega]; exact h9
    · have e := (c 8 (by decide)).mp q
      have l := o5 (by omega)
      rw [if_neg (by omega), if_neg (by omega), if_neg (by omega), if_neg (by omega)] at h9
      refine ⟨vp_in_nI (by omega) (by decide), ?_⟩
      rw [(hr (by omega)).1, show 5 * o + 4 = 5 * o + j - 4 by omega]; exact h9
    · exfalso
      have n0 : ¬ j = 0 := fun z => q0 ((c 0 (by decide)).mpr z)
      have n1 : ¬ j = 1 := fun z => q1 ((c 1 (by decide)).mpr z)
      have n2 : ¬ j = 2 := fun z => q2 ((c 2 (by decide)).mpr z)
      have n3 : ¬ j = 3 := fun z => q3 ((c 3 (by decide)).mpr z)
      have n4 : ¬ j = 4 := fun z => q4 ((c 4 (by decide)).mpr z)
      have n5 : ¬ j = 5 := fun z => q5 ((c 5 (by decide)).mpr z)
      have n6 : ¬ j = 6 := fun z => q6 ((c 6 (by decide)).mpr z)
      have n7 : ¬ j = 7 := fun z => q7 ((c 7 (by decide)).mpr z)
      have n8 : ¬ j = 8 := fun z => q8 ((c 8 (by decide)).mpr z)
      omega
theorem rowI {o j : Nat} (hj : 4 ≤ j) : ((5 * nI o) + nI j) - 4 = nI (5 * o + j - 4) := by
  rw [mul5, nI_add]
  exact nI_sub (a := 4) (by omega)
theorem m_told8 {S : St} {n j : Nat} {a : Int32} {Q : Int32 → St → Prop} (hn : n ≤ 5) (hj : j ≤ 8) (en : gI S 16 12 = nI n) {o : Nat} (ht : TH n j a) (ho : OK9 n j a o) (h : Q (figV S j o) S) : wX6_told a (nI j) S Q := by
  have c := nIc (j := j) (by omega)
  have z11 : (11 : Int64).toInt = ((11 : Nat) : Int) := rfl
  have l4 : (4 : Int32) ≤ nI j ↔ 4 ≤ j := by rw [show (4 : Int32) = nI 4 from rfl, nI_leI (by decide) (by omega)]
  have l9 : (9 : Int32) ≤ nI j ↔ 9 ≤ j := by rw [show (9 : Int32) = nI 9 from rfl, nI_leI (by decide) (by omega)]
  refine i_in_y z11 (by decide) ⟨j, by omega, rfl⟩ ⟨fun q => absurd q ne10, fun _ => m_of hn (by omega) en (fun _ => ⟨fun _ => ?_, fun q => absurd q ne10⟩) (fun q => absurd ht q)⟩
  rcases ho with e | ⟨ea, o64, o4, o5⟩
  · subst e
    refine ⟨fun q => absurd (l4.mp q) (by decide), fun _ => ⟨fun q => absurd rfl q, fun _ => h⟩⟩
  · have h9 := h
    unfold figV at h9
    rw [ea]
    refine ⟨fun q => ⟨fun q2 => absurd (l9.mp q2) (by omega), fun _ => ?_⟩, fun q => ⟨fun q0 => ⟨fun q1 => ⟨fun q2 => ?_, fun q2 => ?_⟩, fun q1 => ?_⟩, fun q0 => ?_⟩⟩
    · have l := l4.mp q
      have l5 := o5 l
      rw [if_neg (by omega), if_neg (by omega), if_neg (by omega), if_neg (by omega)] at h9
      rw [rowI l, nI_clamp (by omega)]
      exact ⟨vp_in_nI (by omega) (by decide), h9⟩
    · have n0 : ¬ j = 0 := fun z => q0 ((c 0 (by decide)).mpr z)
      have n1 : ¬ j = 1 := fun z => q1 ((c 1 (by decide)).mpr z)
      have n2 : ¬ j = 2 := fun z => q2 ((c 2 (by decide)).mpr z)
      have l : ¬ 4 ≤ j := fun z => q (l4.mpr z)
      have e3 : j = 3 := by omega
      rw [if_neg n0, if_neg n1, if_neg n2, if_pos e3] at h9
      rw [nI_clamp (by omega)]
      exact ⟨vp_in_nI (o4 e3) (by decide), h9⟩
    · have e2 := (c 2 (by decide)).mp q2
      rw [if_neg (by omega), if_neg (by omega), if_pos e2] at h9
      refine i_has o64 (fun t => ⟨fun q => absurd q ne10, fun _ => ?_⟩) (fun t => ⟨fun _ => ?_, fun q => absurd rfl q⟩)
      · rw [if_pos t] at h9; exact h9
      · rw [if_neg (by rw [t]; exact Bool.false_ne_true)] at h9; exact h9
    · have e1 := (c 1 (by decide)).mp q1
      rw [if_neg (by omega), if_pos e1] at h9
      rw [nI_clamp (by omega)]
      exact ⟨vp_in_nI o64 (by decide), h9⟩
    · have e0 := (c 0 (by decide)).mp q0
      rw [if_pos e0] at h9
      exact h9
theorem FrV_2 {X Y : St} (h : FrV X Y) : FrC 2 X Y := FrV_C h
theorem FrP_L {S T : St} (h : FrP S T) : FrL S T := ⟨h.1, fun f _ => h.2.1 f, fun f h1 _ => h.2.2 f h1⟩
theorem sim2 : Sim2 (Rel TR0) := by
  intro X S a b hR
  obtain ⟨f, n, d, hn, hd, en, ed, hC, hM, hW, hok, hid⟩ := ctx hR
  have y11 : (11 : Int32).toInt = 11 := rfl
  have z11 : (11 : Int64).toInt = ((11 : Nat) : Int) := rfl
  have bad : ¬ rg b 11 → wX6_told a b S (fun r1 S1 => -1000 = r1 ∧ Rel TR0 X S1) := fun hx => i_in0 z11 (fun g1 g2 => absurd (rg_of g1 g2 (by decide)) hx) (fun _ => ⟨fun _ => ⟨rfl, hR⟩, fun q => absurd rfl q⟩)
  refine ⟨fun q => bad (fun g => nin_lt q (rg_in g (by decide)).1), fun q1 => ⟨fun q => bad (fun g => nin_gt rfl (by decide) q (rg_in g (by decide)).2), fun q2 => ?_⟩⟩
  obtain ⟨j, hj, eb⟩ : rg b 11 := in_rg rfl (by decide) q1 q2
  rw [eb]
  have c := nIc hj
  refine c_there hn hj (CW_n hW) (fun ht => ⟨fun _ => ?_, fun q => absurd q ne10⟩) (fun ht => ⟨fun q => absurd rfl q, fun _ => ?_⟩)
  · obtain ⟨o, ho⟩ := TH_o hn ht
    have hi9 : 9 ≤ j → ∃ p, p < n ∧ a = nI p := by
      intro h9
      rcases ho with e | ⟨ea, _, _, o5⟩
      · omega
      · exact ⟨o, o5 (by omega), ea⟩
    have l4 : (4 : Int32) ≤ nI j ↔ 4 ≤ j := by rw [show (4 : Int32) = nI 4 from rfl, nI_leI (by decide) (by omega)]
    have l9 : (9 : Int32) ≤ nI j ↔ 9 ≤ j := by rw [show (9 : Int32) = nI 9 from rfl, nI_leI (by decide) (by omega)]
    have mo : ∀ Q : Int32 → St → Prop, 9 ≤ j → ((¬ nI j = 9 → ((¬ nI j = 10 → wX6_turnsOf a S Q) ∧ (nI j = 10 → wX6_givesOf a S Q))) ∧ (nI j = 9 → wX6_needsOf a S Q)) → wX6_told a (nI j) S Q := by
      intro Q h9 hh
      refine i_in_y z11 (by decide) ⟨j, by omega, rfl⟩ ⟨fun q => absurd q ne10, fun _ => m_of hn (by omega) en (fun _ => ⟨fun _ => ⟨fun _ => ⟨fun _ => hh, fun q => absurd (l9.mpr h9) q⟩, fun q => absurd (l4.mpr (by omega)) q⟩, fun q => absurd q ne10⟩) (fun q => absurd ht q)⟩
    refine ⟨fun q => ?_, fun q => ?_, fun q => ?_, fun q9 q10 q11 => ?_⟩
    · have e := (c 9 (by decide)).mp q
      obtain ⟨p, hp, ea⟩ := hi9 (by omega)
      have e9 : nI j = 9 := q
      rw [ea] at mo ⊢
      refine c_need (by omega) hW hC (fun X' F => mo _ (by omega) ⟨fun z => absurd e9 z, fun _ => m_need (by omega) hM (fun S' FS => ⟨rfl, Rel_CL hR (FrV_2 F) (FrP_L FS)⟩)⟩)
    · have e := (c 10 (by decide)).mp q
      obtain ⟨p, hp, ea⟩ := hi9 (by omega)
      have e9 : ¬ nI j = 9 := by rw [q]; decide
      rw [ea] at mo ⊢
      refine c_give (by omega) (by unfold aM; rw [ed, nI_toInt (by omega)]; omega) hW hC (fun X' F => mo _ (by omega) ⟨fun _ => ⟨fun z => absurd q z, fun _ => m_give (by omega) hM (fun S' FS => ⟨rfl, Rel_CL hR (FrV_2 F) (FrP_L FS)⟩)⟩, fun z => absurd z e9⟩)
    · have e := (c 11 (by decide)).mp q
      obtain ⟨p, hp, ea⟩ := hi9 (by omega)
      have e9 : ¬ nI j = 9 := by rw [q]; decide
      have e10 : ¬ nI j = 10 := by rw [q]; decide
      rw [ea] at mo ⊢
      refine c_turn (by omega) hW hC (fun X' F => mo _ (by omega) ⟨fun _ => ⟨fun _ => m_turn (by omega) hM (fun S' FS => ⟨rfl, Rel_CL hR (FrV_2 F) (FrP_L FS)⟩), fun z => absurd z e10⟩, fun z => absurd z e9⟩)
    · have n9 : ¬ j = 9 := fun z => q9 ((c 9 (by decide)).mpr z)
      have n10 : ¬ j = 10 := fun z => q10 ((c 10 (by decide)).mpr z)
      have n11 : ¬ j = 11 := fun z => q11 ((c 11 (by decide)).mpr z)
      exact c_fig hn (by omega) hW ho (m_told8 hn (by omega) en ht ho ⟨rfl, hR⟩)
  · exact i_in_y z11 (by decide) ⟨j, by omega, rfl⟩ ⟨fun q => absurd q ne10, fun _ => m_of hn (by omega) en (fun q => absurd q ht) (fun _ => ⟨fun q => absurd rfl q, fun _ => ⟨rfl, hR⟩⟩)⟩
/-! set -/
theorem grt_ok : ∀ j, j ≤ 7 → grt j = nI ([999, 3, 1, 99, 9, 3, 99, 99].getD j 0) ∧ [999, 3, 1, 99, 9, 3, 99, 99].getD j 0 ≤ 999 := by decide
theorem m_most {S : St} {j : Nat} {Q : Int32 → St → Prop} (hj : j ≤ 7) (h : Q (grt j) S) : wX6_mostOf (nI j) S Q := by
  unfold wX6_mostOf
  match j, hj with
  | 0, _ | 1, _ | 2, _ | 3, _ | 4, _ | 5, _ | 6, _ | 7, _ =>
    refine ⟨fun a => ⟨fun b => ?_, fun b => ⟨fun c => ⟨fun d => ⟨fun e => ?_, fun e => ?_⟩, fun d => ?_⟩, fun c => ?_⟩⟩, fun a => ?_⟩
    all_goals first
      | exact h
      | exact absurd rfl a
      | exact absurd a (by decide)
      | exact absurd b (by decide)
      | exact absurd rfl b
      | exact absurd c (by decide)
      | exact absurd rfl c
      | exact absurd d (by decide)
      | exact absurd rfl d
      | exact absurd e (by decide)
      | exact absurd rfl e
theorem Rel_set {X Y S T : St} {TR : OT → Int32 → (Nat → Int32) → Prop} (hR : Rel TR X S) (h : ∀ q, ¬ q = 1 → Y q = X q) (gi : ∀ f, ¬ f = 7 → gI T 16 f = gI S 16 f) (ga : ∀ f, ¬ f = 9 → ¬ f = 10 → ¬ f = 11 → gA T 16 f = gA S 16 f) (gj : ∀ f, ¬ f = 8 → gJ T 16 f = gJ S 16 f) (hW : RW Y T) : Rel TR Y T := by
  obtain ⟨-, hI, hT, hP, hSh, hid⟩ := hR
  refine ⟨hW, ?_, ?_, ?_, ?_, ?_⟩
  · exact RI_cong (gI_same (h 0 (by decide))) (h 3 (by decide)) (gj 38 (by decide)) (gi 36 (by decide)) (gi 37 (by decide)) (gi 35 (by decide)) (ga 34 (by decide) (by decide) (by decide)) (ga 32 (by decide) (by decide) (by decide)) (ga 33 (by decide) (by decide) (by decide)) hI
  · exact RT_cong (gI_same (h 4 (by decide))) (fun t ht => h _ (by omega)) (gi 3 (by decide)) (gi 4 (by decide)) (gi 35 (by decide)) (gi 37 (by decide)) (ga 2 (by decide) (by decide) (by decide)) (ga 1 (by decide) (by decide) (by decide)) hT
  · exact RP_cong (h 5 (by decide)) (gi 6 (by decide)) (ga 5 (by decide) (by decide) (by decide)) hP
  · exact RSh_cong (fun s hs => h _ (by omega)) (ga 39 (by decide) (by decide) (by decide)) (ga 40 (by decide) (by decide) (by decide)) (ga 41 (by decide) (by decide) (by decide)) (ga 42 (by decide) (by decide) (by decide)) hSh
  · rw [gi 13 (by decide)]; exact hid
theorem lsh_0 {o : Nat} (h : o < 64) : lsh ((0 : Int32).toInt64) (nI o) = 0 := by
  have : ∀ o, o < 64 → lsh ((0 : Int32).toInt64) (nI o) = 0 := by decide +kernel
  exact this o h
theorem sim0 {TR : OT → Int32 → (Nat → Int32) → Prop} : Sim0 (Rel TR) := by
  intro X S a b v hR
  obtain ⟨rW, -⟩ := id hR
  obtain ⟨n, hn, en⟩ := rW.1.1.2.2.2.2
  have hW : CW X 1 (gI S 16 4) n (gA S 16 9) (aM S) := by
    unfold CW aM
    rw [← en]
    exact rW.1
  have hd := rW.2
  have z7 : (7 : Int64).toInt = ((7 : Nat) : Int) := rfl
  have bad : ¬ rg a 7 → wX6_set a b v S (fun r1 S1 => -2 = r1 ∧ Rel TR X S1) := fun hx => i_in0 z7 (fun g1 g2 => absurd (rg_of g1 g2 (by decide)) hx) (fun _ => ⟨fun _ => ⟨rfl, hR⟩, fun q => absurd rfl q⟩)
  refine ⟨fun q => bad (fun g => nin_lt q (rg_in g (by decide)).1), fun q1 => ⟨fun q => bad (fun g => nin_gt rfl (by decide) q (rg_in g (by decide)).2), fun q2 => ?_⟩⟩
  obtain ⟨j, hj, ea⟩ : rg a 7 := in_rg rfl (by decide) q1 q2
  rw [ea]
  have c := nIc (j := j) (by omega)
  have eg := grt_ok j hj
  obtain ⟨g, hg⟩ : ∃ g, [999, 3, 1, 99, 9, 3, 99, 99].getD j 0 = g := ⟨_, rfl⟩
  rw [hg] at eg
  have zg : ((grt j).toInt64).toInt = ((g : Nat) : Int) := by rw [i64, eg.1, nI_toInt (by omega)]
  have pre : ∀ Q : Int32 → St → Prop, TH n j b → wX6_in (v.toInt64) 0 ((grt j).toInt64) S (fun r10 σ9 => ((¬ r10 = 0 → wX6_told b (nI j) σ9 (fun r13 σ12 => wX6_lays (nI j) b v σ12 (fun σ14 => Q r13 σ14))) ∧ (r10 = 0 → Q (-2) σ9))) → wX6_set (nI j) b v S Q := by
    intro Q ht hh
    refine i_in_y z7 (by decide) ⟨j, hj, rfl⟩ ⟨fun q => absurd q ne10, fun _ => m_of hn (by omega) en (fun _ => ⟨fun q => absurd q ne10, fun _ => m_most hj hh⟩) (fun q => absurd ht q)⟩
  refine c_there hn (by omega) (CW_n hW) (fun ht => ⟨fun q => absurd q ne10, fun _ => ?_⟩) (fun ht => ⟨fun _ => ?_, fun q => absurd rfl q⟩)
  · have no : ¬ rg v g → wX6_set (nI j) b v S (fun r1 S1 => -2 = r1 ∧ Rel TR X S1) := fun hx => pre _ ht (i_in0 zg (fun g1 g2 => absurd (rg_of g1 g2 (by omega)) hx) (fun _ => ⟨fun q => absurd rfl q, fun _ => ⟨rfl, hR⟩⟩))
    rw [nI_clamp (n := j) (by omega), eg.1]
    refine ⟨fun q => no (fun x => nin_lt q (rg_in x (by omega)).1), fun q3 => ⟨vp_in_nI (by omega) (by decide), fun q4 => ?_, fun q => no (fun x => nin_gtl rfl (by omega) q (rg_in x (by omega)).2)⟩⟩
    have rv : rg v g := in_rgl rfl (by omega) q3 q4
    obtain ⟨o, ho⟩ := TH_o hn ht
    refine c_fig hn (by omega) hW ho ?_
    have fin : ∀ X2, (∀ q, ¬ q = 1 → X2 q = X q) → (wX6_lays (nI j) b v S (fun T => RW X2 T ∧ (∀ f, ¬ f = 7 → gI T 16 f = gI S 16 f) ∧ (∀ f, ¬ f = 9 → ¬ f = 10 → ¬ f = 11 → gA T 16 f = gA S 16 f) ∧ ∀ f, ¬ f = 8 → gJ T 16 f = gJ S 16 f)) → wX6_set (nI j) b v S (fun r1 S1 => figV S j o = r1 ∧ Rel TR X2 S1) := by
      intro X2 hx hl
      refine pre _ ht (i_in_y zg (by omega) rv ⟨fun _ => m_told8 hn (by omega) en ht ho ?_, fun q => absurd q ne10⟩)
      have hc : ∀ T, (RW X2 T ∧ (∀ f, ¬ f = 7 → gI T 16 f = gI S 16 f) ∧ (∀ f, ¬ f = 9 → ¬ f = 10 → ¬ f = 11 → gA T 16 f = gA S 16 f) ∧ ∀ f, ¬ f = 8 → gJ T 16 f = gJ S 16 f) → (figV S j o = figV S j o ∧ Rel TR X2 T) := fun T h => ⟨rfl, Rel_set hR hx h.2.1 h.2.2.1 h.2.2.2 h.1⟩
      refine ⟨fun a => ⟨fun b => ⟨fun c => ⟨fun d => ⟨fun e σ s => hc σ (((((hl.1 a).1 b).1 c).1 d).1 e σ s), fun e => ⟨(((((hl.1 a).1 b).1 c).1 d).2 e).1, fun σ s => hc σ ((((((hl.1 a).1 b).1 c).1 d).2 e).2 σ s)⟩⟩, fun d => ⟨((((hl.1 a).1 b).1 c).2 d).1, fun σ s => hc σ (((((hl.1 a).1 b).1 c).2 d).2 σ s)⟩⟩, fun c σ s => hc σ ((((hl.1 a).1 b).2 c) σ s)⟩, fun b => ⟨(((hl.1 a).2 b)).1, fun σ s => hc σ ((((hl.1 a).2 b)).2 σ s)⟩⟩, fun a σ s => hc σ ((hl.2 a) σ s)⟩
    have WX : WRel X 1 (gJ S 16 8) (gI S 16 7) (gI S 16 4) (gI S 16 12) (gA S 16 10) (gA S 16 11) (gA S 16 9) := rW.1
    have l9 : ¬ (9 : Int32) ≤ nI j := by rw [show (9 : Int32) = nI 9 from rfl, nI_leI (by decide) (by omega)]; omega
    have row : ∀ X2, 4 ≤ j → o < n → b = nI o → (∀ q, ¬ q = 1 → X2 q = X q) → WRel X2 1 (gJ S 16 8) (gI S 16 7) (gI S 16 4) (gI S 16 12) (gA S 16 10) (upd (gA S 16 11) (5 * o + j - 4) v) (gA S 16 9) → wX6_set (nI j) b v S (fun r1 S1 => figV S j o = r1 ∧ Rel TR X2 S1) := by
      intro X2 h4 ho5 eb hx hw
      have m0 : ¬ nI j = 0 := fun z => by have := (c 0 (by decide)).mp z; omega
      have m1 : ¬ nI j = 1 := fun z => by have := (c 1 (by decide)).mp z; omega
      have m2 : ¬ nI j = 2 := fun z => by have := (c 2 (by decide)).mp z; omega
      have m3 : ¬ nI j = 3 := fun z => by have := (c 3 (by decide)).mp z; omega
      refine fin X2 hx ⟨fun _ => ⟨fun _ => ⟨fun _ => ⟨fun _ => ⟨fun q => absurd q l9, fun _ => ?_⟩, fun q => absurd q m3⟩, fun q => absurd q m2⟩, fun q => absurd q m1⟩, fun q => absurd q m0⟩
      rw [eb, rowI h4, nI_clamp (by omega)]
      refine ⟨vp_in_nI (by omega) (by decide), fun T s => ⟨⟨?_, ?_⟩, fun f _ => by rw [s, gI_sA], fun f _ _ h11 => by rw [s, gA_sAf _ _ _ _ _ (by omega)], fun f _ => by rw [s, gJ_sA]⟩⟩
      · rw [s, gJ_sA, gI_sA, gI_sA, gI_sA, gA_sAf _ _ _ _ _ (by decide), gA_sAs, gA_sAf _ _ _ _ _ (by decide)]
        exact hw
      · rw [s, gI_sA]; exact hd
    rcases ho with e0 | ⟨eb, o64, o4, o5⟩
    · subst e0
      have eg9 : g = 999 := hg.symm
      refine ⟨fun _ σ2 s2 => ?_, fun q => absurd q (by decide), fun q => absurd q (by decide), fun q => absurd q (by decide), fun q => absurd q (by decide), fun q => absurd q (by decide), fun q => absurd q (by decide), fun q => absurd q (by decide), fun q => absurd rfl q⟩
      refine fin σ2 (fun q hq => by rw [s2, o_sI hq]) ⟨fun q => absurd rfl q, fun _ T s => ⟨⟨?_, ?_⟩, fun f hf => by rw [s, gI_sIf _ _ _ _ (by omega)], fun f _ _ _ => by rw [s, gA_sI], fun f _ => by rw [s, gJ_sI]⟩⟩
      · rw [s, gJ_sI, gI_sIs, gI_sIf _ _ _ _ (by decide), gI_sIf _ _ _ _ (by decide), gA_sI, gA_sI, gA_sI, s2]
        exact WRel_day WX
      · rw [s, gI_sIs, ← eg9]; exact rv
    · rw [eb] at fin row ⊢
      unfold wX4_change
      rw [nI_clamp (n := o) (by omega)]
      refine ⟨fun q σ2 s2 => ?_, fun q => ?_, fun q => ?_, fun q => ?_, fun q => ?_, fun q => ?_, fun q => ?_, fun q => ?_, fun q0 q1 q2 q3 q4 q5 q6 q7 => ?_⟩
      · have e := (c 0 (by decide)).mp q
        subst e
        have eg9 : g = 999 := hg.symm
        refine fin σ2 (fun q hq => by rw [s2, o_sI hq]) ⟨fun q => absurd rfl q, fun _ T s => ⟨⟨?_, ?_⟩, fun f hf => by rw [s, gI_sIf _ _ _ _ (by omega)], fun f _ _ _ => by rw [s, gA_sI], fun f _ => by rw [s, gJ_sI]⟩⟩
        · rw [s, gJ_sI, gI_sIs, gI_sIf _ _ _ _ (by decide), gI_sIf _ _ _ _ (by decide), gA_sI, gA_sI, gA_sI, s2]
          exact WRel_day WX
        · rw [s, gI_sIs, ← eg9]; exact rv
      · have e := (c 1 (by decide)).mp q
        subst e
        have eg9 : g = 3 := hg.symm
        refine c_wish o64 (by rw [← eg9]; exact rv) WX (fun Y FY WY => fin Y FY ⟨fun _ => ⟨fun q => absurd rfl q, fun _ => ?_⟩, fun q => absurd q (by decide)⟩)
        rw [nI_clamp (n := o) (by omega)]
        refine ⟨vp_in_nI o64 (by decide), fun T s => ⟨⟨?_, ?_⟩, fun f _ => by rw [s, gI_sA], fun f h9 _ _ => by rw [s, gA_sAf _ _ _ _ _ (by omega)], fun f _ => by rw [s, gJ_sA]⟩⟩
        · rw [s, gJ_sA, gI_sA, gI_sA, gI_sA, gA_sAf _ _ _ _ _ (by decide), gA_sAf _ _ _ _ _ (by decide), gA_sAs]
          exact WY
        · rw [s, gI_sA]; exact hd
      · have e := (c 2 (by decide)).mp q
        subst e
        have eg9 : g = 1 := hg.symm
        have fl : ∀ (X2 : St) (x : Int64), (∀ q, ¬ q = 1 → X2 q = X q) → WRel X2 1 x (gI S 16 7) (gI S 16 4) (gI S 16 12) (gA S 16 10) (gA S 16 11) (gA S 16 9) → ((gJ S 16 8 &&& ((lsh 1 (nI o)) ^^^ (-1))) ||| (lsh (v.toInt64) (nI o))) = x → wX6_set (nI 2) (nI o) v S (fun r1 S1 => figV S 2 o = r1 ∧ Rel TR X2 S1) := by
          intro X2 x hx hw ex
          refine fin X2 hx ⟨fun _ => ⟨fun _ => ⟨fun q => absurd rfl q, fun _ T s => ?_⟩, fun q => absurd q (by decide)⟩, fun q => absurd q (by decide)⟩
          rw [ex] at s
          refine ⟨⟨?_, ?_⟩, fun f _ => by rw [s, gI_sJ], fun f _ _ _ => by rw [s, gA_sJ], fun f h8 => by rw [s, gJ_sJf _ _ _ _ (by omega)]⟩
          · rw [s, gJ_sJs, gI_sJ, gI_sJ, gI_sJ, gA_sJ, gA_sJ, gA_sJ]
            exact hw
          · rw [s, gI_sJ]; exact hd
        have hfl : gJ X 1 1 = gJ S 16 8 := WX.1.1
        refine ⟨fun z σ7 s7 => fl σ7 (gJ X 1 1 &&& (lsh 1 (nI o) ^^^ -1)) (fun q hq => by rw [s7, o_sJ hq]) (by rw [s7]; exact WRel_filled WX) ?_, fun z σ7 s7 => fl σ7 (gJ X 1 1 ||| lsh 1 (nI o)) (fun q hq => by rw [s7, o_sJ hq]) (by rw [s7]; exact WRel_filled WX) ?_⟩
        · obtain ⟨i, hi, ev⟩ := rv
          have i0 : i = 0 := by
            by_cases y : i = 1
            · exact absurd (by rw [ev, y]; rfl) z
            · omega
          have ev0 : v = 0 := by rw [ev, i0]; rfl
          rw [ev0, lsh_0 o64, hfl]
          apply tb_ext
          intro t ht
          rw [tb_or, tb_0, Bool.or_false]
        · rw [z, hfl]
          apply tb_ext
          intro t ht
          have e1 : lsh ((1 : Int32).toInt64) (nI o) = lsh 1 (nI o) := rfl
          rw [tb_or, tb_and, tb_not _ ht, e1, tb_lsh o64, tb_or, tb_lsh o64]
          cases tb (gJ S 16 8) t <;> cases decide (o = t) <;> rfl
      · have e := (c 3 (by decide)).mp q
        subst e
        have eg9 : g = 99 := hg.symm
        have o4' := o4 rfl
        refine ⟨vp_in_nI o4' (by decide), fun σ10 s10 => fin σ10 (fun q hq => by rw [s10, o_sA hq]) ⟨fun _ => ⟨fun _ => ⟨fun _ => ⟨fun q => absurd rfl q, fun _ => ?_⟩, fun q => absurd q (by decide)⟩, fun q => absurd q (by decide)⟩, fun q => absurd q (by decide)⟩⟩
        rw [nI_clamp (n := o) (by omega)]
        refine ⟨vp_in_nI o4' (by decide), fun T s => ⟨⟨?_, ?_⟩, fun f _ => by rw [s, gI_sA], fun f _ h10 _ => by rw [s, gA_sAf _ _ _ _ _ (by omega)], fun f _ => by rw [s, gJ_sA]⟩⟩
        · rw [s, gJ_sA, gI_sA, gI_sA, gI_sA, gA_sAs, gA_sAf _ _ _ _ _ (by decide), gA_sAf _ _ _ _ _ (by decide), s10]
          exact WRel_box WX (by rw [← eg9]; exact rv)
        · rw [s, gI_sA]; exact hd
      · have e := (c 4 (by decide)).mp q
        subst e
        have eg9 : g = 9 := hg.symm
        refine ⟨vp_in_nI (by have := o5 (by decide); omega) (by decide), fun σ s => row σ (by decide) (o5 (by decide)) rfl (fun q hq => by rw [s, o_sA hq]) ?_⟩
        rw [s]; exact WRel_number WX (by rw [← eg9]; exact rv)
      · have e := (c 5 (by decide)).mp q
        subst e
        have eg9 : g = 3 := hg.symm
        refine ⟨vp_in_nI (by have := o5 (by decide); omega) (by decide), fun σ s => row σ (by decide) (o5 (by decide)) rfl (fun q hq => by rw [s, o_sA hq]) ?_⟩
        rw [s]; exact WRel_at WX (by rw [← eg9]; exact rv)
      · have e := (c 6 (by decide)).mp q
        subst e
        have eg9 : g = 99 := hg.symm
        refine ⟨vp_in_nI (by have := o5 (by decide); omega) (by decide), fun σ s => row σ (by decide) (o5 (by decide)) rfl (fun q hq => by rw [s, o_sA hq]) ?_⟩
        rw [s]; exact WRel_looked WX (by rw [← eg9]; exact rv)
      · have e := (c 7 (by decide)).mp q
        subst e
        have eg9 : g = 99 := hg.symm
        refine ⟨vp_in_nI (by have := o5 (by decide); omega) (by decide), fun σ s => row σ (by decide) (o5 (by decide)) rfl (fun q hq => by rw [s, o_sA hq]) ?_⟩
        rw [s]; exact WRel_gave WX (by rw [← eg9]; exact rv)
      · exfalso
        have n0 : ¬ j = 0 := fun z => q0 ((c 0 (by decide)).mpr z)
        have n1 : ¬ j = 1 := fun z => q1 ((c 1 (by decide)).mpr z)
        have n2 : ¬ j = 2 := fun z => q2 ((c 2 (by decide)).mpr z)
        have n3 : ¬ j = 3 := fun z => q3 ((c 3 (by decide)).mpr z)
        have n4 : ¬ j = 4 := fun z => q4 ((c 4 (by decide)).mpr z)
        have n5 : ¬ j = 5 := fun z => q5 ((c 5 (by decide)).mpr z)
        have n6 : ¬ j = 6 := fun z => q6 ((c 6 (by decide)).mpr z)
        have n7 : ¬ j = 7 := fun z => q7 ((c 7 (by decide)).mpr z)
        omega
  · exact i_in_y z7 (by decide) ⟨j, hj, rfl⟩ ⟨fun q => absurd q ne10, fun _ => m_of hn (by omega) en (fun q => absurd q ht) (fun _ => ⟨fun _ => ⟨rfl, hR⟩, fun q => absurd rfl q⟩)⟩
