/-! more of the pure day -/
def EqG (r s : Nat → Int32) : Prop := ∀ k, ¬ k % 5 = 3 → r k = s k
theorem need_G {f : Nat → Int32 → Int32 → Int32 → Int32 → Int32 → Int32 → Int32} {fl : Int64} {dy : Int32} {bx r s : Nat → Int32} {p : Nat} (h : EqG r s) : needF f fl dy bx r p = needF f fl dy bx s p := by
  unfold needF sayF
  rw [h (5 * p) (by omega), h (5 * p + 1) (by omega), h (5 * p + 2) (by omega), h (5 * p + 4) (by omega)]
theorem give_G {f : Nat → Int32 → Int32 → Int32 → Int32 → Int32 → Int32 → Int32} {fl : Int64} {dy : Int32} {wt bx r s : Nat → Int32} {p : Nat} (h : EqG r s) : giveF f wt fl dy bx r p = giveF f wt fl dy bx s p := by
  unfold giveF sayF
  rw [h (5 * p) (by omega), h (5 * p + 1) (by omega), h (5 * p + 2) (by omega), h (5 * p + 4) (by omega)]
theorem turn_G {f : Nat → Int32 → Int32 → Int32 → Int32 → Int32 → Int32 → Int32} {fl : Int64} {dy : Int32} {bx r s : Nat → Int32} {p : Nat} (h : EqG r s) : turnF f fl dy bx r p = turnF f fl dy bx s p := by
  unfold turnF sayF
  rw [h (5 * p) (by omega), h (5 * p + 1) (by omega), h (5 * p + 2) (by omega), h (5 * p + 4) (by omega)]
theorem set_G {r s : Nat → Int32} {p : Nat} (h : EqG r s) : EqG (setR r p) (setR s p) := by
  intro k hk
  unfold setR upd
  rw [h (5 * p + 2) (by omega), h k hk]
theorem gav_G {r s : Nat → Int32} {sil : Int32} {gv gv' : Bool} {p : Nat} (h : EqG r s) : EqG (gavR sil gv r p) (gavR sil gv' s p) := by
  intro k hk
  have e : ∀ (g : Bool) (u : Nat → Int32), gavR sil g u p k = u k := by
    intro g u
    unfold gavR upd
    split
    · rfl
    · exact if_neg (by omega)
  rw [e, e]
  exact h k hk
theorem trn_G {r s : Nat → Int32} {t : Int32} {p : Nat} (h : EqG r s) : EqG (trnR r p t) (trnR s p t) := by
  intro k hk
  unfold trnR upd
  rw [h k hk]
def EqW (u v : Int64 × (Nat → Int32) × (Nat → Int32)) : Prop := u.1 = v.1 ∧ u.2.1 = v.2.1 ∧ EqG u.2.2 v.2.2
theorem look_G {f : Nat → Int32 → Int32 → Int32 → Int32 → Int32 → Int32 → Int32} {fl : Int64} {dy sil : Int32} {gv gv' : Bool} {wt bx r s : Nat → Int32} {p : Nat} (h : EqG r s) : EqW (lookF f wt dy sil gv p fl bx r) (lookF f wt dy sil gv' p fl bx s) := by
  have h1 := set_G (p := p) h
  unfold lookF
  rw [need_G h1, give_G h1, turn_G h1, h1 (5 * p + 2) (by omega)]
  split
  · exact ⟨rfl, rfl, h1⟩
  · split
    · exact ⟨rfl, rfl, trn_G (gav_G h1)⟩
    · exact ⟨rfl, rfl, trn_G (gav_G h1)⟩
theorem dayL_G {f : Nat → Int32 → Int32 → Int32 → Int32 → Int32 → Int32 → Int32} {dy sil : Int32} {gv gv' : Bool} {wt : Nat → Int32} : ∀ (m p : Nat) (u v : Int64 × (Nat → Int32) × (Nat → Int32)), EqW u v → EqW (dayL f wt dy sil gv m p u) (dayL f wt dy sil gv' m p v) := by
  intro m
  induction m with
  | zero => intro p u v h; exact h
  | succ m ih =>
    intro p u v h
    refine ih (p + 1) _ _ ?_
    rw [h.1, h.2.1]
    exact look_G h.2.2
theorem days_G {f : Nat → Int32 → Int32 → Int32 → Int32 → Int32 → Int32 → Int32} {sil : Int32} {gv gv' : Bool} {wt : Nat → Int32} {n : Nat} : ∀ (m : Nat) (a b : Int32 × Int64 × (Nat → Int32) × (Nat → Int32)), a.1 = b.1 → EqW a.2 b.2 → EqW (daysF f wt sil gv n m a).2 (daysF f wt sil gv' n m b).2 := by
  intro m
  induction m with
  | zero => intro a b _ h; exact h
  | succ m ih =>
    intro a b h1 h
    refine ih (dayF f wt sil gv n a) (dayF f wt sil gv' n b) ?_ ?_
    · unfold dayF; rw [h1]
    · unfold dayF; rw [h1]; exact dayL_G n 0 _ _ h
theorem days_fl {f : Nat → Int32 → Int32 → Int32 → Int32 → Int32 → Int32 → Int32} {sil : Int32} {wt : Nat → Int32} {n m : Nat} {a : Int32 × Int64 × (Nat → Int32) × (Nat → Int32)} : (daysF f wt sil false n m a).2.1 = (daysF f wt sil true n m a).2.1 := (days_G m a a rfl ⟨rfl, rfl, fun _ _ => rfl⟩).1
theorem gav_m1 {p : Nat} (hp : p < 5) (r : Nat → Int32) : gavR (-1) false r p = gavR (-1) true r p := by
  have hn : ¬ nI p = -1 := rg_ne1 (n := 5) ⟨p, by omega, rfl⟩ (by decide)
  unfold gavR
  rw [if_neg (fun q => hn q.1), if_neg (fun q => hn q.1)]
theorem dayL_m1 {f : Nat → Int32 → Int32 → Int32 → Int32 → Int32 → Int32 → Int32} {dy : Int32} {wt : Nat → Int32} : ∀ (m p : Nat) (u : Int64 × (Nat → Int32) × (Nat → Int32)), p + m ≤ 5 → dayL f wt dy (-1) false m p u = dayL f wt dy (-1) true m p u := by
  intro m
  induction m with
  | zero => intro p u _; rfl
  | succ m ih =>
    intro p u hp
    show dayL f wt dy (-1) false m (p + 1) (lookF f wt dy (-1) false p u.1 u.2.1 u.2.2) = dayL f wt dy (-1) true m (p + 1) (lookF f wt dy (-1) true p u.1 u.2.1 u.2.2)
    have e : lookF f wt dy (-1) false p u.1 u.2.1 u.2.2 = lookF f wt dy (-1) true p u.1 u.2.1 u.2.2 := by
      unfold lookF
      rw [gav_m1 (by omega)]
    rw [e]
    exact ih (p + 1) _ (by omega)
theorem day_m1 {f : Nat → Int32 → Int32 → Int32 → Int32 → Int32 → Int32 → Int32} {wt : Nat → Int32} {n : Nat} (hn : n ≤ 5) (a : Int32 × Int64 × (Nat → Int32) × (Nat → Int32)) : dayF f wt (-1) false n a = dayF f wt (-1) true n a := by
  unfold dayF
  rw [dayL_m1 n 0 a.2 (by omega)]
theorem days_m1 {f : Nat → Int32 → Int32 → Int32 → Int32 → Int32 → Int32 → Int32} {wt : Nat → Int32} {n : Nat} (hn : n ≤ 5) : ∀ (m : Nat) (a : Int32 × Int64 × (Nat → Int32) × (Nat → Int32)), daysF f wt (-1) false n m a = daysF f wt (-1) true n m a := by
  intro m
  induction m with
  | zero => intro a; rfl
  | succ m ih =>
    intro a
    show daysF f wt (-1) false n m (dayF f wt (-1) false n a) = daysF f wt (-1) true n m (dayF f wt (-1) true n a)
    rw [day_m1 hn, ih]
/-- a WHOLE picture stays -/
theorem go_full (wt : Nat → Int32) (g : Int32) : goFl wt (-1) g = -1 := by
  unfold goFl
  rw [if_neg]
  have := frm_no (P := fun c => !tb (-1) c && decide (wt c = g)) 64 0 (fun i _ hi => by rw [tb_m1 i (by omega)]; rfl)
  unfold weF
  omega
theorem look_full {f : Nat → Int32 → Int32 → Int32 → Int32 → Int32 → Int32 → Int32} {dy sil : Int32} {gv : Bool} {wt bx rw : Nat → Int32} {p : Nat} : (lookF f wt dy sil gv p (-1) bx rw).1 = -1 := by
  unfold lookF
  split
  · rfl
  · split
    · rfl
    · exact go_full wt (giveF f wt (-1) dy bx (setR rw p) p)
theorem dayL_full {f : Nat → Int32 → Int32 → Int32 → Int32 → Int32 → Int32 → Int32} {dy sil : Int32} {gv : Bool} {wt : Nat → Int32} : ∀ (m p : Nat) (u : Int64 × (Nat → Int32) × (Nat → Int32)), u.1 = -1 → (dayL f wt dy sil gv m p u).1 = -1 := by
  intro m
  induction m with
  | zero => intro p u h; exact h
  | succ m ih => intro p u h; refine ih (p + 1) _ ?_; rw [h]; exact look_full
theorem days_full {f : Nat → Int32 → Int32 → Int32 → Int32 → Int32 → Int32 → Int32} {sil : Int32} {gv : Bool} {wt : Nat → Int32} {n : Nat} : ∀ (m : Nat) (a : Int32 × Int64 × (Nat → Int32) × (Nat → Int32)), a.2.1 = -1 → (daysF f wt sil gv n m a).2.1 = -1 := by
  intro m
  induction m with
  | zero => intro a h; exact h
  | succ m ih => intro a h; exact ih _ (dayL_full n 0 a.2 h)
theorem Out_days {f : Nat → Int32 → Int32 → Int32 → Int32 → Int32 → Int32 → Int32} {sil : Int32} {gv : Bool} {wt : Nat → Int32} {n : Nat} (hn : n ≤ 5) (h : ∀ c, c < 64 → rg (wt c) 3) : ∀ (m : Nat) (a : Int32 × Int64 × (Nat → Int32) × (Nat → Int32)), Out a.2.2.1 a.2.2.2 (daysF f wt sil gv n m a).2.2.1 (daysF f wt sil gv n m a).2.2.2 := by
  intro m
  induction m with
  | zero => intro a; exact ⟨fun _ _ => rfl, fun _ _ => rfl⟩
  | succ m ih =>
    intro a
    have h1 := Out_dayL (f := f) (dy := a.1) (sil := sil) (gv := gv) h n 0 a.2 (by omega)
    have h2 := ih (dayF f wt sil gv n a)
    exact ⟨fun c hc => (h2.1 c hc).trans (h1.1 c hc), fun k hk => (h2.2 k hk).trans (h1.2 k hk)⟩
/-! laid aside -/
def Asd (S T : St) : Prop := (∀ f, ¬ f = 7 → (f < 14 ∨ 29 ≤ f) → gI T 16 f = gI S 16 f) ∧ (∀ f, ¬ f = 10 → ¬ f = 11 → ¬ f = 29 → gA T 16 f = gA S 16 f) ∧ (∀ f, ¬ f = 8 → ¬ f = 25 → ¬ f = 30 → gJ T 16 f = gJ S 16 f) ∧ ((∀ k, k < 25 → gA T 16 29 k = gA S 16 11 k) ∧ (∀ k, k < 4 → gA T 16 29 (25 + k) = gA S 16 10 k) ∧ gA T 16 29 29 = gI S 16 7 ∧ gJ T 16 30 = gJ S 16 8) ∧ Out (gA S 16 10) (gA S 16 11) (gA T 16 10) (gA T 16 11)
theorem m_asideA {S : St} {Q : St → Prop} (h : ∀ T, Asd S T → aM T = aM S → Q T) : wX6_laysAside S Q := by
  refine m_aside (fun T F h1 h2 h3 h4 => h T ⟨fun f _ hf => F.1 f hf, fun f _ _ hf => F.2.1 f hf, fun f _ h5 h6 => F.2.2 f h5 h6, ⟨h1, h2, h3, h4⟩, ⟨fun c _ => by rw [F.2.1 10 (by decide)], fun c _ => by rw [F.2.1 11 (by decide)]⟩⟩ ?_)
  unfold aM
  rw [F.1 7 (by decide), F.2.2 8 (by decide) (by decide), F.2.1 10 (by decide), F.2.1 11 (by decide)]
theorem Asd_M {S T U : St} (h : Asd S T) (g : FrM T U) (o : Out (gA T 16 10) (gA T 16 11) (gA U 16 10) (gA U 16 11)) : Asd S U := by
  refine ⟨fun f h1 h2 => (g.1 f h1 h2).trans (h.1 f h1 h2), fun f h1 h2 h3 => (g.2.1 f h1 h2).trans (h.2.1 f h1 h2 h3), fun f h1 h2 h3 => (g.2.2 f h1 h2).trans (h.2.2.1 f h1 h2 h3), ?_, ⟨fun c hc => (o.1 c hc).trans (h.2.2.2.2.1 c hc), fun c hc => (o.2 c hc).trans (h.2.2.2.2.2 c hc)⟩⟩
  rw [g.2.1 29 (by decide) (by decide), g.2.2 30 (by decide) (by decide)]
  exact h.2.2.2.1
theorem m_backA {S T : St} {Q : St → Prop} (hA : Asd S T) (h : ∀ U, FrL S U → Q U) : wX6_laysBack T Q := by
  obtain ⟨a1, a2, a3, ⟨a4, a5, a6, a7⟩, a8⟩ := hA
  refine m_back (fun U b1 b2 b3 b4 b5 b6 b7 b8 b9 => h U ⟨fun f hf => ?_, fun f hf => ?_, fun f h1 h2 => ?_⟩)
  · by_cases e : f = 7
    · rw [e, b8, a6]
    · rw [b1 f e, a1 f e hf]
  · by_cases e : f = 10
    · rw [e]
      funext k
      by_cases q : k < 4
      · rw [b6 k q, a5 k q]
      · rw [b7 k (by omega), a8.1 k (by omega)]
    · by_cases e2 : f = 11
      · rw [e2]
        funext k
        by_cases q : k < 25
        · rw [b4 k q, a4 k q]
        · rw [b5 k (by omega), a8.2 k (by omega)]
      · rw [b2 f e e2, a2 f e e2 hf]
  · by_cases e : f = 8
    · rw [e, b9, a7]
    · rw [b3 f e, a3 f e h1 h2]
theorem Out_of {S T U : St} (h : aM T = aM S) {b : Int32 × Int64 × (Nat → Int32) × (Nat → Int32)} (e : aM U = b) (o : Out (aM T).2.2.1 (aM T).2.2.2 b.2.2.1 b.2.2.2) : Out (gA T 16 10) (gA T 16 11) (gA U 16 10) (gA U 16 11) := by
  rw [← e] at o
  exact o
theorem FrL_w {S T : St} (h : FrL S T) : gA T 16 9 = gA S 16 9 ∧ gI T 16 4 = gI S 16 4 ∧ gA T 16 2 = gA S 16 2 ∧ gA T 16 1 = gA S 16 1 ∧ gI T 16 12 = gI S 16 12 ∧ gI T 16 13 = gI S 16 13 ∧ aM T = aM S := by
  refine ⟨h.2.1 9 (by decide), h.1 4 (by decide), h.2.1 2 (by decide), h.2.1 1 (by decide), h.1 12 (by decide), h.1 13 (by decide), ?_⟩
  unfold aM
  rw [h.1 7 (by decide), h.2.2 8 (by decide) (by decide), h.2.1 10 (by decide), h.2.1 11 (by decide)]
theorem Asd_w {S T : St} (h : Asd S T) : gA T 16 9 = gA S 16 9 ∧ gI T 16 4 = gI S 16 4 ∧ gA T 16 2 = gA S 16 2 ∧ gA T 16 1 = gA S 16 1 ∧ gI T 16 12 = gI S 16 12 ∧ gI T 16 13 = gI S 16 13 := ⟨h.2.1 9 (by decide) (by decide) (by decide), h.1 4 (by decide) (by decide), h.2.1 2 (by decide) (by decide) (by decide), h.2.1 1 (by decide) (by decide) (by decide), h.1 12 (by decide) (by decide), h.1 13 (by decide) (by decide)⟩
theorem MR_of {f : Nat → Int32 → Int32 → Int32 → Int32 → Int32 → Int32 → Int32} {S T : St} (h1 : gI T 16 4 = gI S 16 4) (h2 : gA T 16 2 = gA S 16 2) (h3 : gA T 16 1 = gA S 16 1) (hm : MR f S) : MR f T := by
  obtain ⟨r, g1, g2, g3⟩ := hm
  refine ⟨r, g1, by rw [h1]; exact g2, ?_⟩
  rw [h2, h3]
  exact g3
theorem MR_A {f : Nat → Int32 → Int32 → Int32 → Int32 → Int32 → Int32 → Int32} {S T : St} (h : Asd S T) (hm : MR f S) : MR f T := MR_of (Asd_w h).2.1 (Asd_w h).2.2.1 (Asd_w h).2.2.2.1 hm
theorem MR_L {f : Nat → Int32 → Int32 → Int32 → Int32 → Int32 → Int32 → Int32} {S T : St} (h : FrL S T) (hm : MR f S) : MR f T := MR_of (FrL_w h).2.1 (FrL_w h).2.2.1 (FrL_w h).2.2.2.1 hm
theorem m_fb {f : Nat → Int32 → Int32 → Int32 → Int32 → Int32 → Int32 → Int32} {S : St} {n k : Nat} {Q : Int64 → St → Prop} (hn : n ≤ 5) (hk : k < 1000) (en : gI S 16 12 = nI n) (hM : MR f S) (hok : ∀ c, c < 64 → rg (gA S 16 9 c) 3) (h : ∀ S', FrL S S' → Q (daysF f (gA S 16 9) (gI S 16 13) true n k (aM S)).2.1 S') : wX6_filledBehind (nI k) S Q := by
  refine m_asideA (fun T hA eT => ?_)
  have w := Asd_w hA
  refine m_days hn hk (by rw [w.2.2.2.2.1]; exact en) (MR_A hA hM) (by rw [w.1]; exact hok) (fun U F e x3 e3 => ?_)
  rw [w.1, w.2.2.2.2.2, eT] at e
  refine m_backA (Asd_M hA F (Out_of eT e (by rw [eT]; exact Out_days hn hok k (aM S)))) (fun V FV => ?_)
  have e9 : x3 = (daysF f (gA S 16 9) (gI S 16 13) true n k (aM S)).2.1 := by rw [e3, ← e]; rfl
  rw [e9]
  exact h V FV
/-! the class in thought -/
theorem c_think {f : Nat → Int32 → Int32 → Int32 → Int32 → Int32 → Int32 → Int32} {X : St} {n : Nat} {ru : Int32} {wt : Nat → Int32} {a : Int32 × Int64 × (Nat → Int32) × (Nat → Int32)} {Q : St → Prop} (hW : CW X 1 ru n wt a) (hM : CR f X 1) (h : ∀ X', (∀ p, ¬ p = 2 → X' p = X p) → CW X' 2 ru n wt a → CR f X' 2 → Q X') : wX5_think X Q := by
  refine i_become (by decide) (fun Y F e => h Y F (WRel_WEq e hW) ?_)
  obtain ⟨-, r, k, h1, h2, h4, h5, h6⟩ := hM
  refine ⟨Or.inr rfl, r, k, h1, h2, by rw [gI_same (F 4 (by decide))]; exact h4, by rw [e.1.2.2.1]; exact h5, ?_⟩
  rw [F (6 + r) (by omega)]
  exact h6
theorem c_fb {f : Nat → Int32 → Int32 → Int32 → Int32 → Int32 → Int32 → Int32} {X : St} {n k d : Nat} {ru sil : Int32} {wt : Nat → Int32} {a : Int32 × Int64 × (Nat → Int32) × (Nat → Int32)} {Q : Int32 → St → Prop} (hn : n ≤ 5) (hk : k ≤ 60) (hd : a.1 = nI d) (hd9 : d ≤ 1000) (hW : CW X 2 ru n wt a) (hM : CR f X 2) (h : ∀ X', FrC 2 X X' → Q (nI (pc (daysF f wt sil true n k a).2.1)) X') : wX5_filledBehind (nI k) sil X Q := by
  rw [← days_fl] at h
  have main : ∀ (m p : Nat) (T : St) (b : Int32 × Int64 × (Nat → Int32) × (Nat → Int32)), p + m = k → b.1 = nI (d + p) → FrC 2 X T → CW T 2 ru n wt b → daysF f wt sil false n m b = daysF f wt sil false n k a → wX5_filledBehind_l2 (m + 1) (nI k) sil (nI p) T Q := by
    intro m
    induction m with
    | zero =>
      intro p T b hp hb F hT e
      have ep : p = k := by omega
      subst ep
      apply wX5_filledBehind_l2_1
      refine ⟨fun _ => i_filledCells ?_, fun c => absurd (Int32.le_refl _) c⟩
      rw [hT.1.1]
      have e3 : b = daysF f wt sil false n p a := e
      rw [e3]
      exact h T F
    | succ m ih =>
      intro p T b hp hb F hT e
      apply wX5_filledBehind_l2_1
      refine ⟨fun c => absurd c (nle (by omega) (by omega)), fun _ => ?_⟩
      rw [lg_eq0, hT.1.1]
      refine ⟨fun q => i_filledCells ?_, fun q => ?_⟩
      · rw [hT.1.1, q]
        have e4 := days_full (f := f) (wt := wt) (sil := sil) (gv := false) (n := n) (m + 1) b q
        rw [e] at e4
        have h9 := h T F
        rw [e4] at h9
        exact h9
      · refine c_day hn (by rw [hb, nI_toInt (by omega)]; omega) hT (CR_C F (CW_3 hW hT) hM) (fun X' F' W' x3 e3 => ?_)
        rw [e3, nI_1]
        exact ih (p + 1) X' _ (by omega) (by rw [day_1]; exact inc_to hb) (FrC_trans F F') W' e
  exact ⟨k + 1, main k 0 X a (by omega) hd (FrC_refl 2 X) hW rfl⟩
/-! both sides -/
def TR0 (ob : OT) (sz : Int32) (by1 : Nat → Int32) : Prop := ∃ f, CEv f ob ∧ MEv f sz by1
theorem ctx {X S : St} (hR : Rel TR0 X S) : ∃ (f : Nat → Int32 → Int32 → Int32 → Int32 → Int32 → Int32 → Int32) (n d : Nat), n ≤ 5 ∧ d ≤ 999 ∧ gI S 16 12 = nI n ∧ gI S 16 7 = nI d ∧ CR f X 1 ∧ MR f S ∧ CW X 1 (gI S 16 4) n (gA S 16 9) (aM S) ∧ (∀ c, c < 64 → rg (gA S 16 9 c) 3) ∧ gI S 16 13 = -1 := by
  obtain ⟨hW, hI, hT, hP, hSh, hid⟩ := hR
  obtain ⟨k, k1, k2, e1, e2, ⟨r, hr, e3⟩, e4, e5⟩ := hT
  obtain ⟨f, hc, hm⟩ := e5 r hr
  obtain ⟨d, hd, ed⟩ := hW.2
  obtain ⟨n, hn, en⟩ := hW.1.1.2.2.2.2
  refine ⟨f, n, d, hn, hd, en, ed, ⟨Or.inl rfl, r, k, hr, k2, e1, by rw [hW.1.1.2.2.1]; exact e3, hc⟩, ⟨r, by omega, e3, hm⟩, ?_, fun c hc => (hW.1.2.2.2 c hc).1, hid⟩
  unfold CW aM
  rw [← en]
  exact hW.1
theorem Rel_CL {TR : OT → Int32 → (Nat → Int32) → Prop} {X Y S T : St} (hR : Rel TR X S) (h : FrC 2 X Y) (g : FrL S T) : Rel TR Y T := by
  obtain ⟨hW, hI, hT, hP, hSh, hid⟩ := hR
  refine ⟨?_, ?_, ?_, ?_, ?_, ?_⟩
  · exact RW_cong (h.1 1 (by decide) (by decide)) (g.2.2 8 (by decide) (by decide)) (g.1 7 (by decide)) (g.1 4 (by decide)) (g.1 12 (by decide)) (g.2.1 10 (by decide)) (g.2.1 11 (by decide)) (g.2.1 9 (by decide)) hW
  · exact RI_cong (gI_same (h.1 0 (by decide) (by decide))) (h.1 3 (by decide) (by decide)) (g.2.2 38 (by decide) (by decide)) (g.1 36 (by decide)) (g.1 37 (by decide)) (g.1 35 (by decide)) (g.2.1 34 (by decide)) (g.2.1 32 (by decide)) (g.2.1 33 (by decide)) hI
  · exact RT_cong h.2 (fun t ht => h.1 _ (by omega) (by omega)) (g.1 3 (by decide)) (g.1 4 (by decide)) (g.1 35 (by decide)) (g.1 37 (by decide)) (g.2.1 2 (by decide)) (g.2.1 1 (by decide)) hT
  · exact RP_cong (h.1 5 (by decide) (by decide)) (g.1 6 (by decide)) (g.2.1 5 (by decide)) hP
  · exact RSh_cong (fun s hs => h.1 _ (by omega) (by omega)) (g.2.1 39 (by decide)) (g.2.1 40 (by decide)) (g.2.1 41 (by decide)) (g.2.1 42 (by decide)) hSh
  · rw [g.1 13 (by decide)]; exact hid
theorem FrC_of {X Y : St} (h : ∀ p, ¬ p = 2 → Y p = X p) : FrC 2 X Y := ⟨fun q _ hq => h q hq, gI_same (h 4 (by decide))⟩
/-- day -/
theorem sim7 : Sim7 (Rel TR0) := by
  intro X S hR
  obtain ⟨f, n, d, hn, hd, en, ed, hC, hM, hW, hok, hid⟩ := ctx hR
  obtain ⟨rW, hI, hT, hP, hSh, -⟩ := id hR
  unfold wX5_day
  have e2 : gI X 1 2 = nI d := rW.1.1.2.1.trans ed
  rw [e2]
  have d9 : (nI d).toInt = d := nI_toInt (by omega)
  have n9 : (999 : Int32).toInt = 999 := rfl
  refine ⟨fun c => ?_, fun c => ?_⟩
  · rw [Int32.lt_iff_toInt_lt, d9, n9] at c
    refine c_day hn (by unfold aM; rw [ed, d9]; omega) hW hC (fun X' F W' => i_filledCells ?_)
    unfold wX6_day
    refine ⟨fun _ => m_day hn en hM hok (fun S' FS e => i_bitsOf ?_), fun q => ?_⟩
    · rw [day_m1 hn] at W'
      rw [hid] at e
      rw [← e] at W'
      have w := FrM_w FS
      refine ⟨by rw [W'.1.1]; rfl, ⟨?_, ?_⟩, ?_, ?_, ?_, ?_, ?_⟩
      · rw [w.1, w.2.1, w.2.2.2.2.1, en]; exact W'
      · have e7 : gI S' 16 7 = (aM S').1 := rfl
        rw [e7, e, day_1]
        refine ⟨d + 1, by omega, ?_⟩
        show gI S 16 7 + 1 = _
        rw [ed, nI_1]
      · exact RI_cong (gI_same (F.1 0 (by decide) (by decide))) (F.1 3 (by decide) (by decide)) (FS.2.2 38 (by decide) (by decide)) (FS.1 36 (by decide) (by decide)) (FS.1 37 (by decide) (by decide)) (FS.1 35 (by decide) (by decide)) (FS.2.1 34 (by decide) (by decide)) (FS.2.1 32 (by decide) (by decide)) (FS.2.1 33 (by decide) (by decide)) hI
      · exact RT_cong F.2 (fun t ht => F.1 _ (by omega) (by omega)) (FS.1 3 (by decide) (by decide)) (FS.1 4 (by decide) (by decide)) (FS.1 35 (by decide) (by decide)) (FS.1 37 (by decide) (by decide)) (FS.2.1 2 (by decide) (by decide)) (FS.2.1 1 (by decide) (by decide)) hT
      · exact RP_cong (F.1 5 (by decide) (by decide)) (FS.1 6 (by decide) (by decide)) (FS.2.1 5 (by decide) (by decide)) hP
      · exact RSh_cong (fun s hs => F.1 _ (by omega) (by omega)) (FS.2.1 39 (by decide) (by decide)) (FS.2.1 40 (by decide) (by decide)) (FS.2.1 41 (by decide) (by decide)) (FS.2.1 42 (by decide) (by decide)) hSh
      · rw [w.2.2.2.2.2]; exact hid
    · rw [ed] at q
      have := congrArg Int32.toInt q
      rw [d9, n9] at this
      omega
  · rw [Int32.lt_iff_toInt_lt, d9, n9] at c
    unfold wX6_day
    refine ⟨fun q => absurd ?_ q, fun _ => ⟨rfl, hR⟩⟩
    rw [ed]
    exact Int32.toInt_inj.mp (by rw [d9, n9]; omega)
/-- later -/
theorem sim9 : Sim9 (Rel TR0) := by
  intro X S a hR
  obtain ⟨f, n, d, hn, hd, en, ed, hC, hM, hW, hok, hid⟩ := ctx hR
  have z0 : (0 : Int64).toInt = 0 := rfl
  have z40 : (40 : Int64).toInt = 40 := rfl
  have y40 : (40 : Int32).toInt = 40 := rfl
  unfold wX5_later
  refine ⟨fun c => ?_, fun c => ⟨fun c2 => ?_, fun c2 => ?_⟩⟩
  · rw [Int32.lt_iff_toInt_lt, z32] at c
    refine i_in (fun g1 g2 => ?_) (fun _ => ⟨fun _ => ⟨rfl, hR⟩, fun q => absurd rfl q⟩)
    rw [i64, z0] at g1; omega
  · rw [Int32.lt_iff_toInt_lt, z32] at c
    rw [Int32.le_iff_toInt_le, y40] at c2
    obtain ⟨k, hk, ea⟩ := rg_of (x := a) (n := 40) (by omega) (by omega) (by decide)
    refine c_think hW hC (fun X1 F1 W1 C1 => ?_)
    rw [ea]
    refine c_pass hn (by omega) ed (by omega) W1 C1 (fun X2 F2 W2 => ?_)
    refine i_in (fun _ _ => ⟨fun q => absurd q ne10, fun _ => m_fb hn (by omega) en hM hok (fun S' FS => ⟨?_, Rel_CL hR (FrC_trans (FrC_of F1) F2) FS⟩)⟩) (fun g => absurd ⟨by rw [i64, nI_toInt (by omega), z0]; omega, by rw [i64, nI_toInt (by omega), z40]; omega⟩ g)
    rw [W2.1.1, hid, days_m1 hn]
  · rw [Int32.le_iff_toInt_le, y40] at c2
    refine i_in (fun g1 g2 => ?_) (fun _ => ⟨fun _ => ⟨rfl, hR⟩, fun q => absurd rfl q⟩)
    rw [i64, z40] at g2; omega
