/-! the pure day -/
theorem irm_tm (v : Int32) (y : Int32) (hy : 0 < y.toInt) : (irm v y).toInt = v.toInt.tmod y.toInt := by
  unfold irm
  have hb1 := Int32.le_toInt v
  have hb2 := Int32.toInt_lt v
  have e1 : (v / y).toInt = v.toInt.tdiv y.toInt := by
    apply Int32.toInt_div_of_ne_right
    intro q
    have h2 := congrArg Int32.toInt q
    have h3 : (-1 : Int32).toInt = -1 := rfl
    omega
  have e2 : v.toInt.tdiv y.toInt * y.toInt + v.toInt.tmod y.toInt = v.toInt := by
    rw [Int.mul_comm]; exact Int.mul_tdiv_add_tmod _ _
  have h9 : v.toInt.tmod y.toInt = v.toInt - v.toInt.tdiv y.toInt * y.toInt := by omega
  rw [Int32.toInt_sub, Int32.toInt_mul, e1]
  rw [Int.sub_bmod_bmod, ← h9]
  have hy2 := Int32.toInt_lt y
  have hr : (v.toInt.tmod y.toInt).natAbs < y.toInt.natAbs := by
    rw [Int.natAbs_tmod]
    exact Nat.mod_lt _ (by omega)
  apply Int.bmod_eq_of_le <;> omega
def clp (v lo hi : Int32) : Int32 := if lo ≤ v then (if v ≤ hi then v else hi) else lo
def rnd (v : Int32) : Int32 := if 0 ≤ irm v 4 then irm v 4 else irm v 4 + 4
def boxF (bx : Nat → Int32) : Int32 := bx 0 + bx 1 + bx 2 + bx 3
theorem irm4 (v : Int32) : (irm v 4).toInt = v.toInt.tmod 4 := irm_tm v 4 (by decide)
theorem tm4 (z : Int) : -3 ≤ z.tmod 4 ∧ z.tmod 4 ≤ 3 ∧ (0 ≤ z → 0 ≤ z.tmod 4) ∧ (z ≤ 0 → z.tmod 4 ≤ 0) ∧ (0 ≤ z → z ≤ 3 → z.tmod 4 = z) := by
  refine ⟨?_, ?_, ?_, ?_, ?_⟩
  · have h := Int.natAbs_tmod z 4
    have h2 : z.natAbs % 4 < 4 := Nat.mod_lt _ (by decide)
    have h3 : (4 : Int).natAbs = 4 := rfl
    rw [h3] at h
    omega
  · have h := Int.natAbs_tmod z 4
    have h2 : z.natAbs % 4 < 4 := Nat.mod_lt _ (by decide)
    have h3 : (4 : Int).natAbs = 4 := rfl
    rw [h3] at h
    omega
  · intro h
    exact Int.tmod_nonneg _ h
  · intro h
    have h9 := Int.tmod_nonneg (a := -z) 4 (by omega)
    rw [Int.neg_tmod] at h9
    omega
  · intro h h3
    exact Int.tmod_eq_of_lt h (by omega)
theorem add4 {x : Int32} (h : -3 ≤ x.toInt) (h2 : x.toInt ≤ 3) : (x + 4).toInt = x.toInt + 4 := by
  rw [Int32.toInt_add]
  have : (4 : Int32).toInt = 4 := rfl
  rw [this]
  apply Int.bmod_eq_of_le <;> omega
theorem z32 : (0 : Int32).toInt = 0 := rfl
theorem rnd_rg (v : Int32) : rg (rnd v) 3 := by
  have h := tm4 v.toInt
  have h4 := irm4 v
  unfold rnd
  by_cases c : 0 ≤ irm v 4
  · rw [if_pos c]
    rw [Int32.le_iff_toInt_le, z32] at c
    exact rg_of c (by omega) (by decide)
  · rw [if_neg c]
    rw [Int32.le_iff_toInt_le, z32] at c
    have := add4 (x := irm v 4) (by omega) (by omega)
    exact rg_of (by omega) (by omega) (by decide)
theorem rnd_id {v : Int32} (h : rg v 3) : rnd v = v := by
  obtain ⟨j, hj, rfl⟩ := h
  have : ∀ j, j ≤ 3 → rnd (nI j) = nI j := by decide
  exact this j hj
theorem xor4 (v : Int32) : 0 ≤ (v ^^^ 4) ↔ 0 ≤ v := by
  rw [Int32.le_iff_toBitVec_sle, Int32.le_iff_toBitVec_sle, Int32.toBitVec_xor]
  have h : ∀ b : BitVec 32, (Int32.toBitVec 0).sle b = !b.msb := by
    intro b
    show (0#32).sle b = !b.msb
    rw [BitVec.zero_sle_eq_not_msb]
  rw [h, h, BitVec.msb_xor]
  have : (Int32.toBitVec 4).msb = false := rfl
  rw [this, Bool.xor_false]
theorem i_fmod {v : Int32} {σ : St} {Q : Int32 → St → Prop} (h : Q (rnd v) σ) : wJ9_floorMod_7cf53 v 4 σ Q := by
  have h1 := tm4 v.toInt
  have h4 := irm4 v
  unfold rnd at h
  refine ⟨by decide, fun x hx => ⟨fun c => ?_, fun c => ⟨fun d => ?_, fun d => ?_⟩⟩⟩
  · rw [xor4, Int32.le_iff_toInt_le, z32] at c
    subst hx
    rw [if_pos (by rw [Int32.le_iff_toInt_le, z32]; omega)] at h
    exact h
  · subst hx
    rw [d] at h ⊢
    rw [if_pos (by decide)] at h
    exact h
  · rw [xor4, Int32.le_iff_toInt_le, z32] at c
    subst hx
    have h9 : ¬ (irm v 4).toInt = 0 := fun q => d (Int32.toInt_inj.mp (by rw [q]; rfl))
    rw [if_neg (by rw [Int32.le_iff_toInt_le, z32]; omega)] at h
    exact h
theorem i_round {v : Int32} {σ : St} {Q : Int32 → St → Prop} (h : Q (rnd v) σ) : wX6_round v σ Q := by
  unfold rnd at h
  refine ⟨fun c => ?_, fun c => ?_⟩
  · rw [if_pos c] at h; exact h
  · rw [if_neg c] at h; exact h
theorem i_within {v lo hi : Int32} {σ : St} {Q : Int32 → St → Prop} (h : Q (clp v lo hi) σ) : wX6_within v lo hi σ Q := by
  unfold clp at h
  refine ⟨fun c => ⟨fun d => ?_, fun d => ?_⟩, fun c => ?_⟩
  · rw [if_pos c, if_pos d] at h; exact h
  · rw [if_pos c, if_neg d] at h; exact h
  · rw [if_neg c] at h; exact h
theorem clp_cases (v lo hi : Int32) (h : lo.toInt ≤ hi.toInt) : lo.toInt ≤ (clp v lo hi).toInt ∧ (clp v lo hi).toInt ≤ hi.toInt ∧ (lo.toInt ≤ v.toInt → v.toInt ≤ hi.toInt → clp v lo hi = v) ∧ (hi.toInt ≤ v.toInt → clp v lo hi = hi) ∧ (v.toInt ≤ lo.toInt → clp v lo hi = lo) := by
  unfold clp
  by_cases c : lo ≤ v
  · rw [if_pos c]
    rw [Int32.le_iff_toInt_le] at c
    by_cases d : v ≤ hi
    · rw [if_pos d]
      rw [Int32.le_iff_toInt_le] at d
      exact ⟨c, d, fun _ _ => rfl, fun q => Int32.toInt_inj.mp (by omega), fun q => Int32.toInt_inj.mp (by omega)⟩
    · rw [if_neg d]
      rw [Int32.le_iff_toInt_le] at d
      exact ⟨h, Int.le_refl _, fun _ q => absurd q d, fun _ => rfl, fun q => Int32.toInt_inj.mp (by omega)⟩
  · rw [if_neg c]
    rw [Int32.le_iff_toInt_le] at c
    exact ⟨Int.le_refl _, h, fun q _ => absurd q c, fun q => absurd (Int.le_trans h q) c, fun _ => rfl⟩
theorem n99 : (99 : Int32).toInt = 99 := rfl
theorem clp0_rg (v : Int32) : rg (clp v 0 99) 99 := by
  have h := clp_cases v 0 99 (by decide)
  rw [z32, n99] at h
  exact rg_of h.1 h.2.1 (by decide)
theorem clp1_rg (v : Int32) : rg (clp v 1 99) 99 := by
  have h := clp_cases v 1 99 (by decide)
  rw [n99, show (1 : Int32).toInt = 1 from rfl] at h
  exact rg_of (by omega) h.2.1 (by decide)
theorem mn_clp (v lo : Int32) (h : lo.toInt ≤ 99) : (if lo < (if v < 99 then v else 99) then (if v < 99 then v else 99) else lo) = clp v lo 99 := by
  have h9 := clp_cases v lo 99 h
  rw [n99] at h9
  by_cases c : v < 99
  · rw [if_pos c]
    rw [Int32.lt_iff_toInt_lt, n99] at c
    by_cases d : lo < v
    · rw [if_pos d]
      rw [Int32.lt_iff_toInt_lt] at d
      exact (h9.2.2.1 (by omega) (by omega)).symm
    · rw [if_neg d]
      rw [Int32.lt_iff_toInt_lt] at d
      exact (h9.2.2.2.2 (by omega)).symm
  · rw [if_neg c]
    rw [Int32.lt_iff_toInt_lt, n99] at c
    by_cases d : lo < 99
    · rw [if_pos d]
      exact (h9.2.2.2.1 (by omega)).symm
    · rw [if_neg d]
      rw [Int32.lt_iff_toInt_lt, n99] at d
      rw [h9.2.2.2.1 (by omega)]
      exact Int32.toInt_inj.mp (by rw [n99]; omega)
theorem clp_up {v : Int32} (h : rg v 99) : (if (v + 1) < 99 then (v + 1) else 99) = clp (v + 1) 0 99 := by
  obtain ⟨j, hj, rfl⟩ := h
  have : ∀ j, j ≤ 99 → (if (nI j + 1) < 99 then (nI j + 1) else 99) = clp (nI j + 1) 0 99 := by decide +kernel
  exact this j hj
theorem clp_id {v : Int32} (h : rg v 99) : clp (v + 0) 0 99 = v := by
  obtain ⟨j, hj, rfl⟩ := h
  have : ∀ j, j ≤ 99 → clp (nI j + 0) 0 99 = nI j := by decide +kernel
  exact this j hj
/-- the first place of 64 where something holds; 64: none -/
def frm (P : Nat → Bool) : Nat → Nat → Nat
  | 0, c => c
  | m + 1, c => if P c then c else frm P m (c + 1)
theorem frm_at {P : Nat → Bool} : ∀ (m c k : Nat), c ≤ k → k < c + m → P k = true → (∀ i, c ≤ i → i < k → P i = false) → frm P m c = k := by
  intro m
  induction m with
  | zero => intro c k h1 h2; omega
  | succ m ih =>
    intro c k h1 h2 hp hn
    unfold frm
    by_cases e : c = k
    · subst e; rw [if_pos hp]
    · rw [hn c (Nat.le_refl _) (by omega)]
      simp only [Bool.false_eq_true, if_false]
      exact ih (c + 1) k (by omega) (by omega) hp (fun i h3 h4 => hn i (by omega) h4)
theorem frm_no {P : Nat → Bool} : ∀ (m c : Nat), (∀ i, c ≤ i → i < c + m → P i = false) → frm P m c = c + m := by
  intro m
  induction m with
  | zero => intro c _; rfl
  | succ m ih =>
    intro c hn
    unfold frm
    rw [hn c (Nat.le_refl _) (by omega)]
    simp only [Bool.false_eq_true, if_false]
    rw [ih (c + 1) (fun i h3 h4 => hn i (by omega) (by omega))]
    omega
theorem frm_in {P : Nat → Bool} : ∀ (m c : Nat), frm P m c ≤ c + m ∧ c ≤ frm P m c ∧ (frm P m c < c + m → P (frm P m c) = true) := by
  intro m
  induction m with
  | zero => intro c; unfold frm; exact ⟨Nat.le_refl _, Nat.le_refl _, fun q => absurd q (Nat.lt_irrefl _)⟩
  | succ m ih =>
    intro c
    unfold frm
    by_cases e : P c = true
    · rw [if_pos e]; exact ⟨by omega, by omega, fun _ => e⟩
    · rw [if_neg e]
      have := ih (c + 1)
      exact ⟨by omega, by omega, fun q => this.2.2 (by omega)⟩
def emF (fl : Int64) : Nat := frm (fun c => !tb fl c) 64 0
def weF (wt : Nat → Int32) (fl : Int64) (g : Int32) : Nat := frm (fun c => !tb fl c && decide (wt c = g)) 64 0
def sayF (f : Nat → Int32 → Int32 → Int32 → Int32 → Int32 → Int32 → Int32) (fl : Int64) (dy : Int32) (bx rw : Nat → Int32) (wh p : Nat) : Int32 := clp (f wh (rw (5 * p + 2)) (rw (5 * p + 1)) (rw (5 * p)) dy (nI (pc fl)) (boxF bx)) (if wh = 0 then 0 else -99) 99
def needF (f : Nat → Int32 → Int32 → Int32 → Int32 → Int32 → Int32 → Int32) (fl : Int64) (dy : Int32) (bx rw : Nat → Int32) (p : Nat) : Int32 :=
  if rw (5 * p + 4) = 5 then 1 else if rw (5 * p + 4) = 4 ∧ boxF bx = 0 then 2 else
  clp (if rw (5 * p + 4) = 1 then sayF f fl dy bx rw 0 p / 2 else if rw (5 * p + 4) = 3 then sayF f fl dy bx rw 0 p / 2 + 3 else if rw (5 * p + 4) = 0 then sayF f fl dy bx rw 0 p else sayF f fl dy bx rw 0 p + rw (5 * p)) 1 99
def giveF (f : Nat → Int32 → Int32 → Int32 → Int32 → Int32 → Int32 → Int32) (wt : Nat → Int32) (fl : Int64) (dy : Int32) (bx rw : Nat → Int32) (p : Nat) : Int32 :=
  if rw (5 * p + 4) = 1 ∨ (rw (5 * p + 4) = 3 ∧ irm dy 2 = 1) then rnd (sayF f fl dy bx rw 1 p) else
  if rw (5 * p + 4) = 4 ∧ emF fl < 64 then wt (emF fl) else
  rnd (if rw (5 * p + 4) = 2 ∨ rw (5 * p + 4) = 4 then rw (5 * p + 1) + 1 else if rw (5 * p + 4) = 5 then rw (5 * p) else rw (5 * p + 1))
def turnF (f : Nat → Int32 → Int32 → Int32 → Int32 → Int32 → Int32 → Int32) (fl : Int64) (dy : Int32) (bx rw : Nat → Int32) (p : Nat) : Int32 :=
  if rw (5 * p + 4) = 1 then rnd (rw (5 * p + 1)) else if rw (5 * p + 4) = 3 then rnd (rw (5 * p + 1) + rw (5 * p)) else
  rnd (if rw (5 * p + 4) = 0 then sayF f fl dy bx rw 2 p else if rw (5 * p + 4) = 5 then sayF f fl dy bx rw 2 p - rw (5 * p) else sayF f fl dy bx rw 2 p + rw (5 * p + 1))
def goFl (wt : Nat → Int32) (fl : Int64) (g : Int32) : Int64 := if weF wt fl g < 64 then fl ||| lsh 1 (nI (weF wt fl g)) else fl
def goBx (wt : Nat → Int32) (fl : Int64) (bx : Nat → Int32) (g : Int32) : Nat → Int32 := upd bx g.toNatClampNeg (clp (bx g.toNatClampNeg + (if weF wt fl g < 64 then 0 else 1)) 0 99)
def setR (rw : Nat → Int32) (p : Nat) : Nat → Int32 := upd rw (5 * p + 2) (clp (rw (5 * p + 2) + 1) 0 99)
def gavR (sil : Int32) (gv : Bool) (rw : Nat → Int32) (p : Nat) : Nat → Int32 := if nI p = sil ∧ gv = false then rw else upd rw (5 * p + 3) (clp (rw (5 * p + 3) + 1) 0 99)
def trnR (rw : Nat → Int32) (p : Nat) (t : Int32) : Nat → Int32 := upd (upd rw (5 * p + 1) t) (5 * p + 2) 0
def lookF (f : Nat → Int32 → Int32 → Int32 → Int32 → Int32 → Int32 → Int32) (wt : Nat → Int32) (dy sil : Int32) (gv : Bool) (p : Nat) (fl : Int64) (bx rw : Nat → Int32) : Int64 × (Nat → Int32) × (Nat → Int32) :=
  if setR rw p (5 * p + 2) < needF f fl dy bx (setR rw p) p then (fl, bx, setR rw p) else
  if nI p = sil then (fl, bx, trnR (gavR sil gv (setR rw p) p) p (turnF f fl dy bx (setR rw p) p)) else
  (goFl wt fl (giveF f wt fl dy bx (setR rw p) p), goBx wt fl bx (giveF f wt fl dy bx (setR rw p) p), trnR (gavR sil gv (setR rw p) p) p (turnF f fl dy bx (setR rw p) p))
def dayL (f : Nat → Int32 → Int32 → Int32 → Int32 → Int32 → Int32 → Int32) (wt : Nat → Int32) (dy sil : Int32) (gv : Bool) : Nat → Nat → Int64 × (Nat → Int32) × (Nat → Int32) → Int64 × (Nat → Int32) × (Nat → Int32)
  | 0, _, w => w
  | m + 1, p, w => dayL f wt dy sil gv m (p + 1) (lookF f wt dy sil gv p w.1 w.2.1 w.2.2)
def dayF (f : Nat → Int32 → Int32 → Int32 → Int32 → Int32 → Int32 → Int32) (wt : Nat → Int32) (sil : Int32) (gv : Bool) (n : Nat) (a : Int32 × Int64 × (Nat → Int32) × (Nat → Int32)) : Int32 × Int64 × (Nat → Int32) × (Nat → Int32) := (a.1 + 1, dayL f wt a.1 sil gv n 0 a.2)
def daysF (f : Nat → Int32 → Int32 → Int32 → Int32 → Int32 → Int32 → Int32) (wt : Nat → Int32) (sil : Int32) (gv : Bool) (n : Nat) : Nat → Int32 × Int64 × (Nat → Int32) × (Nat → Int32) → Int32 × Int64 × (Nat → Int32) × (Nat → Int32)
  | 0, a => a
  | m + 1, a => daysF f wt sil gv n m (dayF f wt sil gv n a)
/-- all in its bounds -/
def Ok (bx rw wt : Nat → Int32) : Prop := (∀ c, c < 4 → rg (bx c) 99) ∧ (∀ p, p < 5 → rg (rw (5 * p + 4)) 5 ∧ rg (rw (5 * p)) 9 ∧ rg (rw (5 * p + 1)) 3 ∧ rg (rw (5 * p + 2)) 99 ∧ rg (rw (5 * p + 3)) 99) ∧ ∀ c, c < 64 → rg (wt c) 3
theorem em_in (fl : Int64) : emF fl ≤ 64 := by have := frm_in (P := fun c => !tb fl c) 64 0; unfold emF; omega
theorem giveF_rg {f : Nat → Int32 → Int32 → Int32 → Int32 → Int32 → Int32 → Int32} {wt : Nat → Int32} {fl : Int64} {dy : Int32} {bx rw : Nat → Int32} {p : Nat} (h : ∀ c, c < 64 → rg (wt c) 3) : rg (giveF f wt fl dy bx rw p) 3 := by
  unfold giveF
  split
  · exact rnd_rg _
  · split
    · next h2 => exact h _ h2.2
    · exact rnd_rg _
theorem turnF_rg {f : Nat → Int32 → Int32 → Int32 → Int32 → Int32 → Int32 → Int32} {fl : Int64} {dy : Int32} {bx rw : Nat → Int32} {p : Nat} : rg (turnF f fl dy bx rw p) 3 := by
  unfold turnF
  split
  · exact rnd_rg _
  · split <;> exact rnd_rg _
theorem Ok_set {bx rw wt : Nat → Int32} (h : Ok bx rw wt) (p : Nat) : Ok bx (setR rw p) wt := by
  refine ⟨h.1, fun q hq => ?_, h.2.2⟩
  have h9 := h.2.1 q hq
  have hc := clp0_rg (rw (5 * p + 2) + 1)
  unfold setR upd
  refine ⟨?_, ?_, ?_, ?_, ?_⟩ <;> (split <;> grind)
theorem Ok_gav {bx rw wt : Nat → Int32} {sil : Int32} {gv : Bool} (h : Ok bx rw wt) (p : Nat) : Ok bx (gavR sil gv rw p) wt := by
  unfold gavR
  split
  · exact h
  · refine ⟨h.1, fun q hq => ?_, h.2.2⟩
    have h9 := h.2.1 q hq
    have hc := clp0_rg (rw (5 * p + 3) + 1)
    unfold upd
    refine ⟨?_, ?_, ?_, ?_, ?_⟩ <;> (split <;> grind)
theorem Ok_trn {bx rw wt : Nat → Int32} (h : Ok bx rw wt) (p : Nat) {t : Int32} (ht : rg t 3) : Ok bx (trnR rw p t) wt := by
  refine ⟨h.1, fun q hq => ?_, h.2.2⟩
  have h9 := h.2.1 q hq
  have hc : rg 0 99 := ⟨0, by decide, rfl⟩
  unfold trnR upd
  refine ⟨?_, ?_, ?_, ?_, ?_⟩ <;> ((repeat' split) <;> grind)
theorem Ok_go {bx rw wt : Nat → Int32} (h : Ok bx rw wt) (fl : Int64) (g : Int32) : Ok (goBx wt fl bx g) rw wt := by
  refine ⟨fun c hc => ?_, h.2⟩
  have h9 := h.1 c hc
  unfold goBx upd
  split
  · exact clp0_rg _
  · exact h9
theorem Ok_look {f : Nat → Int32 → Int32 → Int32 → Int32 → Int32 → Int32 → Int32} {wt : Nat → Int32} {dy sil : Int32} {gv : Bool} {p : Nat} {fl : Int64} {bx rw : Nat → Int32} (h : Ok bx rw wt) : Ok (lookF f wt dy sil gv p fl bx rw).2.1 (lookF f wt dy sil gv p fl bx rw).2.2 wt := by
  unfold lookF
  split
  · exact Ok_set h p
  · split
    · exact Ok_trn (Ok_gav (Ok_set h p) p) p turnF_rg
    · exact Ok_go (Ok_trn (Ok_gav (Ok_set h p) p) p turnF_rg) _ _
theorem Ok_dayL {f : Nat → Int32 → Int32 → Int32 → Int32 → Int32 → Int32 → Int32} {wt : Nat → Int32} {dy sil : Int32} {gv : Bool} : ∀ (m p : Nat) (w : Int64 × (Nat → Int32) × (Nat → Int32)), Ok w.2.1 w.2.2 wt → Ok (dayL f wt dy sil gv m p w).2.1 (dayL f wt dy sil gv m p w).2.2 wt := by
  intro m
  induction m with
  | zero => intro p w h; exact h
  | succ m ih => intro p w h; exact ih (p + 1) _ (Ok_look h)
/-- beyond the rows nothing changes -/
def Out (bx rw bx' rw' : Nat → Int32) : Prop := (∀ c, 4 ≤ c → bx' c = bx c) ∧ ∀ k, 25 ≤ k → rw' k = rw k
theorem rgc {x : Int32} {n : Nat} (h : rg x n) (hn : n < 2 ^ 31) : x.toNatClampNeg ≤ n := by
  obtain ⟨j, hj, rfl⟩ := h
  rw [nI_clamp (by omega)]
  exact hj
theorem Out_look {f : Nat → Int32 → Int32 → Int32 → Int32 → Int32 → Int32 → Int32} {wt : Nat → Int32} {dy sil : Int32} {gv : Bool} {p : Nat} {fl : Int64} {bx rw : Nat → Int32} (hp : p < 5) (h : ∀ c, c < 64 → rg (wt c) 3) : Out bx rw (lookF f wt dy sil gv p fl bx rw).2.1 (lookF f wt dy sil gv p fl bx rw).2.2 := by
  have hs : ∀ r : Nat → Int32, ∀ k, 25 ≤ k → setR r p k = r k := by
    intro r k hk
    unfold setR upd
    rw [if_neg (by omega)]
  have hg : ∀ r : Nat → Int32, ∀ k, 25 ≤ k → gavR sil gv r p k = r k := by
    intro r k hk
    unfold gavR upd
    split
    · rfl
    · show (if k = 5 * p + 3 then _ else _) = _
      rw [if_neg (by omega)]
  have ht : ∀ (r : Nat → Int32) (t : Int32), ∀ k, 25 ≤ k → trnR r p t k = r k := by
    intro r t k hk
    unfold trnR upd
    rw [if_neg (by omega), if_neg (by omega)]
  unfold lookF
  split
  · exact ⟨fun _ _ => rfl, hs _⟩
  · split
    · exact ⟨fun _ _ => rfl, fun k hk => (ht _ _ k hk).trans ((hg _ k hk).trans (hs _ k hk))⟩
    · refine ⟨fun c hc => ?_, fun k hk => (ht _ _ k hk).trans ((hg _ k hk).trans (hs _ k hk))⟩
      have h9 := rgc (giveF_rg (f := f) (fl := fl) (dy := dy) (bx := bx) (rw := setR rw p) (p := p) h) (by decide)
      exact if_neg (by omega)
theorem Out_dayL {f : Nat → Int32 → Int32 → Int32 → Int32 → Int32 → Int32 → Int32} {wt : Nat → Int32} {dy sil : Int32} {gv : Bool} (h : ∀ c, c < 64 → rg (wt c) 3) : ∀ (m p : Nat) (w : Int64 × (Nat → Int32) × (Nat → Int32)), p + m ≤ 5 → Out w.2.1 w.2.2 (dayL f wt dy sil gv m p w).2.1 (dayL f wt dy sil gv m p w).2.2 := by
  intro m
  induction m with
  | zero => intro p w _; exact ⟨fun _ _ => rfl, fun _ _ => rfl⟩
  | succ m ih =>
    intro p w hp
    have h1 := Out_look (f := f) (dy := dy) (sil := sil) (gv := gv) (p := p) (fl := w.1) (bx := w.2.1) (rw := w.2.2) (by omega) h
    have h2 := ih (p + 1) (lookF f wt dy sil gv p w.1 w.2.1 w.2.2) (by omega)
    exact ⟨fun c hc => (h2.1 c hc).trans (h1.1 c hc), fun k hk => (h2.2 k hk).trans (h1.2 k hk)⟩
