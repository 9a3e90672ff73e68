/-! the relation between the class' state X and the reference's state S; TR: a TEXT of the class and its bytes in the reference -/
def WRel (X : St) (o : Nat) (fl : Int64) (dy ru mn : Int32) (bx rw wt : Nat → Int32) : Prop :=
  (gJ X o 1 = fl ∧ gI X o 2 = dy ∧ gI X o 3 = ru ∧ gI X o 5 = mn ∧ rg mn 5) ∧ (∀ c, c < 4 → gA X o 4 c = bx c ∧ rg (bx c) 99) ∧
  (∀ p, p < 5 → (gA X o 6 p = rw (5 * p + 4) ∧ gA X o 7 p = rw (5 * p) ∧ gA X o 8 p = rw (5 * p + 1) ∧ gA X o 9 p = rw (5 * p + 2) ∧ gA X o 10 p = rw (5 * p + 3)) ∧ rg (rw (5 * p + 4)) 5 ∧ rg (rw (5 * p)) 9 ∧ rg (rw (5 * p + 1)) 3 ∧ rg (rw (5 * p + 2)) 99 ∧ rg (rw (5 * p + 3)) 99) ∧
  ∀ c, c < 64 → rg (wt c) 3 ∧ ∀ k, k < 4 → tb (gB X o 0 k) c = decide (wt c = nI k)
def RW (X S : St) : Prop := WRel X 1 (gJ S 16 8) (gI S 16 7) (gI S 16 4) (gI S 16 12) (gA S 16 10) (gA S 16 11) (gA S 16 9) ∧ rg (gI S 16 7) 999
def RI (X S : St) : Prop := (gI X 0 3 = 0 ∧ gI S 16 35 = -1) ∨ (¬ gI X 0 3 = 0 ∧ ¬ gI S 16 35 = -1 ∧ WRel X 3 (gJ S 16 38) (gI S 16 36) (gI S 16 37) (gI S 16 35) (gA S 16 34) (gA S 16 32) (gA S 16 33) ∧ rg (gI S 16 36) 999)
def RT (TR : OT → Int32 → (Nat → Int32) → Prop) (X S : St) : Prop := ∃ k, 1 ≤ k ∧ k ≤ 6 ∧ gI X 4 1 = nI k ∧ gI S 16 3 = nI k ∧ (∃ r, r < k ∧ gI S 16 4 = nI r) ∧ (gI S 16 35 = -1 ∨ ∃ r, r < k ∧ gI S 16 37 = nI r) ∧ ∀ t, t < k → TR (X (6 + t)) (gA S 16 2 t) (fun i => gA S 16 1 (160 * t + i))
def RP (X S : St) : Prop := ∃ n, n ≤ 160 ∧ gI X 5 1 = nI n ∧ gI S 16 6 = nI n ∧ ∀ i, i < n → gA X 5 0 i = gA S 16 5 i ∧ rg (gA S 16 5 i) 255
def RSh (X S : St) : Prop := ∀ s, s < 4 → (gI X (12 + s) 2 = -1 ∧ gA S 16 39 s = 0) ∨ (¬ gA S 16 39 s = 0 ∧ gI X (12 + s) 2 = gA S 16 40 s ∧ rg (gA S 16 40 s) 2 ∧ ∃ n, n ≤ 40 ∧ gI X (12 + s) 1 = nI n ∧ gA S 16 41 s = nI n ∧ ∀ i, i < n → gA X (12 + s) 0 i = gA S 16 42 (40 * s + i))
def Rel (TR : OT → Int32 → (Nat → Int32) → Prop) (X S : St) : Prop := RW X S ∧ RI X S ∧ RT TR X S ∧ RP X S ∧ RSh X S ∧ gI S 16 13 = -1
/-- what a state holds of an object: alike -/
def same (X Y : St) (o : Nat) : Prop := X o = Y o
theorem gI_same {X Y : St} {o f : Nat} (h : X o = Y o) : gI X o f = gI Y o f := by unfold gI; rw [h]
theorem gJ_same {X Y : St} {o f : Nat} (h : X o = Y o) : gJ X o f = gJ Y o f := by unfold gJ; rw [h]
theorem gA_same {X Y : St} {o f : Nat} (h : X o = Y o) : gA X o f = gA Y o f := by unfold gA; rw [h]
theorem gB_same {X Y : St} {o f : Nat} (h : X o = Y o) : gB X o f = gB Y o f := by unfold gB; rw [h]
theorem WRel_same {X Y : St} {o : Nat} {fl : Int64} {dy ru mn : Int32} {bx rw wt : Nat → Int32} (h : Y o = X o) (hw : WRel X o fl dy ru mn bx rw wt) : WRel Y o fl dy ru mn bx rw wt := by
  unfold WRel at hw ⊢
  rw [gJ_same h, gI_same h, gI_same h, gI_same h, gA_same h, gA_same h, gA_same h, gA_same h, gA_same h, gA_same h, gB_same h]
  exact hw
theorem o_sI {σ : St} {o f : Nat} {v : Int32} {p : Nat} (h : ¬ p = o) : (sI σ o f v) p = σ p := by unfold sI va_up; rw [if_neg h]
theorem o_sJ {σ : St} {o f : Nat} {v : Int64} {p : Nat} (h : ¬ p = o) : (sJ σ o f v) p = σ p := by unfold sJ va_up; rw [if_neg h]
theorem o_sAr {σ : St} {o f : Nat} {g : Nat → Int32} {p : Nat} (h : ¬ p = o) : (sAr σ o f g) p = σ p := by unfold sAr va_up; rw [if_neg h]
theorem o_sBr {σ : St} {o f : Nat} {g : Nat → Int64} {p : Nat} (h : ¬ p = o) : (sBr σ o f g) p = σ p := by unfold sBr va_up; rw [if_neg h]
theorem o_sA {σ : St} {o f i : Nat} {v : Int32} {p : Nat} (h : ¬ p = o) : (sA σ o f i v) p = σ p := o_sAr h
theorem o_sB {σ : St} {o f i : Nat} {v : Int64} {p : Nat} (h : ¬ p = o) : (sB σ o f i v) p = σ p := o_sBr h
/-- what of the reference's state a component speaks of -/
theorem RW_cong {X Y S T : St} (h1 : Y 1 = X 1) (a1 : gJ T 16 8 = gJ S 16 8) (a2 : gI T 16 7 = gI S 16 7) (a3 : gI T 16 4 = gI S 16 4) (a4 : gI T 16 12 = gI S 16 12) (a5 : gA T 16 10 = gA S 16 10) (a6 : gA T 16 11 = gA S 16 11) (a7 : gA T 16 9 = gA S 16 9) (h : RW X S) : RW Y T := by
  unfold RW at h ⊢
  rw [a1, a2, a3, a4, a5, a6, a7]
  exact ⟨WRel_same h1 h.1, h.2⟩
theorem RI_cong {X Y S T : St} (h0 : gI Y 0 3 = gI X 0 3) (h3 : Y 3 = X 3) (a1 : gJ T 16 38 = gJ S 16 38) (a2 : gI T 16 36 = gI S 16 36) (a3 : gI T 16 37 = gI S 16 37) (a4 : gI T 16 35 = gI S 16 35) (a5 : gA T 16 34 = gA S 16 34) (a6 : gA T 16 32 = gA S 16 32) (a7 : gA T 16 33 = gA S 16 33) (h : RI X S) : RI Y T := by
  unfold RI at h ⊢
  rw [h0, a1, a2, a3, a4, a5, a6, a7]
  rcases h with h | h
  · exact Or.inl h
  · exact Or.inr ⟨h.1, h.2.1, WRel_same h3 h.2.2.1, h.2.2.2⟩
theorem RT_cong {TR : OT → Int32 → (Nat → Int32) → Prop} {X Y S T : St} (h4 : gI Y 4 1 = gI X 4 1) (ht : ∀ t, t < 6 → Y (6 + t) = X (6 + t)) (a1 : gI T 16 3 = gI S 16 3) (a2 : gI T 16 4 = gI S 16 4) (a3 : gI T 16 35 = gI S 16 35) (a4 : gI T 16 37 = gI S 16 37) (a5 : gA T 16 2 = gA S 16 2) (a6 : gA T 16 1 = gA S 16 1) (h : RT TR X S) : RT TR Y T := by
  unfold RT at h ⊢
  obtain ⟨k, k1, k2, e1, e2, e3, e4, e5⟩ := h
  refine ⟨k, k1, k2, by rw [h4]; exact e1, by rw [a1]; exact e2, by rw [a2]; exact e3, by rw [a3, a4]; exact e4, fun t htk => ?_⟩
  rw [ht t (by omega), a5, a6]
  exact e5 t htk
theorem RP_cong {X Y S T : St} (h5 : Y 5 = X 5) (a1 : gI T 16 6 = gI S 16 6) (a2 : gA T 16 5 = gA S 16 5) (h : RP X S) : RP Y T := by
  unfold RP at h ⊢
  rw [gI_same h5, gA_same h5, a1, a2]
  exact h
theorem RP_cong2 {X Y S T : St} (h1 : gI Y 5 1 = gI X 5 1) (h0 : gA Y 5 0 = gA X 5 0) (a1 : gI T 16 6 = gI S 16 6) (a2 : gA T 16 5 = gA S 16 5) (h : RP X S) : RP Y T := by
  unfold RP at h ⊢
  rw [h1, h0, a1, a2]
  exact h
theorem RSh_cong {X Y S T : St} (hs : ∀ s, s < 4 → Y (12 + s) = X (12 + s)) (a1 : gA T 16 39 = gA S 16 39) (a2 : gA T 16 40 = gA S 16 40) (a3 : gA T 16 41 = gA S 16 41) (a4 : gA T 16 42 = gA S 16 42) (h : RSh X S) : RSh Y T := by
  intro s hs4
  have h9 := h s hs4
  rw [gI_same (hs s hs4), gI_same (hs s hs4), gA_same (hs s hs4), a1, a2, a3, a4]
  exact h9
theorem gA_sAf (σ : St) (o f i : Nat) (v : Int32) {o' f' : Nat} (h : ¬ (o' = o ∧ f' = f)) : gA (sA σ o f i v) o' f' = gA σ o' f' := by
  unfold sA
  rw [gA_sAr, if_neg h]
theorem gI_sIf (σ : St) (o f : Nat) (v : Int32) {o' f' : Nat} (h : ¬ (o' = o ∧ f' = f)) : gI (sI σ o f v) o' f' = gI σ o' f' := by
  rw [gI_sI, if_neg h]
theorem gI_sIs (σ : St) (o f : Nat) (v : Int32) : gI (sI σ o f v) o f = v := by
  rw [gI_sI, if_pos ⟨rfl, rfl⟩]
theorem gJ_sJf (σ : St) (o f : Nat) (v : Int64) {o' f' : Nat} (h : ¬ (o' = o ∧ f' = f)) : gJ (sJ σ o f v) o' f' = gJ σ o' f' := by
  rw [gJ_sJ, if_neg h]
theorem gJ_sJs (σ : St) (o f : Nat) (v : Int64) : gJ (sJ σ o f v) o f = v := by
  rw [gJ_sJ, if_pos ⟨rfl, rfl⟩]
theorem i64 (x : Int32) : x.toInt64.toInt = x.toInt := Int32.toInt_toInt64 x
theorem WRel_rule {X : St} {o : Nat} {fl : Int64} {dy ru mn v : Int32} {bx rw wt : Nat → Int32} (h : WRel X o fl dy ru mn bx rw wt) : WRel (sI X o 3 v) o fl dy v mn bx rw wt := by
  unfold WRel at h ⊢
  simp only [gJ_sI, gA_sI, gB_sI]
  refine ⟨⟨h.1.1, ?_, ?_, ?_, h.1.2.2.2.2⟩, h.2⟩
  · rw [gI_sIf _ _ _ _ (by simp)]; exact h.1.2.1
  · rw [gI_sIs]
  · rw [gI_sIf _ _ _ _ (by simp)]; exact h.1.2.2.2.1
theorem WRel_day {X : St} {o : Nat} {fl : Int64} {dy ru mn v : Int32} {bx rw wt : Nat → Int32} (h : WRel X o fl dy ru mn bx rw wt) : WRel (sI X o 2 v) o fl v ru mn bx rw wt := by
  unfold WRel at h ⊢
  simp only [gJ_sI, gA_sI, gB_sI]
  refine ⟨⟨h.1.1, ?_, ?_, ?_, h.1.2.2.2.2⟩, h.2⟩
  · rw [gI_sIs]
  · rw [gI_sIf _ _ _ _ (by simp)]; exact h.1.2.2.1
  · rw [gI_sIf _ _ _ _ (by simp)]; exact h.1.2.2.2.1
theorem WRel_people {X : St} {o : Nat} {fl : Int64} {dy ru mn v : Int32} {bx rw wt : Nat → Int32} (h : WRel X o fl dy ru mn bx rw wt) (hv : rg v 5) : WRel (sI X o 5 v) o fl dy ru v bx rw wt := by
  unfold WRel at h ⊢
  simp only [gJ_sI, gA_sI, gB_sI]
  refine ⟨⟨h.1.1, ?_, ?_, ?_, hv⟩, h.2⟩
  · rw [gI_sIf _ _ _ _ (by simp)]; exact h.1.2.1
  · rw [gI_sIf _ _ _ _ (by simp)]; exact h.1.2.2.1
  · rw [gI_sIs]
theorem WRel_filled {X : St} {o : Nat} {fl v : Int64} {dy ru mn : Int32} {bx rw wt : Nat → Int32} (h : WRel X o fl dy ru mn bx rw wt) : WRel (sJ X o 1 v) o v dy ru mn bx rw wt := by
  unfold WRel at h ⊢
  simp only [gI_sJ, gA_sJ, gB_sJ]
  exact ⟨⟨gJ_sJs _ _ _ _, h.1.2⟩, h.2⟩
theorem WRel_box {X : St} {o c : Nat} {fl : Int64} {dy ru mn v : Int32} {bx rw wt : Nat → Int32} (h : WRel X o fl dy ru mn bx rw wt) (hv : rg v 99) : WRel (sA X o 4 c v) o fl dy ru mn (upd bx c v) rw wt := by
  unfold WRel at h ⊢
  simp only [gI_sA, gJ_sA, gB_sA]
  refine ⟨h.1, fun k hk => ?_, ?_, h.2.2.2⟩
  · rw [gA_sA]
    unfold upd
    by_cases e : k = c
    · subst e; simp [hv]
    · simp [e]; exact h.2.1 k hk
  · intro p hp
    have := h.2.2.1 p hp
    rw [gA_sAf _ _ _ _ _ (by simp), gA_sAf _ _ _ _ _ (by simp), gA_sAf _ _ _ _ _ (by simp), gA_sAf _ _ _ _ _ (by simp), gA_sAf _ _ _ _ _ (by simp)]
    exact this
theorem WRel_kind {X : St} {o q : Nat} {fl : Int64} {dy ru mn v : Int32} {bx rw wt : Nat → Int32} (h : WRel X o fl dy ru mn bx rw wt) (hv : rg v 5) : WRel (sA X o 6 q v) o fl dy ru mn bx (upd rw (5 * q + 4) v) wt := by
  unfold WRel at h ⊢
  simp only [gI_sA, gJ_sA, gB_sA]
  refine ⟨h.1, ?_, ?_, h.2.2.2⟩
  · rw [gA_sAf _ _ _ _ _ (by simp)]; exact h.2.1
  · intro p hp
    have h9 := h.2.2.1 p hp
    simp only [gA_sA]
    unfold upd
    by_cases e : p = q
    · subst e
      simp
      grind
    · simp [e]
      grind
theorem WRel_number {X : St} {o q : Nat} {fl : Int64} {dy ru mn v : Int32} {bx rw wt : Nat → Int32} (h : WRel X o fl dy ru mn bx rw wt) (hv : rg v 9) : WRel (sA X o 7 q v) o fl dy ru mn bx (upd rw (5 * q) v) wt := by
  unfold WRel at h ⊢
  simp only [gI_sA, gJ_sA, gB_sA]
  refine ⟨h.1, ?_, ?_, h.2.2.2⟩
  · rw [gA_sAf _ _ _ _ _ (by simp)]; exact h.2.1
  · intro p hp
    have h9 := h.2.2.1 p hp
    simp only [gA_sA]
    unfold upd
    by_cases e : p = q
    · subst e
      simp
      grind
    · simp [e]
      grind
theorem WRel_at {X : St} {o q : Nat} {fl : Int64} {dy ru mn v : Int32} {bx rw wt : Nat → Int32} (h : WRel X o fl dy ru mn bx rw wt) (hv : rg v 3) : WRel (sA X o 8 q v) o fl dy ru mn bx (upd rw (5 * q + 1) v) wt := by
  unfold WRel at h ⊢
  simp only [gI_sA, gJ_sA, gB_sA]
  refine ⟨h.1, ?_, ?_, h.2.2.2⟩
  · rw [gA_sAf _ _ _ _ _ (by simp)]; exact h.2.1
  · intro p hp
    have h9 := h.2.2.1 p hp
    simp only [gA_sA]
    unfold upd
    by_cases e : p = q
    · subst e
      simp
      grind
    · simp [e]
      grind
theorem WRel_looked {X : St} {o q : Nat} {fl : Int64} {dy ru mn v : Int32} {bx rw wt : Nat → Int32} (h : WRel X o fl dy ru mn bx rw wt) (hv : rg v 99) : WRel (sA X o 9 q v) o fl dy ru mn bx (upd rw (5 * q + 2) v) wt := by
  unfold WRel at h ⊢
  simp only [gI_sA, gJ_sA, gB_sA]
  refine ⟨h.1, ?_, ?_, h.2.2.2⟩
  · rw [gA_sAf _ _ _ _ _ (by simp)]; exact h.2.1
  · intro p hp
    have h9 := h.2.2.1 p hp
    simp only [gA_sA]
    unfold upd
    by_cases e : p = q
    · subst e
      simp
      grind
    · simp [e]
      grind
theorem WRel_gave {X : St} {o q : Nat} {fl : Int64} {dy ru mn v : Int32} {bx rw wt : Nat → Int32} (h : WRel X o fl dy ru mn bx rw wt) (hv : rg v 99) : WRel (sA X o 10 q v) o fl dy ru mn bx (upd rw (5 * q + 3) v) wt := by
  unfold WRel at h ⊢
  simp only [gI_sA, gJ_sA, gB_sA]
  refine ⟨h.1, ?_, ?_, h.2.2.2⟩
  · rw [gA_sAf _ _ _ _ _ (by simp)]; exact h.2.1
  · intro p hp
    have h9 := h.2.2.1 p hp
    simp only [gA_sA]
    unfold upd
    by_cases e : p = q
    · subst e
      simp
      grind
    · simp [e]
      grind
/-- force -/
theorem sim6 {TR : OT → Int32 → (Nat → Int32) → Prop} : Sim6 (Rel TR) := by
  intro X S a hR
  obtain ⟨hW, hI, hT, hP, hSh, hid⟩ := hR
  obtain ⟨k, k1, k2, e1, e2, ⟨r, hr, e3⟩, e4, e5⟩ := id hT
  have ek : (nI k).toInt = k := nI_toInt (by omega)
  have ek1 : ((gI S 16 3 - 1).toInt64).toInt = (k : Int) - 1 := by
    rw [i64, e2]
    obtain ⟨j, rfl⟩ : ∃ j, k = j + 1 := ⟨k - 1, by omega⟩
    rw [nI_pred, nI_toInt (by omega)]
    omega
  have e0 : (0 : Int64).toInt = 0 := rfl
  unfold wX5_force
  refine i_isIn (fun h1 h2 => ⟨fun _ x4 hx4 σ5 hσ5 => ?_, fun c => absurd c ne10⟩) (fun h => ⟨fun c => absurd rfl c, fun _ => ?_⟩)
  · rw [e1, ek] at h2
    unfold wX6_force
    refine i_in (fun g1 g2 => ⟨fun _ y4 hy4 τ hτ => ?_, fun c => absurd c ne10⟩) (fun g => absurd ⟨by rw [i64, e0]; exact h1, by rw [i64, ek1]; omega⟩ g)
    have hw := hW.1.1
    subst hx4 hσ5 hy4 hτ
    refine ⟨hw.2.2.1, ?_, ?_, ?_, ?_, ?_, ?_⟩
    · unfold RW
      have h9 := WRel_rule (v := a) hW.1
      simp [gI_sI, gI_sJ, gI_sA, gI_sB, gJ_sI, gJ_sJ, gJ_sA, gJ_sB, gA_sI, gA_sJ, gA_sAf, gA_sB, gB_sI, gB_sJ, gB_sA, o_sI, o_sJ, o_sA, o_sB]
      exact ⟨h9, hW.2⟩
    · exact RI_cong (by simp [gI_sI, gI_sJ, gI_sA, gI_sB, gJ_sI, gJ_sJ, gJ_sA, gJ_sB, gA_sI, gA_sJ, gA_sAf, gA_sB, gB_sI, gB_sJ, gB_sA, o_sI, o_sJ, o_sA, o_sB]) (by simp [gI_sI, gI_sJ, gI_sA, gI_sB, gJ_sI, gJ_sJ, gJ_sA, gJ_sB, gA_sI, gA_sJ, gA_sAf, gA_sB, gB_sI, gB_sJ, gB_sA, o_sI, o_sJ, o_sA, o_sB]) (by simp [gI_sI, gI_sJ, gI_sA, gI_sB, gJ_sI, gJ_sJ, gJ_sA, gJ_sB, gA_sI, gA_sJ, gA_sAf, gA_sB, gB_sI, gB_sJ, gB_sA, o_sI, o_sJ, o_sA, o_sB]) (by simp [gI_sI, gI_sJ, gI_sA, gI_sB, gJ_sI, gJ_sJ, gJ_sA, gJ_sB, gA_sI, gA_sJ, gA_sAf, gA_sB, gB_sI, gB_sJ, gB_sA, o_sI, o_sJ, o_sA, o_sB]) (by simp [gI_sI, gI_sJ, gI_sA, gI_sB, gJ_sI, gJ_sJ, gJ_sA, gJ_sB, gA_sI, gA_sJ, gA_sAf, gA_sB, gB_sI, gB_sJ, gB_sA, o_sI, o_sJ, o_sA, o_sB]) (by simp [gI_sI, gI_sJ, gI_sA, gI_sB, gJ_sI, gJ_sJ, gJ_sA, gJ_sB, gA_sI, gA_sJ, gA_sAf, gA_sB, gB_sI, gB_sJ, gB_sA, o_sI, o_sJ, o_sA, o_sB]) (by simp [gI_sI, gI_sJ, gI_sA, gI_sB, gJ_sI, gJ_sJ, gJ_sA, gJ_sB, gA_sI, gA_sJ, gA_sAf, gA_sB, gB_sI, gB_sJ, gB_sA, o_sI, o_sJ, o_sA, o_sB]) (by simp [gI_sI, gI_sJ, gI_sA, gI_sB, gJ_sI, gJ_sJ, gJ_sA, gJ_sB, gA_sI, gA_sJ, gA_sAf, gA_sB, gB_sI, gB_sJ, gB_sA, o_sI, o_sJ, o_sA, o_sB]) (by simp [gI_sI, gI_sJ, gI_sA, gI_sB, gJ_sI, gJ_sJ, gJ_sA, gJ_sB, gA_sI, gA_sJ, gA_sAf, gA_sB, gB_sI, gB_sJ, gB_sA, o_sI, o_sJ, o_sA, o_sB]) hI
    · refine ⟨k, k1, k2, by simp [gI_sI, gI_sJ, gI_sA, gI_sB, gJ_sI, gJ_sJ, gJ_sA, gJ_sB, gA_sI, gA_sJ, gA_sAf, gA_sB, gB_sI, gB_sJ, gB_sA, o_sI, o_sJ, o_sA, o_sB]; exact e1, by simp [gI_sI, gI_sJ, gI_sA, gI_sB, gJ_sI, gJ_sJ, gJ_sA, gJ_sB, gA_sI, gA_sJ, gA_sAf, gA_sB, gB_sI, gB_sJ, gB_sA, o_sI, o_sJ, o_sA, o_sB]; exact e2, ⟨a.toInt.toNat, by omega, ?_⟩, by simp [gI_sI, gI_sJ, gI_sA, gI_sB, gJ_sI, gJ_sJ, gJ_sA, gJ_sB, gA_sI, gA_sJ, gA_sAf, gA_sB, gB_sI, gB_sJ, gB_sA, o_sI, o_sJ, o_sA, o_sB]; exact e4, fun t ht => ?_⟩
      · rw [gI_sIs]
        exact Int32.toInt_inj.mp (by rw [nI_toInt (by omega)]; omega)
      · rw [o_sI (by omega)]
        simp [gI_sI, gI_sJ, gI_sA, gI_sB, gJ_sI, gJ_sJ, gJ_sA, gJ_sB, gA_sI, gA_sJ, gA_sAf, gA_sB, gB_sI, gB_sJ, gB_sA, o_sI, o_sJ, o_sA, o_sB]
        exact e5 t ht
    · exact RP_cong (by simp [gI_sI, gI_sJ, gI_sA, gI_sB, gJ_sI, gJ_sJ, gJ_sA, gJ_sB, gA_sI, gA_sJ, gA_sAf, gA_sB, gB_sI, gB_sJ, gB_sA, o_sI, o_sJ, o_sA, o_sB]) (by simp [gI_sI, gI_sJ, gI_sA, gI_sB, gJ_sI, gJ_sJ, gJ_sA, gJ_sB, gA_sI, gA_sJ, gA_sAf, gA_sB, gB_sI, gB_sJ, gB_sA, o_sI, o_sJ, o_sA, o_sB]) (by simp [gI_sI, gI_sJ, gI_sA, gI_sB, gJ_sI, gJ_sJ, gJ_sA, gJ_sB, gA_sI, gA_sJ, gA_sAf, gA_sB, gB_sI, gB_sJ, gB_sA, o_sI, o_sJ, o_sA, o_sB]) hP
    · exact RSh_cong (fun s hs => o_sI (by omega)) (by simp [gI_sI, gI_sJ, gI_sA, gI_sB, gJ_sI, gJ_sJ, gJ_sA, gJ_sB, gA_sI, gA_sJ, gA_sAf, gA_sB, gB_sI, gB_sJ, gB_sA, o_sI, o_sJ, o_sA, o_sB]) (by simp [gI_sI, gI_sJ, gI_sA, gI_sB, gJ_sI, gJ_sJ, gJ_sA, gJ_sB, gA_sI, gA_sJ, gA_sAf, gA_sB, gB_sI, gB_sJ, gB_sA, o_sI, o_sJ, o_sA, o_sB]) (by simp [gI_sI, gI_sJ, gI_sA, gI_sB, gJ_sI, gJ_sJ, gJ_sA, gJ_sB, gA_sI, gA_sJ, gA_sAf, gA_sB, gB_sI, gB_sJ, gB_sA, o_sI, o_sJ, o_sA, o_sB]) (by simp [gI_sI, gI_sJ, gI_sA, gI_sB, gJ_sI, gJ_sJ, gJ_sA, gJ_sB, gA_sI, gA_sJ, gA_sAf, gA_sB, gB_sI, gB_sJ, gB_sA, o_sI, o_sJ, o_sA, o_sB]) hSh
    · simp [gI_sI, gI_sJ, gI_sA, gI_sB, gJ_sI, gJ_sJ, gJ_sA, gJ_sB, gA_sI, gA_sJ, gA_sAf, gA_sB, gB_sI, gB_sJ, gB_sA, o_sI, o_sJ, o_sA, o_sB]; exact hid
  · rw [e1, ek] at h
    unfold wX6_force
    refine i_in (fun g1 g2 => absurd ⟨by rw [i64, e0] at g1; exact g1, by rw [i64, i64, ← i64 (gI S 16 3 - 1), ek1] at g2; omega⟩ h) (fun g => ⟨fun c => absurd rfl c, fun _ => ⟨rfl, hW, hI, hT, hP, hSh, hid⟩⟩)
