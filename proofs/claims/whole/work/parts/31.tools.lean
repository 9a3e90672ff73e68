/-! plain tools: reading behind writing, ranges, comparisons -/
theorem gI_sI (σ : St) (o f : Nat) (v : Int32) (o' f' : Nat) : gI (sI σ o f v) o' f' = if o' = o ∧ f' = f then v else gI σ o' f' := by
  unfold gI sI va_up
  by_cases h : o' = o
  · subst h
    by_cases h2 : f' = f <;> simp [h2]
  · simp [h]
theorem gI_sJ (σ : St) (o f : Nat) (v : Int64) (o' f' : Nat) : gI (sJ σ o f v) o' f' = gI σ o' f' := by
  unfold gI sJ va_up
  by_cases h : o' = o <;> simp [h]
theorem gI_sAr (σ : St) (o f : Nat) (g : Nat → Int32) (o' f' : Nat) : gI (sAr σ o f g) o' f' = gI σ o' f' := by
  unfold gI sAr va_up
  by_cases h : o' = o <;> simp [h]
theorem gI_sBr (σ : St) (o f : Nat) (g : Nat → Int64) (o' f' : Nat) : gI (sBr σ o f g) o' f' = gI σ o' f' := by
  unfold gI sBr va_up
  by_cases h : o' = o <;> simp [h]
theorem gI_sA (σ : St) (o f i : Nat) (v : Int32) (o' f' : Nat) : gI (sA σ o f i v) o' f' = gI σ o' f' := gI_sAr _ _ _ _ _ _
theorem gI_sB (σ : St) (o f i : Nat) (v : Int64) (o' f' : Nat) : gI (sB σ o f i v) o' f' = gI σ o' f' := gI_sBr _ _ _ _ _ _
theorem gJ_sI (σ : St) (o f : Nat) (v : Int32) (o' f' : Nat) : gJ (sI σ o f v) o' f' = gJ σ o' f' := by
  unfold gJ sI va_up
  by_cases h : o' = o <;> simp [h]
theorem gJ_sJ (σ : St) (o f : Nat) (v : Int64) (o' f' : Nat) : gJ (sJ σ o f v) o' f' = if o' = o ∧ f' = f then v else gJ σ o' f' := by
  unfold gJ sJ va_up
  by_cases h : o' = o
  · subst h
    by_cases h2 : f' = f <;> simp [h2]
  · simp [h]
theorem gJ_sAr (σ : St) (o f : Nat) (g : Nat → Int32) (o' f' : Nat) : gJ (sAr σ o f g) o' f' = gJ σ o' f' := by
  unfold gJ sAr va_up
  by_cases h : o' = o <;> simp [h]
theorem gJ_sBr (σ : St) (o f : Nat) (g : Nat → Int64) (o' f' : Nat) : gJ (sBr σ o f g) o' f' = gJ σ o' f' := by
  unfold gJ sBr va_up
  by_cases h : o' = o <;> simp [h]
theorem gJ_sA (σ : St) (o f i : Nat) (v : Int32) (o' f' : Nat) : gJ (sA σ o f i v) o' f' = gJ σ o' f' := gJ_sAr _ _ _ _ _ _
theorem gJ_sB (σ : St) (o f i : Nat) (v : Int64) (o' f' : Nat) : gJ (sB σ o f i v) o' f' = gJ σ o' f' := gJ_sBr _ _ _ _ _ _
theorem gA_sI (σ : St) (o f : Nat) (v : Int32) (o' f' : Nat) : gA (sI σ o f v) o' f' = gA σ o' f' := by
  unfold gA sI va_up
  by_cases h : o' = o <;> simp [h]
theorem gA_sJ (σ : St) (o f : Nat) (v : Int64) (o' f' : Nat) : gA (sJ σ o f v) o' f' = gA σ o' f' := by
  unfold gA sJ va_up
  by_cases h : o' = o <;> simp [h]
theorem gA_sAr (σ : St) (o f : Nat) (g : Nat → Int32) (o' f' : Nat) : gA (sAr σ o f g) o' f' = if o' = o ∧ f' = f then g else gA σ o' f' := by
  unfold gA sAr va_up
  by_cases h : o' = o
  · subst h
    by_cases h2 : f' = f <;> simp [h2]
  · simp [h]
theorem gA_sBr (σ : St) (o f : Nat) (g : Nat → Int64) (o' f' : Nat) : gA (sBr σ o f g) o' f' = gA σ o' f' := by
  unfold gA sBr va_up
  by_cases h : o' = o <;> simp [h]
theorem gA_sA (σ : St) (o f i : Nat) (v : Int32) (o' f' j : Nat) : gA (sA σ o f i v) o' f' j = if o' = o ∧ f' = f ∧ j = i then v else gA σ o' f' j := by
  unfold sA
  rw [gA_sAr]
  by_cases h : o' = o ∧ f' = f
  · obtain ⟨rfl, rfl⟩ := h
    by_cases h2 : j = i <;> simp [upd, h2]
  · rw [if_neg h, if_neg (fun q => h ⟨q.1, q.2.1⟩)]
theorem gA_sB (σ : St) (o f i : Nat) (v : Int64) (o' f' : Nat) : gA (sB σ o f i v) o' f' = gA σ o' f' := gA_sBr _ _ _ _ _ _
theorem gB_sI (σ : St) (o f : Nat) (v : Int32) (o' f' : Nat) : gB (sI σ o f v) o' f' = gB σ o' f' := by
  unfold gB sI va_up
  by_cases h : o' = o <;> simp [h]
theorem gB_sJ (σ : St) (o f : Nat) (v : Int64) (o' f' : Nat) : gB (sJ σ o f v) o' f' = gB σ o' f' := by
  unfold gB sJ va_up
  by_cases h : o' = o <;> simp [h]
theorem gB_sAr (σ : St) (o f : Nat) (g : Nat → Int32) (o' f' : Nat) : gB (sAr σ o f g) o' f' = gB σ o' f' := by
  unfold gB sAr va_up
  by_cases h : o' = o <;> simp [h]
theorem gB_sA (σ : St) (o f i : Nat) (v : Int32) (o' f' : Nat) : gB (sA σ o f i v) o' f' = gB σ o' f' := gB_sAr _ _ _ _ _ _
theorem gB_sBr (σ : St) (o f : Nat) (g : Nat → Int64) (o' f' : Nat) : gB (sBr σ o f g) o' f' = if o' = o ∧ f' = f then g else gB σ o' f' := by
  unfold gB sBr va_up
  by_cases h : o' = o
  · subst h
    by_cases h2 : f' = f <;> simp [h2]
  · simp [h]
theorem gB_sB (σ : St) (o f i : Nat) (v : Int64) (o' f' j : Nat) : gB (sB σ o f i v) o' f' j = if o' = o ∧ f' = f ∧ j = i then v else gB σ o' f' j := by
  unfold sB
  rw [gB_sBr]
  by_cases h : o' = o ∧ f' = f
  · obtain ⟨rfl, rfl⟩ := h
    by_cases h2 : j = i <;> simp [vp_updL, h2]
  · rw [if_neg h, if_neg (fun q => h ⟨q.1, q.2.1⟩)]
/-- a whole number in 0 .. n -/
def rg (x : Int32) (n : Nat) : Prop := ∃ j : Nat, j ≤ n ∧ x = nI j
theorem rg_of {x : Int32} {n : Nat} (h0 : 0 ≤ x.toInt) (h1 : x.toInt ≤ n) (hn : n < 2 ^ 31) : rg x n := by
  refine ⟨x.toInt.toNat, by omega, Int32.toInt_inj.mp ?_⟩
  rw [nI_toInt (by omega)]
  omega
theorem rg_in {x : Int32} {n : Nat} (h : rg x n) (hn : n < 2 ^ 31) : 0 ≤ x.toInt ∧ x.toInt ≤ n := by
  obtain ⟨j, hj, rfl⟩ := h
  rw [nI_toInt (by omega)]
  omega
theorem lg_lt0 {a b : Int64} : lg_cmp a b < 0 ↔ a.toInt < b.toInt := by
  unfold lg_cmp
  rw [← Int64.lt_iff_toInt_lt]
  by_cases h1 : a > b
  · rw [if_pos h1]
    refine ⟨fun h => absurd h (by decide), fun h => ?_⟩
    exact absurd (Int64.lt_trans h h1) (by exact Int64.lt_irrefl)
  · rw [if_neg h1]
    by_cases h2 : a = b
    · rw [if_pos h2]
      exact ⟨fun h => absurd h (by decide), fun h => by rw [h2] at h; exact absurd h Int64.lt_irrefl⟩
    · rw [if_neg h2]
      refine ⟨fun _ => ?_, fun _ => by decide⟩
      rw [Int64.lt_iff_toInt_lt]
      have h3 : ¬ b.toInt < a.toInt := fun q => h1 (Int64.lt_iff_toInt_lt.mpr q)
      have h4 : ¬ a.toInt = b.toInt := fun q => h2 (Int64.toInt_inj.mp q)
      omega
theorem lg_gt0 {a b : Int64} : 0 < lg_cmp a b ↔ b.toInt < a.toInt := by
  unfold lg_cmp
  by_cases h1 : a > b
  · rw [if_pos h1]
    exact ⟨fun _ => Int64.lt_iff_toInt_lt.mp h1, fun _ => by decide⟩
  · rw [if_neg h1]
    have h3 : ¬ b.toInt < a.toInt := fun q => h1 (Int64.lt_iff_toInt_lt.mpr q)
    by_cases h2 : a = b
    · rw [if_pos h2]
      exact ⟨fun h => absurd h (by decide), fun h => absurd h h3⟩
    · rw [if_neg h2]
      exact ⟨fun h => absurd h (by decide), fun h => absurd h h3⟩
theorem lg_eq0 {a b : Int64} : lg_cmp a b = 0 ↔ a = b := by
  refine ⟨fun h => ?_, lgc⟩
  have h1 : ¬ lg_cmp a b < 0 := by rw [h]; decide
  have h2 : ¬ 0 < lg_cmp a b := by rw [h]; decide
  rw [lg_lt0] at h1
  rw [lg_gt0] at h2
  exact Int64.toInt_inj.mp (by omega)
/-- the two tests of a range -/
theorem i_isIn {p1 p2 : Int32} {σ : St} {Q : Int32 → St → Prop} (h1 : 0 ≤ p1.toInt → p1.toInt < p2.toInt → Q 1 σ) (h0 : ¬ (0 ≤ p1.toInt ∧ p1.toInt < p2.toInt) → Q 0 σ) : wX5_isIn p1 p2 σ Q := by
  unfold wX5_isIn
  have e0 : (0 : Int32).toInt = 0 := rfl
  refine ⟨fun c => h0 ?_, fun c => ⟨fun d => h0 ?_, fun d => h1 ?_ ?_⟩⟩
  · rw [Int32.lt_iff_toInt_lt] at c; omega
  · rw [Int32.le_iff_toInt_le] at d; omega
  · rw [Int32.lt_iff_toInt_lt] at c; omega
  · rw [Int32.le_iff_toInt_le] at d; omega
theorem i_in {p1 p2 p3 : Int64} {σ : St} {Q : Int32 → St → Prop} (h1 : p2.toInt ≤ p1.toInt → p1.toInt ≤ p3.toInt → Q 1 σ) (h0 : ¬ (p2.toInt ≤ p1.toInt ∧ p1.toInt ≤ p3.toInt) → Q 0 σ) : wX6_in p1 p2 p3 σ Q := by
  unfold wX6_in
  refine ⟨fun c => h0 ?_, fun c => ⟨fun d => h0 ?_, fun d => h1 ?_ ?_⟩⟩
  · rw [lg_lt0] at c; omega
  · rw [lg_gt0] at d; omega
  · rw [lg_lt0] at c; omega
  · rw [lg_gt0] at d; omega
theorem ne10 : ¬ (1 : Int32) = 0 := by decide
