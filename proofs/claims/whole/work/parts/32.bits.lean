/-! pasted from kit/laws: words of 64 bits, counts -/
theorem wb_tb (n : Nat) : (lN n).toBitVec = BitVec.ofNat 64 n := rfl
theorem wb_inj {a b : Int64} (h : a.toBitVec = b.toBitVec) : a = b := Int64.toBitVec_inj.mp h
theorem wb_tn {n : Nat} (h : n < 2 ^ 64) : (lN n).toBitVec.toNat = n := by rw [wb_tb, BitVec.toNat_ofNat, Nat.mod_eq_of_lt h]
theorem wb_of (x : Int64) : ∃ n, n < 2 ^ 64 ∧ x = lN n := ⟨x.toBitVec.toNat, x.toBitVec.isLt, wb_inj (by rw [wb_tb]; simp)⟩
theorem wb_c : ∀ k, k < 64 → ((nI k).toInt64 &&& 63) = lN k := by decide +kernel
theorem wb_cu : ∀ k, k < 64 → ((nI k).toInt64.toUInt64 &&& Int64.toUInt64 63) = UInt64.ofNat k := by decide +kernel
theorem wb_sm : ∀ k, k < 64 → (BitVec.ofNat 64 k).smod 64 = BitVec.ofNat 64 k := by decide +kernel
theorem wb_pw {a b : Nat} (h : a ≤ b) : 2 ^ b = 2 ^ a * 2 ^ (b - a) := by rw [← Nat.pow_add]; congr 1; omega
theorem wb_mod (n : Nat) : lN n = lN (n % 2 ^ 64) := wb_inj (by rw [wb_tb, wb_tb]; apply BitVec.eq_of_toNat_eq; rw [BitVec.toNat_ofNat, BitVec.toNat_ofNat, Nat.mod_mod])
theorem wb_shr {n k : Nat} (hn : n < 2 ^ 64) (hk : k < 64) : ((lN n).toUInt64 >>> ((nI k).toInt64.toUInt64 &&& Int64.toUInt64 63)).toInt64 = lN (n / 2 ^ k) := by
  rw [wb_cu k hk]
  apply wb_inj
  apply BitVec.eq_of_toNat_eq
  show ((lN n).toUInt64 >>> UInt64.ofNat k).toNat = (BitVec.ofNat 64 _).toNat
  have h1 : (UInt64.ofNat k).toNat = k := by
    show (BitVec.ofNat 64 k).toNat = k
    rw [BitVec.toNat_ofNat, Nat.mod_eq_of_lt (by omega)]
  have h2 : (lN n).toUInt64.toNat = n := wb_tn hn
  rw [UInt64.toNat_shiftRight, h1, h2, Nat.mod_eq_of_lt hk, Nat.shiftRight_eq_div_pow, BitVec.toNat_ofNat, Nat.mod_eq_of_lt (Nat.lt_of_le_of_lt (Nat.div_le_self _ _) hn)]
theorem wb_shl (n : Nat) {k : Nat} (hk : k < 64) : lN n <<< ((nI k).toInt64 &&& 63) = lN (n * 2 ^ k) := by
  rw [wb_c k hk]
  apply wb_inj
  rw [Int64.toBitVec_shiftLeft, wb_tb, wb_tb, wb_tb, wb_sm k hk]
  apply BitVec.eq_of_toNat_eq
  rw [BitVec.shiftLeft_eq', BitVec.toNat_shiftLeft, BitVec.toNat_ofNat, BitVec.toNat_ofNat, BitVec.toNat_ofNat, Nat.mod_eq_of_lt (show k < 2 ^ 64 by omega), Nat.shiftLeft_eq, Nat.mul_mod, Nat.mod_mod, ← Nat.mul_mod]
theorem wb_and {a b : Nat} (ha : a < 2 ^ 64) (hb : b < 2 ^ 64) : lN a &&& lN b = lN (a &&& b) := by
  apply wb_inj
  rw [Int64.toBitVec_and, wb_tb, wb_tb, wb_tb]
  apply BitVec.eq_of_toNat_eq
  rw [BitVec.toNat_and, BitVec.toNat_ofNat, BitVec.toNat_ofNat, BitVec.toNat_ofNat, Nat.mod_eq_of_lt ha, Nat.mod_eq_of_lt hb, Nat.mod_eq_of_lt (Nat.and_lt_two_pow _ hb)]
theorem wb_or {a b : Nat} (ha : a < 2 ^ 64) (hb : b < 2 ^ 64) : lN a ||| lN b = lN (a ||| b) := by
  apply wb_inj
  rw [Int64.toBitVec_or, wb_tb, wb_tb, wb_tb]
  apply BitVec.eq_of_toNat_eq
  rw [BitVec.toNat_or, BitVec.toNat_ofNat, BitVec.toNat_ofNat, BitVec.toNat_ofNat, Nat.mod_eq_of_lt ha, Nat.mod_eq_of_lt hb, Nat.mod_eq_of_lt (Nat.or_lt_two_pow ha hb)]
def fb_ct (p : Nat → Bool) : Nat → Nat
  | 0 => 0
  | n + 1 => fb_ct p n + (if p n then 1 else 0)
theorem fb_ct_succ (p : Nat → Bool) (n : Nat) : fb_ct p (n + 1) = fb_ct p n + (if p n then 1 else 0) := rfl
theorem fb_ct_le (p : Nat → Bool) : ∀ n, fb_ct p n ≤ n
  | 0 => Nat.le_refl _
  | n + 1 => by
    have h := fb_ct_le p n
    rw [fb_ct_succ]
    split <;> omega
theorem fb_ct_cong {p q : Nat → Bool} : ∀ {n : Nat}, (∀ k, k < n → p k = q k) → fb_ct p n = fb_ct q n
  | 0, _ => rfl
  | n + 1, h => by
    rw [fb_ct_succ, fb_ct_succ, fb_ct_cong (fun k hk => h k (by omega)), h n (by omega)]
theorem fb_ct_out (p : Nat → Bool) (b : Bool) {i n : Nat} (h : n ≤ i) : fb_ct (fun k => if k = i then b else p k) n = fb_ct p n :=
  fb_ct_cong fun k hk => if_neg (by omega)
theorem fb_ct_upd (p : Nat → Bool) (b : Bool) {i : Nat} : ∀ {n : Nat}, i < n → fb_ct (fun k => if k = i then b else p k) n + (if p i then 1 else 0) = fb_ct p n + (if b then 1 else 0)
  | 0, h => absurd h (Nat.not_lt_zero i)
  | n + 1, h => by
    rw [fb_ct_succ, fb_ct_succ]
    rcases Nat.lt_or_ge i n with q | q
    · have := fb_ct_upd p b q
      have e : (if n = i then b else p n) = p n := if_neg (by omega)
      rw [e]
      omega
    · have e : i = n := by omega
      subst e
      rw [fb_ct_out p b (Nat.le_refl _)]
      simp only [if_true]
      omega
theorem fb_ct_sub {p q : Nat → Bool} : ∀ {n : Nat}, (∀ k, k < n → p k = true → q k = true) → fb_ct p n ≤ fb_ct q n
  | 0, _ => Nat.le_refl _
  | n + 1, h => by
    have h1 := fb_ct_sub (n := n) (p := p) (q := q) (fun k hk => h k (by omega))
    have h2 := h n (by omega)
    rw [fb_ct_succ, fb_ct_succ]
    cases hp : p n <;> cases hq : q n <;> simp_all <;> omega
theorem fb_ct_not (p : Nat → Bool) : ∀ n, fb_ct p n + fb_ct (fun k => !p k) n = n
  | 0 => rfl
  | n + 1 => by
    have h := fb_ct_not p n
    rw [fb_ct_succ, fb_ct_succ]
    cases p n <;> simp <;> omega
theorem fb_ct_split (p : Nat → Bool) (m : Nat) : ∀ n, fb_ct p (m + n) = fb_ct p m + fb_ct (fun k => p (m + k)) n
  | 0 => rfl
  | n + 1 => by
    have h := fb_ct_split p m n
    show fb_ct p (m + n + 1) = _
    rw [fb_ct_succ, fb_ct_succ, h, Nat.add_assoc]
theorem fb_ct_zero {p : Nat → Bool} : ∀ {n : Nat}, fb_ct p n = 0 ↔ ∀ k, k < n → p k = false
  | 0 => ⟨fun _ k hk => absurd hk (Nat.not_lt_zero k), fun _ => rfl⟩
  | n + 1 => by
    have h := fb_ct_zero (p := p) (n := n)
    rw [fb_ct_succ]
    constructor
    · intro e k hk
      have e1 : fb_ct p n = 0 := by omega
      rcases Nat.lt_or_ge k n with q | q
      · exact h.mp e1 k q
      · have ek : k = n := by omega
        subst ek
        cases hp : p k
        · rfl
        · simp [hp] at e
    · intro a
      rw [h.mpr (fun k hk => a k (by omega)), a n (by omega)]
      rfl
theorem fb_ct_pos {p : Nat → Bool} {n : Nat} : 0 < fb_ct p n ↔ ∃ k, k < n ∧ p k = true := by
  constructor
  · intro h
    refine Classical.byContradiction fun hx => ?_
    have := fb_ct_zero.mpr (fun k hk => by
      cases hp : p k
      · rfl
      · exact absurd ⟨k, hk, hp⟩ hx : ∀ k, k < n → p k = false)
    omega
  · rintro ⟨k, hk, hp⟩
    rcases Nat.eq_zero_or_pos (fb_ct p n) with e | e
    · have := fb_ct_zero.mp e k hk
      rw [this] at hp
      cases hp
    · exact e
theorem fb_ct_all {p : Nat → Bool} {n : Nat} : fb_ct p n = n ↔ ∀ k, k < n → p k = true := by
  have h := fb_ct_not p n
  constructor
  · intro e k hk
    have z : fb_ct (fun k => !p k) n = 0 := by omega
    have := fb_ct_zero.mp z k hk
    cases hp : p k
    · simp [hp] at this
    · rfl
  · intro a
    have z : fb_ct (fun k => !p k) n = 0 := fb_ct_zero.mpr (fun k hk => by simp [a k hk])
    omega
/-! bits of a long -/
def tb (x : Int64) (i : Nat) : Bool := x.toBitVec.getLsbD i
theorem tb_ext {x y : Int64} (h : ∀ i, i < 64 → tb x i = tb y i) : x = y := Int64.toBitVec_inj.mp (BitVec.eq_of_getLsbD_eq (fun i hi => h i hi))
theorem tb_or (x y : Int64) (i : Nat) : tb (x ||| y) i = (tb x i || tb y i) := by unfold tb; rw [Int64.toBitVec_or, BitVec.getLsbD_or]
theorem tb_and (x y : Int64) (i : Nat) : tb (x &&& y) i = (tb x i && tb y i) := by unfold tb; rw [Int64.toBitVec_and, BitVec.getLsbD_and]
theorem tb_xor (x y : Int64) (i : Nat) : tb (x ^^^ y) i = (tb x i ^^ tb y i) := by unfold tb; rw [Int64.toBitVec_xor, BitVec.getLsbD_xor]
theorem tb_m1 : ∀ i, i < 64 → tb (-1) i = true := by decide +kernel
theorem tb_0 (i : Nat) : tb 0 i = false := BitVec.getLsbD_zero
theorem tb_not (x : Int64) {i : Nat} (h : i < 64) : tb (x ^^^ (-1)) i = !tb x i := by rw [tb_xor, tb_m1 i h]; cases tb x i <;> rfl
theorem tb_lN {n : Nat} (hn : n < 2 ^ 64) (i : Nat) : tb (lN n) i = n.testBit i := by
  unfold tb
  rw [BitVec.getLsbD, wb_tn hn]
theorem pw64 {c : Nat} (h : c < 64) : 2 ^ c < 2 ^ 64 := Nat.pow_lt_pow_right (by decide) h
theorem lsh1 {c : Nat} (h : c < 64) : lsh 1 (nI c) = lN (2 ^ c) := by
  have e := wb_shl 1 h
  rw [Nat.one_mul] at e
  exact e
theorem tb_lsh {c : Nat} (h : c < 64) (i : Nat) : tb (lsh 1 (nI c)) i = decide (c = i) := by
  rw [lsh1 h, tb_lN (pw64 h), Nat.testBit_two_pow]
theorem tb_eq0 {x : Int64} : x = 0 ↔ ∀ i, i < 64 → tb x i = false := by
  refine ⟨fun h i _ => by rw [h]; exact tb_0 i, fun h => tb_ext (fun i hi => by rw [h i hi, tb_0])⟩
theorem tb_one (x : Int64) {c : Nat} (h : c < 64) : (x &&& lsh 1 (nI c)) = 0 ↔ tb x c = false := by
  rw [tb_eq0]
  refine ⟨fun q => ?_, fun q i hi => ?_⟩
  · have := q c h
    rw [tb_and, tb_lsh h] at this
    simpa using this
  · rw [tb_and, tb_lsh h]
    by_cases e : c = i
    · subst e; rw [q]; rfl
    · simp [e]
/-- how many bits are set -/
def pc (x : Int64) : Nat := fb_ct (tb x) 64
theorem pc_le (x : Int64) : pc x ≤ 64 := fb_ct_le _ _
theorem odd_part : ∀ n : Nat, 0 < n → ∃ c q : Nat, n = 2 ^ c * (2 * q + 1) := by
  intro n
  induction n using Nat.strongRecOn with
  | ind n ih =>
    intro h
    rcases Nat.mod_two_eq_zero_or_one n with e | e
    · obtain ⟨c, q, hq⟩ := ih (n / 2) (by omega) (by omega)
      refine ⟨c + 1, q, ?_⟩
      have e2 : n = 2 * (n / 2) := by omega
      rw [e2, hq, Nat.pow_succ]
      ac_rfl
    · exact ⟨0, n / 2, by omega⟩
theorem and_low (c q : Nat) (h : 2 ^ c * (2 * q + 1) < 2 ^ 64) : 2 ^ c * (2 * q + 1) &&& (2 ^ 64 - 2 ^ c * (2 * q + 1)) = 2 ^ c := by
  have hc : c < 64 := by
    rcases Nat.lt_or_ge c 64 with h1 | h1
    · exact h1
    · have h2 : 2 ^ 64 ≤ 2 ^ c := Nat.pow_le_pow_right (by decide) h1
      have h3 : 2 ^ c * 1 ≤ 2 ^ c * (2 * q + 1) := Nat.mul_le_mul_left _ (by omega)
      omega
  have e1 : (2 : Nat) ^ 64 = 2 ^ c * 2 ^ (64 - c) := by rw [← Nat.pow_add]; congr 1; omega
  have hq : 2 * q + 1 < 2 ^ (64 - c) := by
    rw [e1] at h
    exact Nat.lt_of_mul_lt_mul_left h
  have e2 : 2 ^ 64 - 2 ^ c * (2 * q + 1) = 2 ^ c * (2 ^ (64 - c) - (2 * q + 1)) := by rw [e1, Nat.mul_sub]
  rw [e2]
  apply Nat.eq_of_testBit_eq
  intro i
  rw [Nat.testBit_and, Nat.testBit_two_pow_mul, Nat.testBit_two_pow_mul, Nat.testBit_two_pow]
  by_cases hi : c ≤ i
  · rw [Nat.testBit_two_pow_sub_succ (by omega)]
    obtain ⟨k, rfl⟩ : ∃ k, i = c + k := ⟨i - c, by omega⟩
    have e3 : c + k - c = k := by omega
    rw [e3]
    cases k with
    | zero =>
      have e4 : (2 * q + 1).testBit 0 = true := by rw [Nat.testBit_zero]; simp
      have e5 : (2 * q).testBit 0 = false := by rw [Nat.testBit_zero]; simp
      have e6 : 0 < 64 - c := by omega
      simp [e4, e5, e6]
    | succ k =>
      have e4 : (2 * q + 1).testBit (k + 1) = q.testBit k := by rw [Nat.testBit_succ]; congr 1; omega
      have e5 : (2 * q).testBit (k + 1) = q.testBit k := by rw [Nat.testBit_succ]; congr 1; omega
      rw [e4, e5]
      have e7 : decide (c = c + (k + 1)) = false := decide_eq_false (by omega)
      rw [e7]
      cases q.testBit k <;> simp
  · have e7 : decide (c = i) = false := decide_eq_false (by omega)
    simp [hi, e7]
theorem and_pred (c q i : Nat) : (2 ^ c * (2 * q + 1) &&& (2 ^ c * (2 * q + 1) - 1)).testBit i = ((2 ^ c * (2 * q + 1)).testBit i && !decide (i = c)) := by
  have hp : 0 < 2 ^ c := Nat.two_pow_pos c
  have e1 : 2 ^ c * (2 * q + 1) - 1 = 2 ^ c * (2 * q) + (2 ^ c - 1) := by
    rw [Nat.mul_add, Nat.mul_one]
    omega
  rw [Nat.testBit_and, e1, Nat.testBit_two_pow_mul_add _ (by omega), Nat.testBit_two_pow_mul]
  by_cases hi : i < c
  · have e2 : decide (c ≤ i) = false := decide_eq_false (by omega)
    simp [hi, e2]
  · obtain ⟨k, rfl⟩ : ∃ k, i = c + k := ⟨i - c, by omega⟩
    have e3 : c + k - c = k := by omega
    rw [if_neg hi, e3]
    cases k with
    | zero =>
      have e5 : (2 * q).testBit 0 = false := by rw [Nat.testBit_zero]; simp
      simp [e5]
    | succ k =>
      have e4 : (2 * q + 1).testBit (k + 1) = q.testBit k := by rw [Nat.testBit_succ]; congr 1; omega
      have e5 : (2 * q).testBit (k + 1) = q.testBit k := by rw [Nat.testBit_succ]; congr 1; omega
      rw [e4, e5]
      have e7 : decide (c + (k + 1) = c) = false := decide_eq_false (by omega)
      rw [e7]
      cases q.testBit k <;> simp
theorem lN_neg {n : Nat} (h0 : 0 < n) (h : n < 2 ^ 64) : -(lN n) = lN (2 ^ 64 - n) := by
  apply wb_inj
  rw [Int64.toBitVec_neg, wb_tb, wb_tb]
  apply BitVec.eq_of_toNat_eq
  rw [BitVec.toNat_neg, BitVec.toNat_ofNat, BitVec.toNat_ofNat, Nat.mod_eq_of_lt h]
theorem lN_pred {n : Nat} (h0 : 0 < n) : lN n - 1 = lN (n - 1) := by
  obtain ⟨k, rfl⟩ : ∃ k, n = k + 1 := ⟨n - 1, by omega⟩
  have e : lN (k + 1) = lN k + 1 := Int64.ofNat_add k 1
  rw [e, Int64.add_sub_cancel]
  rfl
/-- the lowest bit that is set -/
theorem lowbit {x : Int64} (h : ¬ x = 0) : ∃ c, c < 64 ∧ tb x c = true ∧ (∀ i, i < c → tb x i = false) ∧ x &&& (-x) = lsh 1 (nI c) ∧ ∀ i, tb (x &&& (x - 1)) i = (tb x i && !decide (i = c)) := by
  obtain ⟨n, hn, rfl⟩ := wb_of x
  have h0 : 0 < n := by
    rcases Nat.eq_zero_or_pos n with h1 | h1
    · subst h1; exact absurd rfl h
    · exact h1
  obtain ⟨c, q, rfl⟩ := odd_part n h0
  have hc : c < 64 := by
    rcases Nat.lt_or_ge c 64 with h1 | h1
    · exact h1
    · have h2 : 2 ^ 64 ≤ 2 ^ c := Nat.pow_le_pow_right (by decide) h1
      have h3 : 2 ^ c * 1 ≤ 2 ^ c * (2 * q + 1) := Nat.mul_le_mul_left _ (by omega)
      omega
  refine ⟨c, hc, ?_, ?_, ?_, ?_⟩
  · rw [tb_lN hn, Nat.testBit_two_pow_mul]
    have e3 : c - c = 0 := by omega
    have e4 : (2 * q + 1).testBit 0 = true := by rw [Nat.testBit_zero]; simp
    rw [e3, e4]; simp
  · intro i hi
    rw [tb_lN hn, Nat.testBit_two_pow_mul]
    have e2 : decide (c ≤ i) = false := decide_eq_false (by omega)
    rw [e2]; rfl
  · rw [lN_neg h0 hn, wb_and hn (by omega), and_low c q hn, lsh1 hc]
  · intro i
    rw [lN_pred h0, wb_and hn (by omega), tb_lN (Nat.lt_of_le_of_lt Nat.and_le_left hn), tb_lN hn, and_pred]
theorem pc_pred {x : Int64} (h : ¬ x = 0) : pc (x &&& (x - 1)) + 1 = pc x := by
  obtain ⟨c, hc, h1, -, -, h4⟩ := lowbit h
  have e := fb_ct_upd (tb x) false (i := c) (n := 64) hc
  rw [h1] at e
  have e2 : fb_ct (tb (x &&& (x - 1))) 64 = fb_ct (fun k => if k = c then false else tb x k) 64 := fb_ct_cong (fun k _ => by
    rw [h4]
    by_cases hk : k = c <;> simp [hk])
  unfold pc
  rw [e2]
  simpa using e
theorem pc_zero {x : Int64} : pc x = 0 ↔ x = 0 := by
  unfold pc
  rw [fb_ct_zero, tb_eq0]
theorem pc_set {x : Int64} {c : Nat} (hc : c < 64) (h : tb x c = false) : pc (x ||| lsh 1 (nI c)) = pc x + 1 := by
  have e := fb_ct_upd (tb x) true (i := c) (n := 64) hc
  rw [h] at e
  have e2 : fb_ct (tb (x ||| lsh 1 (nI c))) 64 = fb_ct (fun k => if k = c then true else tb x k) 64 := fb_ct_cong (fun k _ => by
    rw [tb_or, tb_lsh hc]
    by_cases hk : k = c
    · subst hk; simp
    · have : ¬ c = k := fun q => hk q.symm
      simp [hk, this])
  unfold pc
  rw [e2]
  simpa using e
theorem pc_m1 {x : Int64} : pc x = 64 ↔ x = -1 := by
  unfold pc
  rw [fb_ct_all]
  refine ⟨fun h => tb_ext (fun i hi => by rw [h i hi, tb_m1 i hi]), fun h k hk => by rw [h]; exact tb_m1 k hk⟩
