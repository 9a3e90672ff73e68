/-! Long.bitCount, and the reference's count -/
theorem nx_and (a b : Nat) : nI a &&& nI b = nI (a &&& b) := by
  apply Int32.toBitVec_inj.1
  show BitVec.ofNat 32 a &&& BitVec.ofNat 32 b = BitVec.ofNat 32 (a &&& b)
  apply BitVec.eq_of_getLsbD_eq
  intro i hi
  simp [hi]
theorem and_dec (k a c : Nat) {b d : Nat} (hb : b < 2 ^ k) (hd : d < 2 ^ k) : (2 ^ k * a + b) &&& (2 ^ k * c + d) = 2 ^ k * (a &&& c) + (b &&& d) := by
  apply Nat.eq_of_testBit_eq
  intro i
  have h9 : b &&& d < 2 ^ k := Nat.lt_of_le_of_lt Nat.and_le_left hb
  rw [Nat.testBit_and, Nat.testBit_two_pow_mul_add _ hb, Nat.testBit_two_pow_mul_add _ hd, Nat.testBit_two_pow_mul_add _ h9]
  by_cases h : i < k
  · rw [if_pos h, if_pos h, if_pos h, Nat.testBit_and]
  · rw [if_neg h, if_neg h, if_neg h, Nat.testBit_and]
theorem and_top {x K m : Nat} (hx : x < 2 ^ 56) (hm : m < 2 ^ 56) : x &&& (2 ^ 56 * K + m) = x &&& m := by
  have e := and_dec 56 0 K hx hm
  simpa using e
def M5 : Nat := 6148914691236517205
def M3 : Nat := 3689348814741910323
def MF : Nat := 1085102592571150095
def m5 : Nat := 24019198012642645
def m3 : Nat := 14411518807585587
def mf : Nat := 4238682002231055
def s1 (n : Nat) : Nat := n - (n / 2 &&& M5)
def s2 (n : Nat) : Nat := (n &&& M3) + (n / 4 &&& M3)
def s3 (n : Nat) : Nat := (n + n / 16) &&& MF
theorem and_M5 (a : Nat) {b : Nat} (hb : b < 256) (ha : a < 2 ^ 56) : (256 * a + b) &&& M5 = 256 * (a &&& M5) + (b &&& 85) := by
  have e := and_dec 8 a m5 (b := b) (d := 85) hb (by decide)
  have e2 := and_top (x := a) (K := 85) (m := m5) ha (by decide)
  have e3 : M5 = 2 ^ 8 * m5 + 85 := by decide
  have e4 : M5 = 2 ^ 56 * 85 + m5 := by decide
  rw [← e4] at e2
  rw [e2]
  rw [e3]
  exact e
theorem and_M3 (a : Nat) {b : Nat} (hb : b < 256) (ha : a < 2 ^ 56) : (256 * a + b) &&& M3 = 256 * (a &&& M3) + (b &&& 51) := by
  have e := and_dec 8 a m3 (b := b) (d := 51) hb (by decide)
  have e2 := and_top (x := a) (K := 51) (m := m3) ha (by decide)
  have e3 : M3 = 2 ^ 8 * m3 + 51 := by decide
  have e4 : M3 = 2 ^ 56 * 51 + m3 := by decide
  rw [← e4] at e2
  rw [e2]
  rw [e3]
  exact e
theorem and_MF (a : Nat) {b : Nat} (hb : b < 256) (ha : a < 2 ^ 56) : (256 * a + b) &&& MF = 256 * (a &&& MF) + (b &&& 15) := by
  have e := and_dec 8 a mf (b := b) (d := 15) hb (by decide)
  have e2 := and_top (x := a) (K := 15) (m := mf) ha (by decide)
  have e3 : MF = 2 ^ 8 * mf + 15 := by decide
  have e4 : MF = 2 ^ 56 * 15 + mf := by decide
  rw [← e4] at e2
  rw [e2]
  rw [e3]
  exact e
theorem by1 : ∀ t, t < 2 → ∀ l, l < 256 → (128 * t + l / 2) &&& 85 = (l / 2) &&& 85 := by decide +kernel
theorem by2 : ∀ t, t < 4 → ∀ l, l < 256 → (64 * t + l / 4) &&& 51 = (l / 4) &&& 51 := by decide +kernel
theorem by3 : ∀ t, t < 5 → ∀ l, l < 256 → (s2 (s1 l) + 16 * t + s2 (s1 l) / 16) &&& 15 = (s2 (s1 l) + s2 (s1 l) / 16) &&& 15 := by decide +kernel
theorem by4 : ∀ l, l < 256 → s1 l < 256 ∧ s2 (s1 l) ≤ 68 ∧ s2 (s1 l) % 16 ≤ 4 := by decide +kernel
theorem by5 : ∀ l, l < 256 → s3 (s2 (s1 l)) = fb_ct (fun i => l.testBit i) 8 := by decide +kernel
theorem by6 : ∀ l, l < 256 → (l / 2) &&& M5 = (l / 2) &&& 85 ∧ s1 l &&& M3 = s1 l &&& 51 ∧ s1 l / 4 &&& M3 = s1 l / 4 &&& 51 ∧ (s2 (s1 l) + s2 (s1 l) / 16) &&& MF = (s2 (s1 l) + s2 (s1 l) / 16) &&& 15 := by decide +kernel
theorem s1_le (n : Nat) : s1 n ≤ n := Nat.sub_le _ _
theorem s1_dec (h : Nat) {l : Nat} (hl : l < 256) (hh : h < 2 ^ 56) : s1 (256 * h + l) = 256 * s1 h + s1 l := by
  unfold s1
  have e1 : (256 * h + l) / 2 = 256 * (h / 2) + (128 * (h % 2) + l / 2) := by omega
  have e2 := and_M5 (h / 2) (b := 128 * (h % 2) + l / 2) (by omega) (by omega)
  have e3 := by1 (h % 2) (by omega) l hl
  rw [e1, e2, e3, (by6 l hl).1]
  have i1 : h / 2 &&& M5 ≤ h / 2 := Nat.and_le_left
  have i2 : l / 2 &&& 85 ≤ l / 2 := Nat.and_le_left
  omega
theorem s2_dec (h : Nat) {l : Nat} (hl : l < 256) (hh : h < 2 ^ 56) : s2 (256 * h + s1 l) = 256 * s2 h + s2 (s1 l) := by
  unfold s2
  obtain ⟨b1, -, -⟩ := by4 l hl
  have e1 : (256 * h + s1 l) / 4 = 256 * (h / 4) + (64 * (h % 4) + s1 l / 4) := by omega
  have e2 := and_M3 (h / 4) (b := 64 * (h % 4) + s1 l / 4) (by omega) (by omega)
  have e3 := by2 (h % 4) (by omega) (s1 l) b1
  have e4 := and_M3 h b1 hh
  obtain ⟨-, f1, f2, -⟩ := by6 l hl
  rw [e1, e2, e3, e4, f1, f2]
  omega
theorem s2_bd (h : Nat) (hh : h < 2 ^ 64) : s2 (s1 h) % 16 ≤ 4 := by
  have e1 : h = 256 * (h / 256) + h % 256 := by omega
  rw [e1, s1_dec (h / 256) (by omega) (by omega), s2_dec (s1 (h / 256)) (by omega) (by have := s1_le (h / 256); omega)]
  have := (by4 (h % 256) (by omega)).2.2
  omega
theorem s2_le (n : Nat) : s2 n ≤ n + n / 4 := by
  unfold s2
  have i1 : n &&& M3 ≤ n := Nat.and_le_left
  have i2 : n / 4 &&& M3 ≤ n / 4 := Nat.and_le_left
  omega
theorem s2_le6 (n : Nat) (hn : n < 2 ^ 56) : s2 n ≤ 28823037615171174 := by
  unfold s2
  have e4 : M3 = 2 ^ 56 * 51 + m3 := by decide
  rw [e4, and_top hn (by decide), and_top (by omega) (by decide)]
  have i1 : n &&& m3 ≤ m3 := Nat.and_le_right
  have i2 : n / 4 &&& m3 ≤ m3 := Nat.and_le_right
  have e5 : m3 = 14411518807585587 := rfl
  omega
theorem F_dec (h : Nat) {l : Nat} (hl : l < 256) (hh : h < 2 ^ 56) : s3 (s2 (s1 (256 * h + l))) = 256 * s3 (s2 (s1 h)) + s3 (s2 (s1 l)) := by
  have j1 := s1_le h
  have j2 := s2_le6 (s1 h) (by omega)
  rw [s1_dec h hl (by omega), s2_dec (s1 h) hl (by omega)]
  obtain ⟨-, b2, b3⟩ := by4 l hl
  have b4 := s2_bd h (by omega)
  unfold s3
  have e1 : 256 * s2 (s1 h) + s2 (s1 l) + (256 * s2 (s1 h) + s2 (s1 l)) / 16 = 256 * (s2 (s1 h) + s2 (s1 h) / 16) + (s2 (s1 l) + 16 * (s2 (s1 h) % 16) + s2 (s1 l) / 16) := by omega
  have e2 := and_MF (s2 (s1 h) + s2 (s1 h) / 16) (b := s2 (s1 l) + 16 * (s2 (s1 h) % 16) + s2 (s1 l) / 16) (by omega) (by omega)
  have e3 := by3 (s2 (s1 h) % 16) (by omega) l hl
  rw [e1, e2, e3, (by6 l hl).2.2.2]
theorem ct_dec (h : Nat) {l : Nat} (hl : l < 256) (k : Nat) : fb_ct (fun i => (256 * h + l).testBit i) (8 + k) = fb_ct (fun i => l.testBit i) 8 + fb_ct (fun i => h.testBit i) k := by
  rw [fb_ct_split]
  congr 1
  · apply fb_ct_cong
    intro i hi
    have e := Nat.testBit_two_pow_mul_add h (b := l) (i := 8) hl i
    rw [if_pos hi] at e
    exact e
  · apply fb_ct_cong
    intro i _
    have e := Nat.testBit_two_pow_mul_add h (b := l) (i := 8) hl (8 + i)
    rw [if_neg (by omega), show 8 + i - 8 = i by omega] at e
    exact e
/-- the eight bytes' counts -/
theorem F_all (n : Nat) (hn : n < 2 ^ 64) : ∃ p0 p1 p2 p3 p4 p5 p6 p7 : Nat, (p0 ≤ 8 ∧ p1 ≤ 8 ∧ p2 ≤ 8 ∧ p3 ≤ 8 ∧ p4 ≤ 8 ∧ p5 ≤ 8 ∧ p6 ≤ 8 ∧ p7 ≤ 8) ∧ fb_ct (fun i => n.testBit i) 64 = p0 + p1 + p2 + p3 + p4 + p5 + p6 + p7 ∧ s3 (s2 (s1 n)) = 256 * (256 * (256 * (256 * (256 * (256 * (256 * p7 + p6) + p5) + p4) + p3) + p2) + p1) + p0 := by
  have st : ∀ k m : Nat, m < 2 ^ (8 + k) → 8 + k ≤ 64 → ∃ p h : Nat, p ≤ 8 ∧ h < 2 ^ k ∧ fb_ct (fun i => m.testBit i) (8 + k) = p + fb_ct (fun i => h.testBit i) k ∧ s3 (s2 (s1 m)) = 256 * s3 (s2 (s1 h)) + p := by
    intro k m hm hk
    have e1 : m = 256 * (m / 256) + m % 256 := by omega
    have hp : (2 : Nat) ^ (8 + k) = 256 * 2 ^ k := by rw [Nat.pow_add]
    have hh : m / 256 < 2 ^ k := by rw [hp] at hm; omega
    have hh2 : m / 256 < 2 ^ 56 := Nat.lt_of_lt_of_le hh (Nat.pow_le_pow_right (by decide) (by omega))
    refine ⟨s3 (s2 (s1 (m % 256))), m / 256, ?_, hh, ?_, ?_⟩
    · rw [by5 _ (by omega)]; exact fb_ct_le _ _
    · rw [by5 _ (by omega)]
      have e := ct_dec (m / 256) (l := m % 256) (by omega) k
      rw [← e1] at e
      exact e
    · have e := F_dec (m / 256) (l := m % 256) (by omega) hh2
      rw [← e1] at e
      exact e
  obtain ⟨p0, n1, b0, h1, c0, f0⟩ := st 56 n hn (by decide)
  obtain ⟨p1, n2, b1, h2, c1, f1⟩ := st 48 n1 h1 (by decide)
  obtain ⟨p2, n3, b2, h3, c2, f2⟩ := st 40 n2 h2 (by decide)
  obtain ⟨p3, n4, b3, h4, c3, f3⟩ := st 32 n3 h3 (by decide)
  obtain ⟨p4, n5, b4, h5, c4, f4⟩ := st 24 n4 h4 (by decide)
  obtain ⟨p5, n6, b5, h6, c5, f5⟩ := st 16 n5 h5 (by decide)
  obtain ⟨p6, n7, b6, h7, c6, f6⟩ := st 8 n6 h6 (by decide)
  obtain ⟨p7, n8, b7, h8, c7, f7⟩ := st 0 n7 h7 (by decide)
  have e8 : n8 = 0 := by have : (2 : Nat) ^ 0 = 1 := rfl; omega
  subst e8
  have g0 : s3 (s2 (s1 0)) = 0 := by decide
  have g1 : fb_ct (fun i => (0 : Nat).testBit i) 0 = 0 := rfl
  refine ⟨p0, p1, p2, p3, p4, p5, p6, p7, ⟨b0, b1, b2, b3, b4, b5, b6, b7⟩, ?_, ?_⟩
  · show fb_ct (fun i => n.testBit i) (8 + 56) = _
    rw [c0]
    have c1' : fb_ct (fun i => n1.testBit i) 56 = p1 + fb_ct (fun i => n2.testBit i) 48 := c1
    have c2' : fb_ct (fun i => n2.testBit i) 48 = p2 + fb_ct (fun i => n3.testBit i) 40 := c2
    have c3' : fb_ct (fun i => n3.testBit i) 40 = p3 + fb_ct (fun i => n4.testBit i) 32 := c3
    have c4' : fb_ct (fun i => n4.testBit i) 32 = p4 + fb_ct (fun i => n5.testBit i) 24 := c4
    have c5' : fb_ct (fun i => n5.testBit i) 24 = p5 + fb_ct (fun i => n6.testBit i) 16 := c5
    have c6' : fb_ct (fun i => n6.testBit i) 16 = p6 + fb_ct (fun i => n7.testBit i) 8 := c6
    have c7' : fb_ct (fun i => n7.testBit i) 8 = p7 + fb_ct (fun i => (0 : Nat).testBit i) 0 := c7
    rw [c1', c2', c3', c4', c5', c6', c7', g1]
    omega
  · rw [f0, f1, f2, f3, f4, f5, f6, f7, g0, Nat.mul_zero, Nat.zero_add]
theorem lN_sub9 {a b : Nat} (h : b ≤ a) : lN a - lN b = lN (a - b) := (Int64.ofNat_sub a b h).symm
theorem lN_addN (a b : Nat) : lN a + lN b = lN (a + b) := (Int64.ofNat_add a b).symm
theorem lu {n k : Nat} (hn : n < 2 ^ 64) (hk : k < 64) : lusr (lN n) (nI k) = lN (n / 2 ^ k) := wb_shr hn hk
set_option maxRecDepth 100000 in
theorem i_bitCount {x : Int64} {σ : St} {Q : Int32 → St → Prop} (h : Q (nI (pc x)) σ) : wJ13_bitCount_95d88 x σ Q := by
  obtain ⟨n, hn, rfl⟩ := wb_of x
  have hpc : pc (lN n) = fb_ct (fun i => n.testBit i) 64 := fb_ct_cong (fun i _ => tb_lN hn i)
  obtain ⟨p0, p1, p2, p3, p4, p5, p6, p7, ⟨b0, b1, b2, b3, b4, b5, b6, b7⟩, hc, hF⟩ := F_all n hn
  unfold wJ13_bitCount_95d88
  intro x1 e1 x2 e2 x3 e3 x4 e4 x5 e5 x6 e6
  have c5 : (6148914691236517205 : Int64) = lN M5 := rfl
  have c3 : (3689348814741910323 : Int64) = lN M3 := rfl
  have cF : (1085102592571150095 : Int64) = lN MF := rfl
  have k5 : M5 < 2 ^ 64 := by decide
  have k3 : M3 < 2 ^ 64 := by decide
  have kF : MF < 2 ^ 64 := by decide
  have q1 : x1 = lN (s1 n) := by
    have g : lusr (lN n) 1 = lN (n / 2 ^ 1) := lu (k := 1) hn (by decide)
    have g1 : n / 2 ^ 1 &&& M5 ≤ n := Nat.le_trans Nat.and_le_left (Nat.div_le_self _ _)
    rw [e1, g, c5, wb_and (Nat.lt_of_le_of_lt (Nat.div_le_self _ _) hn) k5, lN_sub9 g1]
    rfl
  have j1 := s1_le n
  have q2 : x2 = lN (s2 (s1 n)) := by
    have g : lusr (lN (s1 n)) 2 = lN (s1 n / 2 ^ 2) := lu (k := 2) (by omega) (by decide)
    rw [e2, q1, g, c3, wb_and (by omega) k3, wb_and (by omega) k3, lN_addN]
    rfl
  have j2 : s2 (s1 n) ≤ 2 * M3 := by
    unfold s2
    have i1 : s1 n &&& M3 ≤ M3 := Nat.and_le_right
    have i2 : s1 n / 4 &&& M3 ≤ M3 := Nat.and_le_right
    omega
  have vm3 : M3 = 3689348814741910323 := rfl
  have q3 : x3 = lN (s3 (s2 (s1 n))) := by
    have g : lusr (lN (s2 (s1 n))) 4 = lN (s2 (s1 n) / 2 ^ 4) := lu (k := 4) (by omega) (by decide)
    rw [e3, q2, g, lN_addN, cF, wb_and (by omega) kF]
    rfl
  rw [hF] at q3
  obtain ⟨a6, ha6⟩ : ∃ a, a = 256 * p7 + p6 := ⟨_, rfl⟩
  obtain ⟨a5, ha5⟩ : ∃ a, a = 256 * a6 + p5 := ⟨_, rfl⟩
  obtain ⟨a4, ha4⟩ : ∃ a, a = 256 * a5 + p4 := ⟨_, rfl⟩
  obtain ⟨a3, ha3⟩ : ∃ a, a = 256 * a4 + p3 := ⟨_, rfl⟩
  obtain ⟨a2, ha2⟩ : ∃ a, a = 256 * a3 + p2 := ⟨_, rfl⟩
  obtain ⟨a1, ha1⟩ : ∃ a, a = 256 * a2 + p1 := ⟨_, rfl⟩
  obtain ⟨a0, ha0⟩ : ∃ a, a = 256 * a1 + p0 := ⟨_, rfl⟩
  rw [← ha6, ← ha5, ← ha4, ← ha3, ← ha2, ← ha1, ← ha0] at q3
  have l6 : a6 < 2 ^ 12 := by omega
  have l5 : a5 < 2 ^ 20 := by omega
  have l4 : a4 < 2 ^ 28 := by omega
  have l3 : a3 < 2 ^ 36 := by omega
  have l2 : a2 < 2 ^ 44 := by omega
  have l1 : a1 < 2 ^ 52 := by omega
  have l0 : a0 < 2 ^ 60 := by omega
  have v1 : a0 / 2 ^ 8 = a1 := by
    clear q1 q2 q3 hF hc ha1 ha2 ha3 ha4 ha5 ha6
    omega
  have q4 : x4 = lN (a0 + a1) := by
    have g : lusr (lN a0) 8 = lN (a0 / 2 ^ 8) := lu (k := 8) (by omega) (by decide)
    rw [e4, q3, g, lN_addN, v1]
  have v2 : (a0 + a1) / 2 ^ 16 = a2 + a3 := by
    clear q1 q2 q3 q4 hF hc ha3 ha4 ha5 ha6 v1
    omega
  have q5 : x5 = lN (a0 + a1 + (a2 + a3)) := by
    have g : lusr (lN (a0 + a1)) 16 = lN ((a0 + a1) / 2 ^ 16) := lu (k := 16) (by omega) (by decide)
    rw [e5, q4, g, lN_addN, v2]
  have r0 : a0 = 4294967296 * a4 + (16777216 * p3 + 65536 * p2 + 256 * p1 + p0) := by
    clear q1 q2 q3 q4 q5 hF hc v1 v2
    omega
  have r1 : a1 = 4294967296 * a5 + (16777216 * p4 + 65536 * p3 + 256 * p2 + p1) := by
    clear q1 q2 q3 q4 q5 hF hc v1 v2 r0
    omega
  have r2 : a2 = 4294967296 * a6 + (16777216 * p5 + 65536 * p4 + 256 * p3 + p2) := by
    clear q1 q2 q3 q4 q5 hF hc v1 v2 r0 r1
    omega
  have r3 : a3 = 4294967296 * p7 + (16777216 * p6 + 65536 * p5 + 256 * p4 + p3) := by
    clear q1 q2 q3 q4 q5 hF hc v1 v2 r0 r1 r2
    omega
  have v3 : (a0 + a1 + (a2 + a3)) / 2 ^ 32 = a4 + a5 + (a6 + p7) := by
    clear q1 q2 q3 q4 q5 hF hc v1 v2 ha0 ha1 ha2 ha3 ha4 ha5 ha6 l0 l1 l2 l3 l4 l5 l6
    omega
  have q6 : x6 = lN (a0 + a1 + (a2 + a3) + (a4 + a5 + (a6 + p7))) := by
    have g : lusr (lN (a0 + a1 + (a2 + a3))) 32 = lN ((a0 + a1 + (a2 + a3)) / 2 ^ 32) := lu (k := 32) (by omega) (by decide)
    rw [e6, q5, g, lN_addN, v3]
  have e9 : x6.toInt32 &&& 127 = nI (pc (lN n)) := by
    rw [q6, hpc, hc]
    have g : (lN (a0 + a1 + (a2 + a3) + (a4 + a5 + (a6 + p7)))).toInt32 = nI (a0 + a1 + (a2 + a3) + (a4 + a5 + (a6 + p7))) := Int64.toInt32_ofNat'
    have g2 : (127 : Int32) = nI 127 := rfl
    rw [g, g2, nx_and]
    congr 1
    have g3 := Nat.and_two_pow_sub_one_eq_mod (a0 + a1 + (a2 + a3) + (a4 + a5 + (a6 + p7))) 7
    have g4 : (2 : Nat) ^ 7 - 1 = 127 := rfl
    have g5 : (2 : Nat) ^ 7 = 128 := rfl
    rw [g4, g5] at g3
    rw [g3]
    clear q1 q2 q3 q4 q5 q6 hF hc hpc v1 v2 v3 r0 r1 r2 r3 g g2 g3 g4 g5 l0 l1 l2 l3 l4 l5 l6
    omega
  rw [e9]
  exact h
theorem i_filledCells {o : Nat} {σ : St} {Q : Int32 → St → Prop} (h : Q (nI (pc (gJ σ o 1))) σ) : wX4_filledCells o σ Q := i_bitCount h
theorem i_bitsOf {x : Int64} {σ : St} {Q : Int32 → St → Prop} (h : Q (nI (pc x)) σ) : wX6_bitsOf x σ Q := by
  have main : ∀ (m k : Nat) (y : Int64), pc y = m → k + m = pc x → wX6_bitsOf_l4 (m + 1) (nI k) y σ Q := by
    intro m
    induction m with
    | zero =>
      intro k y h1 h2
      apply wX6_bitsOf_l4_1
      refine ⟨fun _ => ?_, fun c => ?_⟩
      · rw [show k = pc x by omega]; exact h
      · rw [lg_eq0] at c
        exact absurd (pc_zero.mp h1) c
    | succ m ih =>
      intro k y h1 h2
      apply wX6_bitsOf_l4_1
      have hy : ¬ y = 0 := fun q => by rw [pc_zero.mpr q] at h1; omega
      refine ⟨fun c => ?_, fun _ x2 e2 x3 e3 => ?_⟩
      · rw [lg_eq0] at c
        exact absurd c hy
      · rw [e2, e3, nI_1]
        have := pc_pred hy
        exact ih (k + 1) _ (by omega) (by omega)
  exact ⟨pc x + 1, main (pc x) 0 x rfl (by omega)⟩
theorem s_l64 : ∀ n, n < 64 → (((nI n).toInt64 &&& 63).toBitVec.smod 64).toNat = n := by decide +kernel
theorem tb_lsr {n : Nat} (hn : n < 64) (x : Int64) {i : Nat} (hi : i < 64) : tb (lsr x (nI n)) i = if n + i < 64 then tb x (n + i) else tb x 63 := by
  unfold tb lsr
  rw [Int64.toBitVec_shiftRight]
  show (x.toBitVec.sshiftRight (((nI n).toInt64 &&& 63).toBitVec.smod 64).toNat).getLsbD i = _
  rw [s_l64 n hn, BitVec.getLsbD_sshiftRight, BitVec.msb_eq_getLsbD_last]
  simp [hi]
theorem lsr1 {x : Int64} {c : Nat} (h : c < 64) : (lsr x (nI c) &&& 1) = if tb x c then 1 else 0 := by
  have e1 : (1 : Int64) = lN 1 := rfl
  apply tb_ext
  intro i hi
  rw [tb_and, tb_lsr h x hi]
  have e2 : tb 1 i = decide (i = 0) := by
    rw [e1, tb_lN (by decide)]
    cases i with
    | zero => rfl
    | succ i => rw [Nat.testBit_succ]; simp
  rw [e2]
  by_cases h0 : i = 0
  · subst h0
    rw [if_pos (by omega), Nat.add_zero]
    cases htc : tb x c with
    | true => rw [if_pos rfl, e2]; rfl
    | false => rw [if_neg (by decide), tb_0]; rfl
  · rw [decide_eq_false h0, Bool.and_false]
    cases htc : tb x c with
    | true => rw [if_pos rfl, e2, decide_eq_false h0]
    | false => rw [if_neg Bool.false_ne_true, tb_0]
theorem i_has {x : Int64} {c : Nat} {σ : St} {Q : Int32 → St → Prop} (hc : c < 64) (h1 : tb x c = true → Q 1 σ) (h0 : tb x c = false → Q 0 σ) : wX6_has x (nI c) σ Q := by
  unfold wX6_has
  rw [lsr1 hc, lg_eq0]
  cases htc : tb x c with
  | true => exact ⟨fun q => absurd rfl q, fun _ => h1 htc⟩
  | false => exact ⟨fun _ => h0 htc, fun q => absurd q (by decide)⟩
