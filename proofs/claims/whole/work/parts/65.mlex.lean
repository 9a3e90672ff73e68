/-! TOKENS of the reference -/
def mTok (σ : St) (Q : St → Prop) : Prop := ∀ σ8 : St, σ8 = sI σ 16 24 (gI σ 16 22) → wX6_byteAt (gI σ8 16 22) σ8 (fun r10 σ9 => ∀ σ11 : St, σ11 = sI σ9 16 23 4 → ((0 ≤ r10 → wX6_in (r10.toInt64) 97 122 σ11 (fun r14 σ13 => ((r14 = 0 → wX6_in (r10.toInt64) 48 57 σ13 (fun r17 σ16 => ((r17 = 0 → ((r10 = 40 → (wX6_next_j300 r10 σ16 Q)) ∧ (¬ r10 = 40 → ((r10 = 41 → (wX6_next_j300 r10 σ16 Q)) ∧ (¬ r10 = 41 → ((r10 = 59 → (wX6_next_j300 r10 σ16 Q)) ∧ (¬ r10 = 59 → ((r10 = 43 → (wX6_next_j300 r10 σ16 Q)) ∧ (¬ r10 = 43 → ((r10 = 45 → (wX6_next_j300 r10 σ16 Q)) ∧ (¬ r10 = 45 → ((r10 = 42 → (wX6_next_j300 r10 σ16 Q)) ∧ (¬ r10 = 42 → ((r10 = 60 → (wX6_next_j300 r10 σ16 Q)) ∧ (¬ r10 = 60 → ((¬ r10 = 61 → Q σ16) ∧ (r10 = 61 → (wX6_next_j300 r10 σ16 Q)))))))))))))))))) ∧ (¬ r17 = 0 → ∀ σ30 : St, σ30 = sI σ16 16 23 2 → ∀ σ31 : St, σ31 = sJ σ30 16 25 0 → ∃ n45 : Nat, wX6_next_l160 n45 0 σ31 Q)))) ∧ (¬ r14 = 0 → ∀ σ46 : St, σ46 = sI σ13 16 23 1 → ∃ n53 : Nat, wX6_next_l100 n53 σ46 Q)))) ∧ (¬ 0 ≤ r10 → ∀ σ4 : St, σ4 = sI σ11 16 23 0 → ∀ σ5 : St, σ5 = sI σ4 16 24 (gI σ4 16 21) → Q σ5)))
def FrN (S T : St) : Prop := (∀ f, ¬ f = 22 → ¬ f = 23 → ¬ f = 24 → gI T 16 f = gI S 16 f) ∧ (∀ f, gA T 16 f = gA S 16 f) ∧ ∀ f, ¬ f = 25 → gJ T 16 f = gJ S 16 f
theorem FrN_refl (S : St) : FrN S S := ⟨fun _ _ _ _ => rfl, fun _ => rfl, fun _ _ => rfl⟩
theorem FrN_trans {A B C : St} (h : FrN A B) (g : FrN B C) : FrN A C := ⟨fun f h1 h2 h3 => (g.1 f h1 h2 h3).trans (h.1 f h1 h2 h3), fun f => (g.2.1 f).trans (h.2.1 f), fun f hf => (g.2.2 f hf).trans (h.2.2 f hf)⟩
theorem FrN_sI {S : St} {f : Nat} {v : Int32} (h : 22 ≤ f) (h2 : f ≤ 24) : FrN S (sI S 16 f v) := ⟨fun g _ _ _ => gI_sIf _ _ _ _ (by omega), fun g => gA_sI _ _ _ _ _ _, fun g _ => gJ_sI _ _ _ _ _ _⟩
theorem FrN_sJ {S : St} {v : Int64} : FrN S (sJ S 16 25 v) := ⟨fun g _ _ _ => gI_sJ _ _ _ _ _ _, fun g => gA_sJ _ _ _ _ _ _, fun g hg => gJ_sJf _ _ _ _ (by omega)⟩
def MT (b : Nat → Int32) (n t : Nat) (S : St) : Prop := gI S 16 20 = nI (160 * t) ∧ gI S 16 21 = nI n ∧ ∀ i, i < n → gA S 16 1 (160 * t + i) = b i
theorem MT_N {b : Nat → Int32} {n t : Nat} {S T : St} (h : FrN S T) (hT : MT b n t S) : MT b n t T := ⟨by rw [h.1 20 (by decide) (by decide) (by decide)]; exact hT.1, by rw [h.1 21 (by decide) (by decide) (by decide)]; exact hT.2.1, fun i hi => by rw [h.2.1]; exact hT.2.2 i hi⟩
def bxF (b : Nat → Int32) (n q : Nat) : Int32 := if q < n then b q else -1
theorem i_byteAt {b : Nat → Int32} {n t q : Nat} {S : St} {Q : Int32 → St → Prop} (hn : n ≤ 160) (ht : t < 6) (hT : MT b n t S) (hq : q ≤ 200) (h : Q (bxF b n q) S) : wX6_byteAt (nI q) S Q := by
  unfold wX6_byteAt
  unfold bxF at h
  rw [hT.1, hT.2.1, nI_leI (by omega) (by omega)]
  refine ⟨fun c => ?_, fun c => ?_⟩
  · rw [if_neg (by omega)] at h; exact h
  · rw [if_pos (by omega)] at h
    rw [nI_add, nI_clamp (by omega), hT.2.2 q (by omega)]
    exact ⟨vp_in_nI (by omega) (by decide), h⟩
theorem i_inL {x : Int32} {σ : St} {Q : Int32 → St → Prop} (h1 : isLt x = true → Q 1 σ) (h0 : isLt x = false → Q 0 σ) : wX6_in x.toInt64 97 122 σ Q := by
  have a1 : (97 : Int64).toInt = 97 := rfl
  have a2 : (122 : Int64).toInt = 122 := rfl
  refine i_in (fun c d => h1 ?_) (fun c => h0 ?_)
  · rw [i64, a1] at c; rw [i64, a2] at d
    unfold isLt
    rw [decide_eq_true c, decide_eq_true d]; rfl
  · rw [i64, a1, a2] at c
    unfold isLt
    by_cases z : 97 ≤ x.toInt
    · rw [decide_eq_false (p := x.toInt ≤ 122) (by omega), Bool.and_false]
    · rw [decide_eq_false z]; rfl
theorem i_inD {x : Int32} {σ : St} {Q : Int32 → St → Prop} (h1 : isDg x = true → Q 1 σ) (h0 : isDg x = false → Q 0 σ) : wX6_in x.toInt64 48 57 σ Q := by
  have a1 : (48 : Int64).toInt = 48 := rfl
  have a2 : (57 : Int64).toInt = 57 := rfl
  refine i_in (fun c d => h1 ?_) (fun c => h0 ?_)
  · rw [i64, a1] at c; rw [i64, a2] at d
    unfold isDg
    rw [decide_eq_true c, decide_eq_true d]; rfl
  · rw [i64, a1, a2] at c
    unfold isDg
    by_cases z : 48 ≤ x.toInt
    · rw [decide_eq_false (p := x.toInt ≤ 57) (by omega), Bool.and_false]
    · rw [decide_eq_false z]; rfl
def kdA (b : Nat → Int32) (n a : Nat) : Int32 := if n ≤ a then 0 else if isLt (b a) then 1 else if isDg (b a) then (if sp isDg b n a - a ≤ 4 then 2 else 4) else if isSg (b a) then 3 else 4
def MTk (b : Nat → Int32) (n : Nat) (S : St) (a : Nat) : Prop := gI S 16 23 = kdA b n a ∧ gI S 16 24 = nI a ∧ (¬ kdA b n a = 4 → gI S 16 22 = nI (nxA b n a)) ∧ (kdA b n a = 2 → (gJ S 16 25).toInt32 = nuA b n a) ∧ (kdA b n a = 3 → gJ S 16 25 = (b a).toInt64)
theorem m_wl {b : Nat → Int32} {n t : Nat} (hn : n ≤ 160) (ht : t < 6) {Q : St → Prop} : ∀ (m q : Nat) (S : St), n - q = m → q ≤ n → MT b n t S → gI S 16 22 = nI q → (∀ T, FrN S T → gI T 16 22 = nI (sp isLt b n q) → gI T 16 23 = gI S 16 23 → gI T 16 24 = gI S 16 24 → Q T) → wX6_next_l100 (m + 1) S Q := by
  intro m
  induction m with
  | zero =>
    intro q S hm hq hT e K
    have eq : q = n := by omega
    apply wX6_next_l100_1
    unfold wX6_next_l100s
    rw [e]
    have eb : bxF b n q = -1 := if_neg (by omega)
    refine i_byteAt hn ht hT (by omega) ?_
    rw [eb]
    refine i_inL (fun z => absurd z (by decide)) (fun _ => ⟨fun _ => K S (FrN_refl S) ?_ rfl rfl, fun q => absurd rfl q⟩)
    rw [sp_end (by omega)]; exact e
  | succ m ih =>
    intro q S hm hq hT e K
    have hq' : q < n := by omega
    apply wX6_next_l100_1
    unfold wX6_next_l100s
    rw [e]
    have eb : bxF b n q = b q := if_pos hq'
    refine i_byteAt hn ht hT (by omega) ?_
    rw [eb]
    refine i_inL (fun z => ⟨fun q => absurd q ne10, fun _ σ52 s52 => ?_⟩) (fun z => ⟨fun _ => K S (FrN_refl S) ?_ rfl rfl, fun q => absurd rfl q⟩)
    · rw [e, nI_1] at s52
      have F : FrN S σ52 := by rw [s52]; exact FrN_sI (by decide) (by decide)
      refine ih (q + 1) σ52 (by omega) (by omega) (MT_N F hT) (by rw [s52, gI_sIs]) (fun T FT t2 t3 t4 => K T (FrN_trans F FT) ?_ ?_ ?_)
      · rw [sp_yes hq' z]; exact t2
      · rw [t3, s52, gI_sIf _ _ _ _ (by decide)]
      · rw [t4, s52, gI_sIf _ _ _ _ (by decide)]
    · rw [sp_no z]; exact e
theorem m_dl {b : Nat → Int32} {n t a : Nat} (hn : n ≤ 160) (ht : t < 6) {Q : St → Prop} {S : St} (ha : a ≤ n) (hT : MT b n t S) (e : gI S 16 22 = nI a) (e0 : gJ S 16 25 = 0) (e4 : gI S 16 24 = nI a) (K : ∀ T, FrN S T → gI T 16 23 = (if sp isDg b n a - a ≤ 4 then 2 else 4) → gI T 16 24 = nI a → gI T 16 22 = nI (sp isDg b n a) → (sp isDg b n a - a ≤ 4 → (gJ T 16 25).toInt32 = nuA b n a) → Q T) : ∃ k, wX6_next_l160 k 0 S Q := by
  have hle := sp_le (P := isDg) (b := b) ha
  have main : ∀ (m q : Nat) (T : St), n - q = m → a ≤ q → q ≤ n → FrN S T → gI T 16 22 = nI q → gI T 16 24 = nI a → sp isDg b n q = sp isDg b n a → (sp isDg b n a - a ≤ 4 → nuf b (sp isDg b n a - q) q (gJ T 16 25).toInt32 = nuA b n a) → wX6_next_l160 (m + 1) (nI (q - a)) T Q := by
    intro m
    induction m with
    | zero =>
      intro q T hm haq hq F t2 t4 es en
      have eq : q = n := by omega
      apply wX6_next_l160_1
      unfold wX6_next_l160s
      rw [t2]
      have eb : bxF b n q = -1 := if_neg (by omega)
      refine i_byteAt hn ht (MT_N F hT) (by omega) ?_
      rw [eb]
      rw [sp_end (by omega)] at es
      rw [← es] at K en
      rw [show (4 : Int32) = nI 4 from rfl, nI_leI (by omega) (by decide)]
      refine i_inD (fun z => absurd z (by decide)) (fun _ => ⟨fun _ => ⟨fun c σ s => K σ (by rw [s]; exact FrN_trans F (FrN_sI (by decide) (by decide))) (by rw [s, gI_sIs, if_pos c]) (by rw [s, gI_sIf _ _ _ _ (by decide)]; exact t4) (by rw [s, gI_sIf _ _ _ _ (by decide)]; exact t2) (fun c => ?_), fun c σ s => K σ (by rw [s]; exact FrN_trans F (FrN_sI (by decide) (by decide))) (by rw [s, gI_sIs, if_neg c]; rfl) (by rw [s, gI_sIf _ _ _ _ (by decide)]; exact t4) (by rw [s, gI_sIf _ _ _ _ (by decide)]; exact t2) (fun c2 => absurd c2 c)⟩, fun q => absurd rfl q⟩)
      have h9 := en c
      rw [Nat.sub_self] at h9
      rw [s, gJ_sI]
      exact h9
    | succ m ih =>
      intro q T hm haq hq F t2 t4 es en
      have hq' : q < n := by omega
      apply wX6_next_l160_1
      unfold wX6_next_l160s
      rw [t2]
      have eb : bxF b n q = b q := if_pos hq'
      refine i_byteAt hn ht (MT_N F hT) (by omega) ?_
      rw [eb]
      rw [show (4 : Int32) = nI 4 from rfl, nI_leI (by omega) (by decide), nI_leI (by decide) (by omega)]
      refine i_inD (fun z => ⟨fun q => absurd q ne10, fun _ => ?_⟩) (fun z => ⟨fun _ => ?_, fun q => absurd rfl q⟩)
      · rw [sp_yes hq' z] at es
        have hlq := sp_le (P := isDg) (b := b) (n := n) (p := q + 1) (by omega)
        have st : ∀ v, (sp isDg b n a - a ≤ 4 → nuf b (sp isDg b n a - (q + 1)) (q + 1) v.toInt32 = nuA b n a) → wX6_next_j216 (nI (q - a)) v T (fun a2 σ => wX6_next_l160 (m + 1) a2 σ Q) Q := by
          intro v hv σ40 s40 x41 e41 σ42 s42
          have f22 : gI σ40 16 22 = nI q := by rw [s40, gI_sJ]; exact t2
          rw [f22, nI_1] at s42
          rw [e41, nI_1, show q - a + 1 = q + 1 - a by omega]
          refine ih (q + 1) σ42 (by omega) (by omega) (by omega) (FrN_trans F (by rw [s42]; exact FrN_trans (by rw [s40]; exact FrN_sJ) (FrN_sI (by decide) (by decide)))) (by rw [s42, gI_sIs]) (by rw [s42, gI_sIf _ _ _ _ (by decide), s40, gI_sJ]; exact t4) es (fun c => ?_)
          rw [s42, gJ_sI, s40, gJ_sJs]
          exact hv c
        refine ⟨fun c => st _ (fun c2 => by omega), fun c => ?_⟩
        rw [t2]
        refine i_byteAt hn ht (MT_N F hT) (by omega) (st _ (fun c2 => ?_))
        rw [eb, ← en c2, show sp isDg b n a - q = (sp isDg b n a - (q + 1)) + 1 by omega]
        show _ = nuf b _ (q + 1) ((gJ T 16 25).toInt32 * 10 + b q - 48)
        congr 1
        rw [Int64.toInt32_sub, Int64.toInt32_add, Int64.toInt32_mul, Int32.toInt32_toInt64, Int32.mul_comm]
        rfl
      · rw [sp_no z] at es
        rw [← es] at K en
        refine ⟨fun c σ s => K σ (by rw [s]; exact FrN_trans F (FrN_sI (by decide) (by decide))) (by rw [s, gI_sIs, if_pos c]) (by rw [s, gI_sIf _ _ _ _ (by decide)]; exact t4) (by rw [s, gI_sIf _ _ _ _ (by decide)]; exact t2) (fun c => ?_), fun c σ s => K σ (by rw [s]; exact FrN_trans F (FrN_sI (by decide) (by decide))) (by rw [s, gI_sIs, if_neg c]; rfl) (by rw [s, gI_sIf _ _ _ _ (by decide)]; exact t4) (by rw [s, gI_sIf _ _ _ _ (by decide)]; exact t2) (fun c2 => absurd c2 c)⟩
        have h9 := en c
        rw [Nat.sub_self] at h9
        rw [s, gJ_sI]
        exact h9
  have h0 := main (n - a) a S rfl (Nat.le_refl _) ha (FrN_refl S) e e4 rfl (fun _ => by rw [e0]; rfl)
  rw [Nat.sub_self] at h0
  exact ⟨n - a + 1, h0⟩
theorem m_tok {b : Nat → Int32} {n t a : Nat} {S : St} {Q : St → Prop} (hn : n ≤ 160) (ht : t < 6) (hB : ∀ i, i < n → rg (b i) 255) (ha : a ≤ n) (hT : MT b n t S) (e : gI S 16 22 = nI a) (K : ∀ T, FrN S T → MTk b n T a → Q T) : mTok S Q := by
  intro σ8 s8
  have F8 : FrN S σ8 := by rw [s8]; exact FrN_sI (by decide) (by decide)
  have h2 : gI σ8 16 22 = nI a := by rw [s8, gI_sIf _ _ _ _ (by decide)]; exact e
  have h4 : gI σ8 16 24 = nI a := by rw [s8, gI_sIs]; exact e
  rw [h2]
  refine i_byteAt hn ht (MT_N F8 hT) (by omega) (fun σ11 s11 => ?_)
  have F11 : FrN S σ11 := by rw [s11]; exact FrN_trans F8 (FrN_sI (by decide) (by decide))
  have g2 : gI σ11 16 22 = nI a := by rw [s11, gI_sIf _ _ _ _ (by decide)]; exact h2
  have g4 : gI σ11 16 24 = nI a := by rw [s11, gI_sIf _ _ _ _ (by decide)]; exact h4
  have g3 : gI σ11 16 23 = 4 := by rw [s11, gI_sIs]
  have hT11 := MT_N F11 hT
  unfold bxF
  by_cases ca : a < n
  · rw [if_pos ca]
    have h255 := rg_in (hB a ca) (by decide)
    have n1 : ¬ n ≤ a := Nat.not_le.mpr ca
    refine ⟨fun _ => i_inL (fun z => ⟨fun q => absurd q ne10, fun _ σ46 s46 => ?_⟩) (fun z => ⟨fun _ => i_inD (fun y => ⟨fun q => absurd q ne10, fun _ σ30 s30 σ31 s31 => ?_⟩) (fun y => ⟨fun _ => ?_, fun q => absurd rfl q⟩), fun q => absurd rfl q⟩), fun c => absurd ?_ c⟩
    · have F46 : FrN σ11 σ46 := by rw [s46]; exact FrN_sI (by decide) (by decide)
      refine ⟨n - a + 1, m_wl hn ht (n - a) a σ46 rfl ha (MT_N F46 hT11) (by rw [s46, gI_sIf _ _ _ _ (by decide)]; exact g2) (fun T FT t2 t3 t4 => K T (FrN_trans (FrN_trans F11 F46) FT) ?_)⟩
      have ek : kdA b n a = 1 := by unfold kdA; rw [if_neg n1, if_pos z]
      refine ⟨?_, ?_, fun _ => ?_, fun q => ?_, fun q => ?_⟩
      · rw [t3, s46, gI_sIs, ek]
      · rw [t4, s46, gI_sIf _ _ _ _ (by decide)]; exact g4
      · rw [t2]; unfold nxA; rw [if_neg n1, if_pos z]
      · rw [ek] at q; exact absurd q (by decide)
      · rw [ek] at q; exact absurd q (by decide)
    · have z9 : ¬ isLt (b a) = true := by rw [z]; decide
      have F31 : FrN σ11 σ31 := by rw [s31]; exact FrN_trans (by rw [s30]; exact FrN_sI (by decide) (by decide)) FrN_sJ
      refine m_dl hn ht ha (MT_N F31 hT11) (by rw [s31, gI_sJ, s30, gI_sIf _ _ _ _ (by decide)]; exact g2) (by rw [s31, gJ_sJs]) (by rw [s31, gI_sJ, s30, gI_sIf _ _ _ _ (by decide)]; exact g4) (fun T FT t3 t4 t2 t5 => K T (FrN_trans (FrN_trans F11 F31) FT) ?_)
      have ek : kdA b n a = (if sp isDg b n a - a ≤ 4 then 2 else 4) := by unfold kdA; rw [if_neg n1, if_neg z9, if_pos y]
      refine ⟨by rw [ek]; exact t3, t4, fun _ => ?_, fun q => ?_, fun q => ?_⟩
      · rw [t2]; unfold nxA; rw [if_neg n1, if_neg z9, if_pos y]
      · rw [ek] at q
        by_cases c : sp isDg b n a - a ≤ 4
        · exact t5 c
        · rw [if_neg c] at q; exact absurd q (by decide)
      · rw [ek] at q
        split at q <;> exact absurd q (by decide)
    · have z9 : ¬ isLt (b a) = true := by rw [z]; decide
      have y9 : ¬ isDg (b a) = true := by rw [y]; decide
      have sg : isSg (b a) = true → wX6_next_j300 (b a) σ11 Q := by
        intro x σ20 s20 σ21 s21 σ22 s22
        have ek : kdA b n a = 3 := by unfold kdA; rw [if_neg n1, if_neg z9, if_neg y9, if_pos x]
        have f22 : gI σ21 16 22 = nI a := by rw [s21, gI_sJ, s20, gI_sIf _ _ _ _ (by decide)]; exact g2
        rw [f22, nI_1] at s22
        refine K σ22 (FrN_trans F11 (by rw [s22]; exact FrN_trans (by rw [s21]; exact FrN_trans (by rw [s20]; exact FrN_sI (by decide) (by decide)) FrN_sJ) (FrN_sI (by decide) (by decide)))) ⟨?_, ?_, fun _ => ?_, fun q => ?_, fun _ => ?_⟩
        · rw [s22, gI_sIf _ _ _ _ (by decide), s21, gI_sJ, s20, gI_sIs, ek]
        · rw [s22, gI_sIf _ _ _ _ (by decide), s21, gI_sJ, s20, gI_sIf _ _ _ _ (by decide)]; exact g4
        · rw [s22, gI_sIs]; unfold nxA; rw [if_neg n1, if_neg z9, if_neg y9]
        · rw [ek] at q; exact absurd q (by decide)
        · rw [s22, gJ_sI, s21, gJ_sJs]
      have no : isSg (b a) = false → Q σ11 := by
        intro x
        have x9 : ¬ isSg (b a) = true := by rw [x]; decide
        have ek : kdA b n a = 4 := by unfold kdA; rw [if_neg n1, if_neg z9, if_neg y9, if_neg x9]
        exact K σ11 F11 ⟨by rw [g3, ek], g4, fun q => absurd ek q, fun q => by rw [ek] at q; exact absurd q (by decide), fun q => by rw [ek] at q; exact absurd q (by decide)⟩
      unfold isSg at sg no
      refine ⟨fun c => sg (by simp [c]), fun c1 => ⟨fun c => sg (by simp [c]), fun c2 => ⟨fun c => sg (by simp [c]), fun c3 => ⟨fun c => sg (by simp [c]), fun c4 => ⟨fun c => sg (by simp [c]), fun c5 => ⟨fun c => sg (by simp [c]), fun c6 => ⟨fun c => sg (by simp [c]), fun c7 => ⟨fun c8 => no (by simp [c1, c2, c3, c4, c5, c6, c7, c8]), fun c => sg (by simp [c])⟩⟩⟩⟩⟩⟩⟩⟩
    · rw [Int32.le_iff_toInt_le, z32]; exact h255.1
  · rw [if_neg ca]
    have ea : n ≤ a := Nat.not_lt.mp ca
    have en : a = n := by omega
    refine ⟨fun c => absurd c (by decide), fun _ σ54 s54 σ55 s55 => K σ55 (FrN_trans F11 (by rw [s55]; exact FrN_trans (by rw [s54]; exact FrN_sI (by decide) (by decide)) (FrN_sI (by decide) (by decide)))) ?_⟩
    have ek : kdA b n a = 0 := by unfold kdA; rw [if_pos ea]
    refine ⟨?_, ?_, fun _ => ?_, fun q => ?_, fun q => ?_⟩
    · rw [s55, gI_sIf _ _ _ _ (by decide), s54, gI_sIs, ek]
    · rw [s55, gI_sIs, s54, gI_sIf _ _ _ _ (by decide), hT11.2.1, en]
    · rw [s55, gI_sIf _ _ _ _ (by decide), s54, gI_sIf _ _ _ _ (by decide), g2]; unfold nxA; rw [if_pos ea]
    · rw [ek] at q; exact absurd q (by decide)
    · rw [ek] at q; exact absurd q (by decide)
theorem m_next {b : Nat → Int32} {n t q : Nat} {S : St} {Q : St → Prop} (hn : n ≤ 160) (ht : t < 6) (hB : ∀ i, i < n → rg (b i) 255) (hq : q ≤ n) (hT : MT b n t S) (e : gI S 16 22 = nI q) (K : ∀ T, FrN S T → MTk b n T (lxA b n q) → Q T) : wX6_next S Q := by
  have main : ∀ (m r : Nat) (T : St), n - r = m → r ≤ n → FrN S T → gI T 16 22 = nI r → lxA b n r = lxA b n q → wX6_next_l0 (m + 1) T Q := by
    intro m
    induction m with
    | zero =>
      intro r T hm hr F t2 ex
      have er : r = n := by omega
      have hT2 := MT_N F hT
      apply wX6_next_l0_1
      unfold wX6_next_l0s
      rw [t2]
      have eb : bxF b n r = -1 := if_neg (by omega)
      refine i_byteAt hn ht hT2 (by omega) ?_
      rw [eb]
      refine ⟨fun c => absurd c (by decide), fun _ => ?_⟩
      rw [t2]
      refine i_byteAt hn ht hT2 (by omega) ?_
      rw [eb]
      refine ⟨fun _ => ?_, fun c => absurd c (by decide)⟩
      refine m_tok hn ht hB hr hT2 t2 (fun V FV hV => K V (FrN_trans F FV) ?_)
      rw [← ex, show lxA b n r = r from sp_end (by omega)]
      exact hV
    | succ m ih =>
      intro r T hm hr F t2 ex
      have hr' : r < n := by omega
      have hT2 := MT_N F hT
      have go : isBl (b r) = true → wX6_next_j26 T (fun σ => wX6_next_l0 (m + 1) σ Q) Q := by
        intro z σ4 s4
        rw [t2, nI_1] at s4
        refine ih (r + 1) σ4 (by omega) (by omega) (FrN_trans F (by rw [s4]; exact FrN_sI (by decide) (by decide))) (by rw [s4, gI_sIs]) ?_
        rw [← ex]
        exact (sp_yes hr' z).symm
      apply wX6_next_l0_1
      unfold wX6_next_l0s
      rw [t2]
      have eb : bxF b n r = b r := if_pos hr'
      refine i_byteAt hn ht hT2 (by omega) ?_
      rw [eb]
      refine ⟨fun c => go (by unfold isBl; simp [c]), fun c => ?_⟩
      rw [t2]
      refine i_byteAt hn ht hT2 (by omega) ?_
      rw [eb]
      refine ⟨fun d => ?_, fun d => go (by unfold isBl; simp [d])⟩
      refine m_tok hn ht hB hr hT2 t2 (fun V FV hV => K V (FrN_trans F FV) ?_)
      rw [← ex, show lxA b n r = r from sp_no (by unfold isBl; simp [c, d])]
      exact hV
  exact ⟨n - q + 1, main (n - q) q S rfl hq (FrN_refl S) e rfl⟩
