/-! person, side by side; exarchate -/
theorem Rel_person {TR : OT → Int32 → (Nat → Int32) → Prop} {X S : St} {a b c : Int32} {n : Nat} (hR : Rel TR X S) (hn5 : n < 5) (w5 : gI S 16 12 = nI n) (ha : rg a 5) (hb : rg b 9) (hc : rg c 3) : Rel TR (sI (sA (sA (sA (sA (sA X 1 6 n a) 1 7 n b) 1 8 n c) 1 9 n 0) 1 10 n 0) 1 5 (nI (n + 1))) (sI (sA (sA (sA (sA (sA S 16 11 (5 * n) b) 16 11 (5 * n + 1) c) 16 11 (5 * n + 2) 0) 16 11 (5 * n + 3) 0) 16 11 (5 * n + 4) a) 16 12 (nI (n + 1))) := by
  obtain ⟨hW, hI, hT, hP, hSh, hid⟩ := id hR
  refine ⟨⟨?_, by simp [gI_sI, gI_sJ, gI_sA, gI_sB, gI_sAr, gJ_sI, gJ_sJ, gJ_sA, gJ_sB, gJ_sAr, gA_sI, gA_sJ, gA_sAf, gA_sArf, gA_sArs, gA_sB, gB_sI, gB_sJ, gB_sA, o_sI, o_sJ, o_sA, o_sB, o_sAr]; exact hW.2⟩, ?_, ?_, ?_, ?_, ?_⟩
  · have k1 := WRel_kind (q := n) (v := a) hW.1 ha
    have k2 := WRel_number (q := n) (v := b) k1 hb
    have k3 := WRel_at (q := n) (v := c) k2 hc
    have k4 := WRel_looked (q := n) (v := 0) k3 ⟨0, by decide, rfl⟩
    have k5 := WRel_gave (q := n) (v := 0) k4 ⟨0, by decide, rfl⟩
    have k6 := WRel_people (v := nI (n + 1)) k5 ⟨n + 1, by omega, rfl⟩
    rw [gI_sIs]
    simp only [gJ_sI, gJ_sA, gI_sA, gA_sI]
    rw [gI_sIf _ _ _ _ (by decide), gI_sIf _ _ _ _ (by decide)]
    simp only [gI_sA]
    refine WRel_pt (fun c hc => by simp [gI_sI, gI_sJ, gI_sA, gI_sB, gI_sAr, gJ_sI, gJ_sJ, gJ_sA, gJ_sB, gJ_sAr, gA_sI, gA_sJ, gA_sAf, gA_sArf, gA_sArs, gA_sB, gB_sI, gB_sJ, gB_sA, o_sI, o_sJ, o_sA, o_sB, o_sAr]) (fun j hj => ?_) (fun c hc => by simp [gI_sI, gI_sJ, gI_sA, gI_sB, gI_sAr, gJ_sI, gJ_sJ, gJ_sA, gJ_sB, gJ_sAr, gA_sI, gA_sJ, gA_sAf, gA_sArf, gA_sArs, gA_sB, gB_sI, gB_sJ, gB_sA, o_sI, o_sJ, o_sA, o_sB, o_sAr]) k6
    simp only [gA_sA, upd]
    simp
    grind
  · exact RI_cong (X := X) (S := S) (by simp [gI_sI, gI_sJ, gI_sA, gI_sB, gI_sAr, gJ_sI, gJ_sJ, gJ_sA, gJ_sB, gJ_sAr, gA_sI, gA_sJ, gA_sAf, gA_sArf, gA_sArs, gA_sB, gB_sI, gB_sJ, gB_sA, o_sI, o_sJ, o_sA, o_sB, o_sAr]) (by simp [gI_sI, gI_sJ, gI_sA, gI_sB, gI_sAr, gJ_sI, gJ_sJ, gJ_sA, gJ_sB, gJ_sAr, gA_sI, gA_sJ, gA_sAf, gA_sArf, gA_sArs, gA_sB, gB_sI, gB_sJ, gB_sA, o_sI, o_sJ, o_sA, o_sB, o_sAr]) (by simp [gI_sI, gI_sJ, gI_sA, gI_sB, gI_sAr, gJ_sI, gJ_sJ, gJ_sA, gJ_sB, gJ_sAr, gA_sI, gA_sJ, gA_sAf, gA_sArf, gA_sArs, gA_sB, gB_sI, gB_sJ, gB_sA, o_sI, o_sJ, o_sA, o_sB, o_sAr]) (by simp [gI_sI, gI_sJ, gI_sA, gI_sB, gI_sAr, gJ_sI, gJ_sJ, gJ_sA, gJ_sB, gJ_sAr, gA_sI, gA_sJ, gA_sAf, gA_sArf, gA_sArs, gA_sB, gB_sI, gB_sJ, gB_sA, o_sI, o_sJ, o_sA, o_sB, o_sAr]) (by simp [gI_sI, gI_sJ, gI_sA, gI_sB, gI_sAr, gJ_sI, gJ_sJ, gJ_sA, gJ_sB, gJ_sAr, gA_sI, gA_sJ, gA_sAf, gA_sArf, gA_sArs, gA_sB, gB_sI, gB_sJ, gB_sA, o_sI, o_sJ, o_sA, o_sB, o_sAr]) (by simp [gI_sI, gI_sJ, gI_sA, gI_sB, gI_sAr, gJ_sI, gJ_sJ, gJ_sA, gJ_sB, gJ_sAr, gA_sI, gA_sJ, gA_sAf, gA_sArf, gA_sArs, gA_sB, gB_sI, gB_sJ, gB_sA, o_sI, o_sJ, o_sA, o_sB, o_sAr]) (by simp [gI_sI, gI_sJ, gI_sA, gI_sB, gI_sAr, gJ_sI, gJ_sJ, gJ_sA, gJ_sB, gJ_sAr, gA_sI, gA_sJ, gA_sAf, gA_sArf, gA_sArs, gA_sB, gB_sI, gB_sJ, gB_sA, o_sI, o_sJ, o_sA, o_sB, o_sAr]) (by simp [gI_sI, gI_sJ, gI_sA, gI_sB, gI_sAr, gJ_sI, gJ_sJ, gJ_sA, gJ_sB, gJ_sAr, gA_sI, gA_sJ, gA_sAf, gA_sArf, gA_sArs, gA_sB, gB_sI, gB_sJ, gB_sA, o_sI, o_sJ, o_sA, o_sB, o_sAr]) (by simp [gI_sI, gI_sJ, gI_sA, gI_sB, gI_sAr, gJ_sI, gJ_sJ, gJ_sA, gJ_sB, gJ_sAr, gA_sI, gA_sJ, gA_sAf, gA_sArf, gA_sArs, gA_sB, gB_sI, gB_sJ, gB_sA, o_sI, o_sJ, o_sA, o_sB, o_sAr]) hI
  · exact RT_cong (X := X) (S := S) (by simp [gI_sI, gI_sJ, gI_sA, gI_sB, gI_sAr, gJ_sI, gJ_sJ, gJ_sA, gJ_sB, gJ_sAr, gA_sI, gA_sJ, gA_sAf, gA_sArf, gA_sArs, gA_sB, gB_sI, gB_sJ, gB_sA, o_sI, o_sJ, o_sA, o_sB, o_sAr]) (fun t ht => by rw [o_sI (by omega), o_sA (by omega), o_sA (by omega), o_sA (by omega), o_sA (by omega), o_sA (by omega)]) (by simp [gI_sI, gI_sJ, gI_sA, gI_sB, gI_sAr, gJ_sI, gJ_sJ, gJ_sA, gJ_sB, gJ_sAr, gA_sI, gA_sJ, gA_sAf, gA_sArf, gA_sArs, gA_sB, gB_sI, gB_sJ, gB_sA, o_sI, o_sJ, o_sA, o_sB, o_sAr]) (by simp [gI_sI, gI_sJ, gI_sA, gI_sB, gI_sAr, gJ_sI, gJ_sJ, gJ_sA, gJ_sB, gJ_sAr, gA_sI, gA_sJ, gA_sAf, gA_sArf, gA_sArs, gA_sB, gB_sI, gB_sJ, gB_sA, o_sI, o_sJ, o_sA, o_sB, o_sAr]) (by simp [gI_sI, gI_sJ, gI_sA, gI_sB, gI_sAr, gJ_sI, gJ_sJ, gJ_sA, gJ_sB, gJ_sAr, gA_sI, gA_sJ, gA_sAf, gA_sArf, gA_sArs, gA_sB, gB_sI, gB_sJ, gB_sA, o_sI, o_sJ, o_sA, o_sB, o_sAr]) (by simp [gI_sI, gI_sJ, gI_sA, gI_sB, gI_sAr, gJ_sI, gJ_sJ, gJ_sA, gJ_sB, gJ_sAr, gA_sI, gA_sJ, gA_sAf, gA_sArf, gA_sArs, gA_sB, gB_sI, gB_sJ, gB_sA, o_sI, o_sJ, o_sA, o_sB, o_sAr]) (by simp [gI_sI, gI_sJ, gI_sA, gI_sB, gI_sAr, gJ_sI, gJ_sJ, gJ_sA, gJ_sB, gJ_sAr, gA_sI, gA_sJ, gA_sAf, gA_sArf, gA_sArs, gA_sB, gB_sI, gB_sJ, gB_sA, o_sI, o_sJ, o_sA, o_sB, o_sAr]) (by simp [gI_sI, gI_sJ, gI_sA, gI_sB, gI_sAr, gJ_sI, gJ_sJ, gJ_sA, gJ_sB, gJ_sAr, gA_sI, gA_sJ, gA_sAf, gA_sArf, gA_sArs, gA_sB, gB_sI, gB_sJ, gB_sA, o_sI, o_sJ, o_sA, o_sB, o_sAr]) hT
  · exact RP_cong (X := X) (S := S) (by simp [gI_sI, gI_sJ, gI_sA, gI_sB, gI_sAr, gJ_sI, gJ_sJ, gJ_sA, gJ_sB, gJ_sAr, gA_sI, gA_sJ, gA_sAf, gA_sArf, gA_sArs, gA_sB, gB_sI, gB_sJ, gB_sA, o_sI, o_sJ, o_sA, o_sB, o_sAr]) (by simp [gI_sI, gI_sJ, gI_sA, gI_sB, gI_sAr, gJ_sI, gJ_sJ, gJ_sA, gJ_sB, gJ_sAr, gA_sI, gA_sJ, gA_sAf, gA_sArf, gA_sArs, gA_sB, gB_sI, gB_sJ, gB_sA, o_sI, o_sJ, o_sA, o_sB, o_sAr]) (by simp [gI_sI, gI_sJ, gI_sA, gI_sB, gI_sAr, gJ_sI, gJ_sJ, gJ_sA, gJ_sB, gJ_sAr, gA_sI, gA_sJ, gA_sAf, gA_sArf, gA_sArs, gA_sB, gB_sI, gB_sJ, gB_sA, o_sI, o_sJ, o_sA, o_sB, o_sAr]) hP
  · exact RSh_cong (X := X) (S := S) (fun s hs => by rw [o_sI (by omega), o_sA (by omega), o_sA (by omega), o_sA (by omega), o_sA (by omega), o_sA (by omega)]) (by simp [gI_sI, gI_sJ, gI_sA, gI_sB, gI_sAr, gJ_sI, gJ_sJ, gJ_sA, gJ_sB, gJ_sAr, gA_sI, gA_sJ, gA_sAf, gA_sArf, gA_sArs, gA_sB, gB_sI, gB_sJ, gB_sA, o_sI, o_sJ, o_sA, o_sB, o_sAr]) (by simp [gI_sI, gI_sJ, gI_sA, gI_sB, gI_sAr, gJ_sI, gJ_sJ, gJ_sA, gJ_sB, gJ_sAr, gA_sI, gA_sJ, gA_sAf, gA_sArf, gA_sArs, gA_sB, gB_sI, gB_sJ, gB_sA, o_sI, o_sJ, o_sA, o_sB, o_sAr]) (by simp [gI_sI, gI_sJ, gI_sA, gI_sB, gI_sAr, gJ_sI, gJ_sJ, gJ_sA, gJ_sB, gJ_sAr, gA_sI, gA_sJ, gA_sAf, gA_sArf, gA_sArs, gA_sB, gB_sI, gB_sJ, gB_sA, o_sI, o_sJ, o_sA, o_sB, o_sAr]) (by simp [gI_sI, gI_sJ, gI_sA, gI_sB, gI_sAr, gJ_sI, gJ_sJ, gJ_sA, gJ_sB, gJ_sAr, gA_sI, gA_sJ, gA_sAf, gA_sArf, gA_sArs, gA_sB, gB_sI, gB_sJ, gB_sA, o_sI, o_sJ, o_sA, o_sB, o_sAr]) hSh
  · simp [gI_sI, gI_sJ, gI_sA, gI_sB, gI_sAr, gJ_sI, gJ_sJ, gJ_sA, gJ_sB, gJ_sAr, gA_sI, gA_sJ, gA_sAf, gA_sArf, gA_sArs, gA_sB, gB_sI, gB_sJ, gB_sA, o_sI, o_sJ, o_sA, o_sB, o_sAr]; exact hid
theorem f_person {TR : OT → Int32 → (Nat → Int32) → Prop} {X S : St} (a b c : Int32) (hR : Rel TR X S) : ∃ (r : Int32) (X1 S1 : St), Rel TR X1 S1 ∧ (∀ p, ¬ p = 1 → X1 p = X p) ∧ (∀ f, ¬ f = 11 → gA S1 16 f = gA S 16 f) ∧ (∀ Q : Int32 → St → Prop, Q r X1 → wX5_person a b c X Q) ∧ ∀ Q : Int32 → St → Prop, Q r S1 → wX6_person a b c S Q := by
  obtain ⟨hW, hI, hT, hP, hSh, hid⟩ := id hR
  obtain ⟨⟨w1, w2, w3, w4, n, hn, w5⟩, -, -, -⟩ := id hW.1
  have z0 : (0 : Int64).toInt = 0 := rfl
  have z5 : (5 : Int64).toInt = 5 := rfl
  have z9 : (9 : Int64).toInt = 9 := rfl
  have z3 : (3 : Int64).toInt = 3 := rfl
  have y6 : (6 : Int32).toInt = 6 := rfl
  have y10 : (10 : Int32).toInt = 10 := rfl
  have y4 : (4 : Int32).toInt = 4 := rfl
  by_cases ha : 0 ≤ a.toInt ∧ a.toInt < 6
  · by_cases hb : 0 ≤ b.toInt ∧ b.toInt < 10
    · by_cases hc : 0 ≤ c.toInt ∧ c.toInt < 4
      · have cls : ∀ Q : Int32 → St → Prop, wX4_welcome 1 a b c X Q → wX5_person a b c X Q := by
          intro Q h
          unfold wX5_person
          refine i_isIn (fun _ _ => ⟨fun c => absurd c ne10, fun _ => ?_⟩) (fun q => absurd ⟨by omega, by omega⟩ q)
          refine i_isIn (fun _ _ => ⟨fun c => absurd c ne10, fun _ => ?_⟩) (fun q => absurd ⟨by omega, by omega⟩ q)
          exact i_isIn (fun _ _ => ⟨fun _ => h, fun c => absurd c ne10⟩) (fun q => absurd ⟨by omega, by omega⟩ q)
        by_cases hn5 : n < 5
        · refine ⟨nI n, (sI (sA (sA (sA (sA (sA X 1 6 n a) 1 7 n b) 1 8 n c) 1 9 n 0) 1 10 n 0) 1 5 (nI (n + 1))), (sI (sA (sA (sA (sA (sA S 16 11 (5 * n) b) 16 11 (5 * n + 1) c) 16 11 (5 * n + 2) 0) 16 11 (5 * n + 3) 0) 16 11 (5 * n + 4) a) 16 12 (nI (n + 1))), Rel_person hR hn5 w5 (rg_of (by omega) (by omega) (by decide)) (rg_of (by omega) (by omega) (by decide)) (rg_of (by omega) (by omega) (by decide)), ?_, ?_, fun Q h => cls Q ?_, fun Q h => ?_⟩
          · intro p hp
            rw [o_sI hp, o_sA hp, o_sA hp, o_sA hp, o_sA hp, o_sA hp]
          · intro f hf
            have h9 : ¬ (16 = 16 ∧ f = 11) := fun q => hf q.2
            rw [gA_sI, gA_sAf _ _ _ _ _ h9, gA_sAf _ _ _ _ _ h9, gA_sAf _ _ _ _ _ h9, gA_sAf _ _ _ _ _ h9, gA_sAf _ _ _ _ _ h9]
          · have hcl : (nI n).toNatClampNeg = n := nI_clamp (by omega)
            have hv : vp_in (nI n) 5 := vp_in_nI hn5 (by decide)
            unfold wX4_welcome
            refine ⟨fun g x2 e2 => ?_, fun g => absurd (by rw [w4, w5]; exact nI_lt hn5 (by decide)) g⟩
            have e3 : x2 = nI n := by rw [e2, w4, w5]
            subst e3
            refine ⟨hv, fun X1 t1 => ⟨hv, fun X2 t2 => ⟨hv, fun X3 t3 => ⟨hv, fun X4 t4 => ⟨hv, fun X5 t5 X6 t6 => ?_⟩⟩⟩⟩⟩
            rw [hcl] at t1 t2 t3 t4 t5
            subst t1 t2 t3 t4 t5
            rw [show gI (sA (sA (sA (sA (sA X 1 6 n a) 1 7 n b) 1 8 n c) 1 9 n 0) 1 10 n 0) 1 5 + 1 = nI (n + 1) by simp only [gI_sA]; rw [w4, w5, nI_1]] at t6
            subst t6
            exact h
          · unfold wX6_person
            refine i_in (fun _ _ => ⟨fun c => absurd c ne10, fun _ => ?_⟩) (fun h => absurd ⟨by rw [i64]; omega, by rw [i64]; omega⟩ h)
            refine i_in (fun _ _ => ⟨fun c => absurd c ne10, fun _ => ?_⟩) (fun h => absurd ⟨by rw [i64]; omega, by rw [i64]; omega⟩ h)
            refine i_in (fun _ _ => ⟨fun _ => ?_, fun c => absurd c ne10⟩) (fun h => absurd ⟨by rw [i64]; omega, by rw [i64]; omega⟩ h)
            refine ⟨fun _ x11 e11 => ?_, fun q => ?_⟩
            · have e12 : x11 = nI (5 * n) := by
                rw [e11, w5]
                exact (Int32.ofNat_mul 5 n).symm
              have m0 : (nI (5 * n)).toNatClampNeg = 5 * n := nI_clamp (by omega)
              have v : ∀ j, j < 5 → ∀ d : Int32, d = nI j → vp_in (nI (5 * n) + d) 25 ∧ (nI (5 * n) + d).toNatClampNeg = 5 * n + j := by
                intro j hj d hd
                rw [hd, nI_add]
                exact ⟨vp_in_nI (by omega) (by decide), nI_clamp (by omega)⟩
              obtain ⟨v1, m1⟩ := v 1 (by decide) 1 rfl
              obtain ⟨v2, m2⟩ := v 2 (by decide) 2 rfl
              obtain ⟨v3, m3⟩ := v 3 (by decide) 3 rfl
              obtain ⟨v4, m4⟩ := v 4 (by decide) 4 rfl
              subst e12
              refine ⟨vp_in_nI (by omega) (by decide), fun S1 u1 => ⟨v1, fun S2 u2 => ⟨v2, fun S3 u3 => ⟨v3, fun S4 u4 => ⟨v4, fun S5 u5 S6 u6 => ?_⟩⟩⟩⟩⟩
              rw [m0] at u1
              rw [m1] at u2
              rw [m2] at u3
              rw [m3] at u4
              rw [m4] at u5
              subst u1 u2 u3 u4 u5
              rw [show gI (sA (sA (sA (sA (sA S 16 11 (5 * n) b) 16 11 (5 * n + 1) c) 16 11 (5 * n + 2) 0) 16 11 (5 * n + 3) 0) 16 11 (5 * n + 4) a) 16 12 + 1 = nI (n + 1) by simp only [gI_sA]; rw [w5, nI_1]] at u6
              subst u6
              rw [gI_sIs, nI_pred]
              exact h
            · rw [w5, show (5 : Int32) = nI 5 from rfl, nI_eq (by omega) (by decide)] at q
              omega
        · have e5 : n = 5 := by omega
          subst e5
          refine ⟨-4, X, S, hR, fun _ _ => rfl, fun _ _ => rfl, fun Q h => cls Q ?_, fun Q h => ?_⟩
          · unfold wX4_welcome
            exact ⟨fun g => by rw [w4, w5] at g; exact absurd g (by decide), fun _ => h⟩
          · unfold wX6_person
            refine i_in (fun _ _ => ⟨fun c => absurd c ne10, fun _ => ?_⟩) (fun h => absurd ⟨by rw [i64]; omega, by rw [i64]; omega⟩ h)
            refine i_in (fun _ _ => ⟨fun c => absurd c ne10, fun _ => ?_⟩) (fun h => absurd ⟨by rw [i64]; omega, by rw [i64]; omega⟩ h)
            refine i_in (fun _ _ => ⟨fun _ => ?_, fun c => absurd c ne10⟩) (fun h => absurd ⟨by rw [i64]; omega, by rw [i64]; omega⟩ h)
            exact ⟨fun q => absurd w5 q, fun _ => h⟩
      · refine ⟨-2, X, S, hR, fun _ _ => rfl, fun _ _ => rfl, fun Q h => ?_, fun Q h => ?_⟩
        · unfold wX5_person
          refine i_isIn (fun _ _ => ⟨fun c => absurd c ne10, fun _ => ?_⟩) (fun q => absurd ⟨by omega, by omega⟩ q)
          refine i_isIn (fun _ _ => ⟨fun c => absurd c ne10, fun _ => ?_⟩) (fun q => absurd ⟨by omega, by omega⟩ q)
          exact i_isIn (fun _ _ => by omega) (fun _ => ⟨fun c => absurd rfl c, fun _ => h⟩)
        · unfold wX6_person
          refine i_in (fun _ _ => ⟨fun c => absurd c ne10, fun _ => ?_⟩) (fun h => absurd ⟨by rw [i64]; omega, by rw [i64]; omega⟩ h)
          refine i_in (fun _ _ => ⟨fun c => absurd c ne10, fun _ => ?_⟩) (fun h => absurd ⟨by rw [i64]; omega, by rw [i64]; omega⟩ h)
          exact i_in (fun g1 g2 => by rw [i64] at g1 g2; omega) (fun _ => ⟨fun c => absurd rfl c, fun _ => h⟩)
    · refine ⟨-2, X, S, hR, fun _ _ => rfl, fun _ _ => rfl, fun Q h => ?_, fun Q h => ?_⟩
      · unfold wX5_person
        refine i_isIn (fun _ _ => ⟨fun c => absurd c ne10, fun _ => ?_⟩) (fun q => absurd ⟨by omega, by omega⟩ q)
        exact i_isIn (fun _ _ => by omega) (fun _ => ⟨fun _ => h, fun c => absurd rfl c⟩)
      · unfold wX6_person
        refine i_in (fun _ _ => ⟨fun c => absurd c ne10, fun _ => ?_⟩) (fun h => absurd ⟨by rw [i64]; omega, by rw [i64]; omega⟩ h)
        exact i_in (fun g1 g2 => by rw [i64] at g1 g2; omega) (fun _ => ⟨fun _ => h, fun c => absurd rfl c⟩)
  · refine ⟨-2, X, S, hR, fun _ _ => rfl, fun _ _ => rfl, fun Q h => ?_, fun Q h => ?_⟩
    · unfold wX5_person
      exact i_isIn (fun _ _ => by omega) (fun _ => ⟨fun _ => h, fun c => absurd rfl c⟩)
    · unfold wX6_person
      exact i_in (fun g1 g2 => by rw [i64] at g1 g2; omega) (fun _ => ⟨fun _ => h, fun c => absurd rfl c⟩)
