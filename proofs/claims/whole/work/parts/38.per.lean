/-- person -/
theorem i_person {TR : OT → Int32 → (Nat → Int32) → Prop} {X S : St} {a b c : Int32} (hR : Rel TR X S) {Q : Int32 → St → Prop} {P9 : Int32 → St → Int32 → St → Prop} (hP9 : ∀ r X1 S1, Rel TR X1 S1 → P9 r X1 r S1) : wX5_person a b c X (fun r X1 => wX6_person a b c S (fun r1 S1 => P9 r X1 r1 S1)) := by
  obtain ⟨hW, hI, hT, hP, hSh, hid⟩ := id hR
  obtain ⟨⟨w1, w2, w3, w4, n, hn, w5⟩, -, -, -⟩ := id hW.1
  have z0 : (0 : Int64).toInt = 0 := rfl
  have z5 : (5 : Int64).toInt = 5 := rfl
  have z9 : (9 : Int64).toInt = 9 := rfl
  have z3 : (3 : Int64).toInt = 3 := rfl
  have y6 : (6 : Int32).toInt = 6 := rfl
  have y10 : (10 : Int32).toInt = 10 := rfl
  have y4 : (4 : Int32).toInt = 4 := rfl
  unfold wX5_person
  refine i_isIn (fun p1 p2 => ⟨fun c => absurd c ne10, fun _ => ?_⟩) (fun h => ⟨fun _ => ?_, fun c => absurd rfl c⟩)
  · refine i_isIn (fun q1 q2 => ⟨fun c => absurd c ne10, fun _ => ?_⟩) (fun h => ⟨fun _ => ?_, fun c => absurd rfl c⟩)
    · refine i_isIn (fun r1 r2 => ⟨fun _ => ?_, fun c => absurd c ne10⟩) (fun h => ⟨fun c => absurd rfl c, fun _ => ?_⟩)
      · have hc : (nI n).toNatClampNeg = n := nI_clamp (by omega)
        unfold wX4_welcome
        refine ⟨fun g x2 e2 => ?_, fun g => ?_⟩
        · have hn5 : n < 5 := by
            rw [w4, w5, show (5 : Int32) = nI 5 from rfl, nI_ltI (by omega) (by decide)] at g
            exact g
          have e3 : x2 = nI n := by rw [e2, w4, w5]
          subst e3
          have hv : vp_in (nI n) 5 := vp_in_nI hn5 (by decide)
          refine ⟨hv, fun X1 t1 => ⟨hv, fun X2 t2 => ⟨hv, fun X3 t3 => ⟨hv, fun X4 t4 => ⟨hv, fun X5 t5 X6 t6 => ?_⟩⟩⟩⟩⟩
          unfold wX6_person
          refine i_in (fun _ _ => ⟨fun c => absurd c ne10, fun _ => ?_⟩) (fun h => absurd ⟨by rw [i64]; omega, by rw [i64]; omega⟩ h)
          refine i_in (fun _ _ => ⟨fun c => absurd c ne10, fun _ => ?_⟩) (fun h => absurd ⟨by rw [i64]; omega, by rw [i64]; omega⟩ h)
          refine i_in (fun _ _ => ⟨fun _ => ?_, fun c => absurd c ne10⟩) (fun h => absurd ⟨by rw [i64]; omega, by rw [i64]; omega⟩ h)
          refine ⟨fun _ x11 e11 => ?_, fun q => ?_⟩
          · have e12 : x11 = nI (5 * n) := by
              rw [e11, w5]
              exact (Int32.ofNat_mul 5 n).symm
            have m0 : (nI (5 * n)).toNatClampNeg = 5 * n := nI_clamp (by omega)
            have v : ∀ j, j < 5 → ∀ d : Int32, d = nI j → vp_in (nI (5 * n) + d) 25 ∧ (nI (5 * n) + d).toNatClampNeg = 5 * n + j := by
              intro j hj d hd
              rw [hd, nI_add]
              exact ⟨vp_in_nI (by omega) (by decide), nI_clamp (by omega)⟩
            obtain ⟨v1, m1⟩ := v 1 (by decide) 1 rfl
            obtain ⟨v2, m2⟩ := v 2 (by decide) 2 rfl
            obtain ⟨v3, m3⟩ := v 3 (by decide) 3 rfl
            obtain ⟨v4, m4⟩ := v 4 (by decide) 4 rfl
            subst e12
            refine ⟨vp_in_nI (by omega) (by decide), fun S1 u1 => ⟨v1, fun S2 u2 => ⟨v2, fun S3 u3 => ⟨v3, fun S4 u4 => ⟨v4, fun S5 u5 S6 u6 => ?_⟩⟩⟩⟩⟩
            rw [hc] at t1 t2 t3 t4 t5
            rw [m0] at u1
            rw [m1] at u2
            rw [m2] at u3
            rw [m3] at u4
            rw [m4] at u5
            subst t1 t2 t3 t4 t5 t6 u1 u2 u3 u4 u5 u6
            have hval : nI n = gI (sI (sA (sA (sA (sA (sA S 16 11 (5 * n) b) 16 11 (5 * n + 1) c) 16 11 (5 * n + 2) 0) 16 11 (5 * n + 3) 0) 16 11 (5 * n + 4) a) 16 12 (gI (sA (sA (sA (sA (sA S 16 11 (5 * n) b) 16 11 (5 * n + 1) c) 16 11 (5 * n + 2) 0) 16 11 (5 * n + 3) 0) 16 11 (5 * n + 4) a) 16 12 + 1)) 16 12 - 1 := by
              rw [gI_sIs]
              simp only [gI_sA]
              rw [w5, Int32.add_sub_cancel]
            rw [← hval]
            apply hP9
            refine ⟨⟨?_, by simp [gI_sI, gI_sJ, gI_sA, gI_sB, gI_sAr, gJ_sI, gJ_sJ, gJ_sA, gJ_sB, gJ_sAr, gA_sI, gA_sJ, gA_sAf, gA_sArf, gA_sArs, gA_sB, gB_sI, gB_sJ, gB_sA, o_sI, o_sJ, o_sA, o_sB, o_sAr]; exact hW.2⟩, ?_, ?_, ?_, ?_, ?_⟩
            · have k1 := WRel_kind (q := n) (v := a) hW.1 (rg_of (by omega) (by omega) (by decide))
              have k2 := WRel_number (q := n) (v := b) k1 (rg_of (by omega) (by omega) (by decide))
              have k3 := WRel_at (q := n) (v := c) k2 (rg_of (by omega) (by omega) (by decide))
              have k4 := WRel_looked (q := n) (v := 0) k3 ⟨0, by decide, rfl⟩
              have k5 := WRel_gave (q := n) (v := 0) k4 ⟨0, by decide, rfl⟩
              have k6 := WRel_people (v := nI (n + 1)) k5 ⟨n + 1, by omega, rfl⟩
              have e7 : gI (sA (sA (sA (sA (sA X 1 6 n a) 1 7 n b) 1 8 n c) 1 9 n 0) 1 10 n 0) 1 5 + 1 = nI (n + 1) := by
                simp only [gI_sA]
                rw [w4, w5, nI_1]
              have e8 : gI (sI (sA (sA (sA (sA (sA S 16 11 (5 * n) b) 16 11 (5 * n + 1) c) 16 11 (5 * n + 2) 0) 16 11 (5 * n + 3) 0) 16 11 (5 * n + 4) a) 16 12 (gI (sA (sA (sA (sA (sA S 16 11 (5 * n) b) 16 11 (5 * n + 1) c) 16 11 (5 * n + 2) 0) 16 11 (5 * n + 3) 0) 16 11 (5 * n + 4) a) 16 12 + 1)) 16 12 = nI (n + 1) := by
                rw [gI_sIs]
                simp only [gI_sA]
                rw [w5, nI_1]
              rw [e7, e8]
              simp only [gJ_sI, gJ_sA, gI_sA, gA_sI]
              rw [gI_sIf _ _ _ _ (by decide), gI_sIf _ _ _ _ (by decide)]
              simp only [gI_sA]
              refine WRel_pt (fun c hc => by simp [gI_sI, gI_sJ, gI_sA, gI_sB, gI_sAr, gJ_sI, gJ_sJ, gJ_sA, gJ_sB, gJ_sAr, gA_sI, gA_sJ, gA_sAf, gA_sArf, gA_sArs, gA_sB, gB_sI, gB_sJ, gB_sA, o_sI, o_sJ, o_sA, o_sB, o_sAr]) (fun j hj => ?_) (fun c hc => by simp [gI_sI, gI_sJ, gI_sA, gI_sB, gI_sAr, gJ_sI, gJ_sJ, gJ_sA, gJ_sB, gJ_sAr, gA_sI, gA_sJ, gA_sAf, gA_sArf, gA_sArs, gA_sB, gB_sI, gB_sJ, gB_sA, o_sI, o_sJ, o_sA, o_sB, o_sAr]) k6
              simp only [gA_sA, upd]
              simp
              grind
            · exact RI_cong (X := X) (S := S) (by simp [gI_sI, gI_sJ, gI_sA, gI_sB, gI_sAr, gJ_sI, gJ_sJ, gJ_sA, gJ_sB, gJ_sAr, gA_sI, gA_sJ, gA_sAf, gA_sArf, gA_sArs, gA_sB, gB_sI, gB_sJ, gB_sA, o_sI, o_sJ, o_sA, o_sB, o_sAr]) (by simp [gI_sI, gI_sJ, gI_sA, gI_sB, gI_sAr, gJ_sI, gJ_sJ, gJ_sA, gJ_sB, gJ_sAr, gA_sI, gA_sJ, gA_sAf, gA_sArf, gA_sArs, gA_sB, gB_sI, gB_sJ, gB_sA, o_sI, o_sJ, o_sA, o_sB, o_sAr]) (by simp [gI_sI, gI_sJ, gI_sA, gI_sB, gI_sAr, gJ_sI, gJ_sJ, gJ_sA, gJ_sB, gJ_sAr, gA_sI, gA_sJ, gA_sAf, gA_sArf, gA_sArs, gA_sB, gB_sI, gB_sJ, gB_sA, o_sI, o_sJ, o_sA, o_sB, o_sAr]) (by simp [gI_sI, gI_sJ, gI_sA, gI_sB, gI_sAr, gJ_sI, gJ_sJ, gJ_sA, gJ_sB, gJ_sAr, gA_sI, gA_sJ, gA_sAf, gA_sArf, gA_sArs, gA_sB, gB_sI, gB_sJ, gB_sA, o_sI, o_sJ, o_sA, o_sB, o_sAr]) (by simp [gI_sI, gI_sJ, gI_sA, gI_sB, gI_sAr, gJ_sI, gJ_sJ, gJ_sA, gJ_sB, gJ_sAr, gA_sI, gA_sJ, gA_sAf, gA_sArf, gA_sArs, gA_sB, gB_sI, gB_sJ, gB_sA, o_sI, o_sJ, o_sA, o_sB, o_sAr]) (by simp [gI_sI, gI_sJ, gI_sA, gI_sB, gI_sAr, gJ_sI, gJ_sJ, gJ_sA, gJ_sB, gJ_sAr, gA_sI, gA_sJ, gA_sAf, gA_sArf, gA_sArs, gA_sB, gB_sI, gB_sJ, gB_sA, o_sI, o_sJ, o_sA, o_sB, o_sAr]) (by simp [gI_sI, gI_sJ, gI_sA, gI_sB, gI_sAr, gJ_sI, gJ_sJ, gJ_sA, gJ_sB, gJ_sAr, gA_sI, gA_sJ, gA_sAf, gA_sArf, gA_sArs, gA_sB, gB_sI, gB_sJ, gB_sA, o_sI, o_sJ, o_sA, o_sB, o_sAr]) (by simp [gI_sI, gI_sJ, gI_sA, gI_sB, gI_sAr, gJ_sI, gJ_sJ, gJ_sA, gJ_sB, gJ_sAr, gA_sI, gA_sJ, gA_sAf, gA_sArf, gA_sArs, gA_sB, gB_sI, gB_sJ, gB_sA, o_sI, o_sJ, o_sA, o_sB, o_sAr]) (by simp [gI_sI, gI_sJ, gI_sA, gI_sB, gI_sAr, gJ_sI, gJ_sJ, gJ_sA, gJ_sB, gJ_sAr, gA_sI, gA_sJ, gA_sAf, gA_sArf, gA_sArs, gA_sB, gB_sI, gB_sJ, gB_sA, o_sI, o_sJ, o_sA, o_sB, o_sAr]) hI
            · exact RT_cong (X := X) (S := S) (by simp [gI_sI, gI_sJ, gI_sA, gI_sB, gI_sAr, gJ_sI, gJ_sJ, gJ_sA, gJ_sB, gJ_sAr, gA_sI, gA_sJ, gA_sAf, gA_sArf, gA_sArs, gA_sB, gB_sI, gB_sJ, gB_sA, o_sI, o_sJ, o_sA, o_sB, o_sAr]) (fun t ht => by rw [o_sI (by omega), o_sA (by omega), o_sA (by omega), o_sA (by omega), o_sA (by omega), o_sA (by omega)]) (by simp [gI_sI, gI_sJ, gI_sA, gI_sB, gI_sAr, gJ_sI, gJ_sJ, gJ_sA, gJ_sB, gJ_sAr, gA_sI, gA_sJ, gA_sAf, gA_sArf, gA_sArs, gA_sB, gB_sI, gB_sJ, gB_sA, o_sI, o_sJ, o_sA, o_sB, o_sAr]) (by simp [gI_sI, gI_sJ, gI_sA, gI_sB, gI_sAr, gJ_sI, gJ_sJ, gJ_sA, gJ_sB, gJ_sAr, gA_sI, gA_sJ, gA_sAf, gA_sArf, gA_sArs, gA_sB, gB_sI, gB_sJ, gB_sA, o_sI, o_sJ, o_sA, o_sB, o_sAr]) (by simp [gI_sI, gI_sJ, gI_sA, gI_sB, gI_sAr, gJ_sI, gJ_sJ, gJ_sA, gJ_sB, gJ_sAr, gA_sI, gA_sJ, gA_sAf, gA_sArf, gA_sArs, gA_sB, gB_sI, gB_sJ, gB_sA, o_sI, o_sJ, o_sA, o_sB, o_sAr]) (by simp [gI_sI, gI_sJ, gI_sA, gI_sB, gI_sAr, gJ_sI, gJ_sJ, gJ_sA, gJ_sB, gJ_sAr, gA_sI, gA_sJ, gA_sAf, gA_sArf, gA_sArs, gA_sB, gB_sI, gB_sJ, gB_sA, o_sI, o_sJ, o_sA, o_sB, o_sAr]) (by simp [gI_sI, gI_sJ, gI_sA, gI_sB, gI_sAr, gJ_sI, gJ_sJ, gJ_sA, gJ_sB, gJ_sAr, gA_sI, gA_sJ, gA_sAf, gA_sArf, gA_sArs, gA_sB, gB_sI, gB_sJ, gB_sA, o_sI, o_sJ, o_sA, o_sB, o_sAr]) (by simp [gI_sI, gI_sJ, gI_sA, gI_sB, gI_sAr, gJ_sI, gJ_sJ, gJ_sA, gJ_sB, gJ_sAr, gA_sI, gA_sJ, gA_sAf, gA_sArf, gA_sArs, gA_sB, gB_sI, gB_sJ, gB_sA, o_sI, o_sJ, o_sA, o_sB, o_sAr]) hT
            · exact RP_cong (X := X) (S := S) (by simp [gI_sI, gI_sJ, gI_sA, gI_sB, gI_sAr, gJ_sI, gJ_sJ, gJ_sA, gJ_sB, gJ_sAr, gA_sI, gA_sJ, gA_sAf, gA_sArf, gA_sArs, gA_sB, gB_sI, gB_sJ, gB_sA, o_sI, o_sJ, o_sA, o_sB, o_sAr]) (by simp [gI_sI, gI_sJ, gI_sA, gI_sB, gI_sAr, gJ_sI, gJ_sJ, gJ_sA, gJ_sB, gJ_sAr, gA_sI, gA_sJ, gA_sAf, gA_sArf, gA_sArs, gA_sB, gB_sI, gB_sJ, gB_sA, o_sI, o_sJ, o_sA, o_sB, o_sAr]) (by simp [gI_sI, gI_sJ, gI_sA, gI_sB, gI_sAr, gJ_sI, gJ_sJ, gJ_sA, gJ_sB, gJ_sAr, gA_sI, gA_sJ, gA_sAf, gA_sArf, gA_sArs, gA_sB, gB_sI, gB_sJ, gB_sA, o_sI, o_sJ, o_sA, o_sB, o_sAr]) hP
            · exact RSh_cong (X := X) (S := S) (fun s hs => by rw [o_sI (by omega), o_sA (by omega), o_sA (by omega), o_sA (by omega), o_sA (by omega), o_sA (by omega)]) (by simp [gI_sI, gI_sJ, gI_sA, gI_sB, gI_sAr, gJ_sI, gJ_sJ, gJ_sA, gJ_sB, gJ_sAr, gA_sI, gA_sJ, gA_sAf, gA_sArf, gA_sArs, gA_sB, gB_sI, gB_sJ, gB_sA, o_sI, o_sJ, o_sA, o_sB, o_sAr]) (by simp [gI_sI, gI_sJ, gI_sA, gI_sB, gI_sAr, gJ_sI, gJ_sJ, gJ_sA, gJ_sB, gJ_sAr, gA_sI, gA_sJ, gA_sAf, gA_sArf, gA_sArs, gA_sB, gB_sI, gB_sJ, gB_sA, o_sI, o_sJ, o_sA, o_sB, o_sAr]) (by simp [gI_sI, gI_sJ, gI_sA, gI_sB, gI_sAr, gJ_sI, gJ_sJ, gJ_sA, gJ_sB, gJ_sAr, gA_sI, gA_sJ, gA_sAf, gA_sArf, gA_sArs, gA_sB, gB_sI, gB_sJ, gB_sA, o_sI, o_sJ, o_sA, o_sB, o_sAr]) (by simp [gI_sI, gI_sJ, gI_sA, gI_sB, gI_sAr, gJ_sI, gJ_sJ, gJ_sA, gJ_sB, gJ_sAr, gA_sI, gA_sJ, gA_sAf, gA_sArf, gA_sArs, gA_sB, gB_sI, gB_sJ, gB_sA, o_sI, o_sJ, o_sA, o_sB, o_sAr]) hSh
            · simp [gI_sI, gI_sJ, gI_sA, gI_sB, gI_sAr, gJ_sI, gJ_sJ, gJ_sA, gJ_sB, gJ_sAr, gA_sI, gA_sJ, gA_sAf, gA_sArf, gA_sArs, gA_sB, gB_sI, gB_sJ, gB_sA, o_sI, o_sJ, o_sA, o_sB, o_sAr]; exact hid
          · rw [w5, show (5 : Int32) = nI 5 from rfl, nI_eq (by omega) (by decide)] at q
            omega
        · have hn5 : n = 5 := by
            rw [w4, w5, show (5 : Int32) = nI 5 from rfl, nI_ltI (by omega) (by decide)] at g
            omega
          unfold wX6_person
          refine i_in (fun _ _ => ⟨fun c => absurd c ne10, fun _ => ?_⟩) (fun h => absurd ⟨by rw [i64]; omega, by rw [i64]; omega⟩ h)
          refine i_in (fun _ _ => ⟨fun c => absurd c ne10, fun _ => ?_⟩) (fun h => absurd ⟨by rw [i64]; omega, by rw [i64]; omega⟩ h)
          refine i_in (fun _ _ => ⟨fun _ => ?_, fun c => absurd c ne10⟩) (fun h => absurd ⟨by rw [i64]; omega, by rw [i64]; omega⟩ h)
          exact ⟨fun q => absurd (by rw [w5, hn5]; rfl) q, fun _ => hP9 _ _ _ hR⟩
      · unfold wX6_person
        refine i_in (fun _ _ => ⟨fun c => absurd c ne10, fun _ => ?_⟩) (fun h => absurd ⟨by rw [i64]; omega, by rw [i64]; omega⟩ h)
        refine i_in (fun _ _ => ⟨fun c => absurd c ne10, fun _ => ?_⟩) (fun h => absurd ⟨by rw [i64]; omega, by rw [i64]; omega⟩ h)
        refine i_in (fun g1 g2 => by rw [i64] at g1 g2; omega) (fun _ => ⟨fun c => absurd rfl c, fun _ => hP9 _ _ _ hR⟩)
    · unfold wX6_person
      refine i_in (fun _ _ => ⟨fun c => absurd c ne10, fun _ => ?_⟩) (fun h => absurd ⟨by rw [i64]; omega, by rw [i64]; omega⟩ h)
      refine i_in (fun g1 g2 => by rw [i64] at g1 g2; omega) (fun _ => ⟨fun _ => hP9 _ _ _ hR, fun c => absurd rfl c⟩)
  · unfold wX6_person
    refine i_in (fun g1 g2 => by rw [i64] at g1 g2; omega) (fun _ => ⟨fun _ => hP9 _ _ _ hR, fun c => absurd rfl c⟩)
theorem sim1 {TR : OT → Int32 → (Nat → Int32) → Prop} : Sim1 (Rel TR) := fun X S a b c hR => i_person hR (Q := fun _ _ => True) (P9 := fun r X1 r1 S1 => r = r1 ∧ Rel TR X1 S1) (fun _ _ _ h => ⟨rfl, h⟩)
