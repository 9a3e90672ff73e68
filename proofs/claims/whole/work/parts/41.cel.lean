/-! cell -/
def vv (so v : Int32) : Int32 := if so = 0 then v.toInt8.toInt32 else if so = 1 then v.toInt16.toInt32 else v
theorem i_put {X : St} {o : Nat} {i v : Int32} {Q : St → Prop} (hi : vp_in i 40) (h : Q (sA X o 0 i.toNatClampNeg (vv (gI X o 2) v))) : wX2_put o i v X Q := by
  unfold wX2_put
  unfold vv at h
  refine ⟨fun c0 => ⟨fun c1 => ⟨hi, fun Y e => ?_⟩, fun c1 => ⟨hi, fun Y e => ?_⟩⟩, fun c0 => ⟨hi, fun Y e => ?_⟩⟩
  · rw [if_neg c0, if_neg c1] at h; rw [e]; exact h
  · rw [if_neg c0, if_pos c1] at h; rw [e]; exact h
  · rw [if_pos c0] at h; rw [e]; exact h
theorem i_miss {X : St} {o : Nat} {Q : Int32 → St → Prop} (h0 : ¬ gI X o 2 = -1 → Q 0 X) (h1 : gI X o 2 = -1 → Q 1 X) : wX2_isMissing o X Q := ⟨h0, h1⟩
theorem Rel_item {TR : OT → Int32 → (Nat → Int32) → Prop} {X S : St} {s i n : Nat} {v : Int32} (hR : Rel TR X S) (hs : s < 4) (hn : gA S 16 41 s = nI n) (hn4 : n ≤ 40) (hi : i < n) : Rel TR (sA X (12 + s) 0 i v) (sA S 16 42 (40 * s + i) v) := by
  obtain ⟨hW, hI, hT, hP, hSh, hid⟩ := hR
  refine ⟨?_, ?_, ?_, ?_, ?_, ?_⟩
  · exact RW_cong (X := X) (S := S) (o_sA (by omega)) (by simp [gI_sI, gI_sJ, gI_sA, gI_sB, gI_sAr, gJ_sI, gJ_sJ, gJ_sA, gJ_sB, gJ_sAr, gA_sI, gA_sJ, gA_sAf, gA_sArf, gA_sArs, gA_sB, gB_sI, gB_sJ, gB_sA, o_sI, o_sJ, o_sA, o_sB, o_sAr]) (by simp [gI_sI, gI_sJ, gI_sA, gI_sB, gI_sAr, gJ_sI, gJ_sJ, gJ_sA, gJ_sB, gJ_sAr, gA_sI, gA_sJ, gA_sAf, gA_sArf, gA_sArs, gA_sB, gB_sI, gB_sJ, gB_sA, o_sI, o_sJ, o_sA, o_sB, o_sAr]) (by simp [gI_sI, gI_sJ, gI_sA, gI_sB, gI_sAr, gJ_sI, gJ_sJ, gJ_sA, gJ_sB, gJ_sAr, gA_sI, gA_sJ, gA_sAf, gA_sArf, gA_sArs, gA_sB, gB_sI, gB_sJ, gB_sA, o_sI, o_sJ, o_sA, o_sB, o_sAr]) (by simp [gI_sI, gI_sJ, gI_sA, gI_sB, gI_sAr, gJ_sI, gJ_sJ, gJ_sA, gJ_sB, gJ_sAr, gA_sI, gA_sJ, gA_sAf, gA_sArf, gA_sArs, gA_sB, gB_sI, gB_sJ, gB_sA, o_sI, o_sJ, o_sA, o_sB, o_sAr]) (by simp [gI_sI, gI_sJ, gI_sA, gI_sB, gI_sAr, gJ_sI, gJ_sJ, gJ_sA, gJ_sB, gJ_sAr, gA_sI, gA_sJ, gA_sAf, gA_sArf, gA_sArs, gA_sB, gB_sI, gB_sJ, gB_sA, o_sI, o_sJ, o_sA, o_sB, o_sAr]) (by simp [gI_sI, gI_sJ, gI_sA, gI_sB, gI_sAr, gJ_sI, gJ_sJ, gJ_sA, gJ_sB, gJ_sAr, gA_sI, gA_sJ, gA_sAf, gA_sArf, gA_sArs, gA_sB, gB_sI, gB_sJ, gB_sA, o_sI, o_sJ, o_sA, o_sB, o_sAr]) (by simp [gI_sI, gI_sJ, gI_sA, gI_sB, gI_sAr, gJ_sI, gJ_sJ, gJ_sA, gJ_sB, gJ_sAr, gA_sI, gA_sJ, gA_sAf, gA_sArf, gA_sArs, gA_sB, gB_sI, gB_sJ, gB_sA, o_sI, o_sJ, o_sA, o_sB, o_sAr]) hW
  · exact RI_cong (X := X) (S := S) (by rw [gI_sA]) (o_sA (by omega)) (by simp [gI_sI, gI_sJ, gI_sA, gI_sB, gI_sAr, gJ_sI, gJ_sJ, gJ_sA, gJ_sB, gJ_sAr, gA_sI, gA_sJ, gA_sAf, gA_sArf, gA_sArs, gA_sB, gB_sI, gB_sJ, gB_sA, o_sI, o_sJ, o_sA, o_sB, o_sAr]) (by simp [gI_sI, gI_sJ, gI_sA, gI_sB, gI_sAr, gJ_sI, gJ_sJ, gJ_sA, gJ_sB, gJ_sAr, gA_sI, gA_sJ, gA_sAf, gA_sArf, gA_sArs, gA_sB, gB_sI, gB_sJ, gB_sA, o_sI, o_sJ, o_sA, o_sB, o_sAr]) (by simp [gI_sI, gI_sJ, gI_sA, gI_sB, gI_sAr, gJ_sI, gJ_sJ, gJ_sA, gJ_sB, gJ_sAr, gA_sI, gA_sJ, gA_sAf, gA_sArf, gA_sArs, gA_sB, gB_sI, gB_sJ, gB_sA, o_sI, o_sJ, o_sA, o_sB, o_sAr]) (by simp [gI_sI, gI_sJ, gI_sA, gI_sB, gI_sAr, gJ_sI, gJ_sJ, gJ_sA, gJ_sB, gJ_sAr, gA_sI, gA_sJ, gA_sAf, gA_sArf, gA_sArs, gA_sB, gB_sI, gB_sJ, gB_sA, o_sI, o_sJ, o_sA, o_sB, o_sAr]) (by simp [gI_sI, gI_sJ, gI_sA, gI_sB, gI_sAr, gJ_sI, gJ_sJ, gJ_sA, gJ_sB, gJ_sAr, gA_sI, gA_sJ, gA_sAf, gA_sArf, gA_sArs, gA_sB, gB_sI, gB_sJ, gB_sA, o_sI, o_sJ, o_sA, o_sB, o_sAr]) (by simp [gI_sI, gI_sJ, gI_sA, gI_sB, gI_sAr, gJ_sI, gJ_sJ, gJ_sA, gJ_sB, gJ_sAr, gA_sI, gA_sJ, gA_sAf, gA_sArf, gA_sArs, gA_sB, gB_sI, gB_sJ, gB_sA, o_sI, o_sJ, o_sA, o_sB, o_sAr]) (by simp [gI_sI, gI_sJ, gI_sA, gI_sB, gI_sAr, gJ_sI, gJ_sJ, gJ_sA, gJ_sB, gJ_sAr, gA_sI, gA_sJ, gA_sAf, gA_sArf, gA_sArs, gA_sB, gB_sI, gB_sJ, gB_sA, o_sI, o_sJ, o_sA, o_sB, o_sAr]) hI
  · exact RT_cong (X := X) (S := S) (by rw [gI_sA]) (fun t ht => o_sA (by omega)) (by simp [gI_sI, gI_sJ, gI_sA, gI_sB, gI_sAr, gJ_sI, gJ_sJ, gJ_sA, gJ_sB, gJ_sAr, gA_sI, gA_sJ, gA_sAf, gA_sArf, gA_sArs, gA_sB, gB_sI, gB_sJ, gB_sA, o_sI, o_sJ, o_sA, o_sB, o_sAr]) (by simp [gI_sI, gI_sJ, gI_sA, gI_sB, gI_sAr, gJ_sI, gJ_sJ, gJ_sA, gJ_sB, gJ_sAr, gA_sI, gA_sJ, gA_sAf, gA_sArf, gA_sArs, gA_sB, gB_sI, gB_sJ, gB_sA, o_sI, o_sJ, o_sA, o_sB, o_sAr]) (by simp [gI_sI, gI_sJ, gI_sA, gI_sB, gI_sAr, gJ_sI, gJ_sJ, gJ_sA, gJ_sB, gJ_sAr, gA_sI, gA_sJ, gA_sAf, gA_sArf, gA_sArs, gA_sB, gB_sI, gB_sJ, gB_sA, o_sI, o_sJ, o_sA, o_sB, o_sAr]) (by simp [gI_sI, gI_sJ, gI_sA, gI_sB, gI_sAr, gJ_sI, gJ_sJ, gJ_sA, gJ_sB, gJ_sAr, gA_sI, gA_sJ, gA_sAf, gA_sArf, gA_sArs, gA_sB, gB_sI, gB_sJ, gB_sA, o_sI, o_sJ, o_sA, o_sB, o_sAr]) (by simp [gI_sI, gI_sJ, gI_sA, gI_sB, gI_sAr, gJ_sI, gJ_sJ, gJ_sA, gJ_sB, gJ_sAr, gA_sI, gA_sJ, gA_sAf, gA_sArf, gA_sArs, gA_sB, gB_sI, gB_sJ, gB_sA, o_sI, o_sJ, o_sA, o_sB, o_sAr]) (by simp [gI_sI, gI_sJ, gI_sA, gI_sB, gI_sAr, gJ_sI, gJ_sJ, gJ_sA, gJ_sB, gJ_sAr, gA_sI, gA_sJ, gA_sAf, gA_sArf, gA_sArs, gA_sB, gB_sI, gB_sJ, gB_sA, o_sI, o_sJ, o_sA, o_sB, o_sAr]) hT
  · exact RP_cong (X := X) (S := S) (o_sA (by omega)) (by simp [gI_sI, gI_sJ, gI_sA, gI_sB, gI_sAr, gJ_sI, gJ_sJ, gJ_sA, gJ_sB, gJ_sAr, gA_sI, gA_sJ, gA_sAf, gA_sArf, gA_sArs, gA_sB, gB_sI, gB_sJ, gB_sA, o_sI, o_sJ, o_sA, o_sB, o_sAr]) (by simp [gI_sI, gI_sJ, gI_sA, gI_sB, gI_sAr, gJ_sI, gJ_sJ, gJ_sA, gJ_sB, gJ_sAr, gA_sI, gA_sJ, gA_sAf, gA_sArf, gA_sArs, gA_sB, gB_sI, gB_sJ, gB_sA, o_sI, o_sJ, o_sA, o_sB, o_sAr]) hP
  · intro r hr
    have h9 := hSh r hr
    have e1 : gA (sA S 16 42 (40 * s + i) v) 16 39 = gA S 16 39 := by simp [gI_sI, gI_sJ, gI_sA, gI_sB, gI_sAr, gJ_sI, gJ_sJ, gJ_sA, gJ_sB, gJ_sAr, gA_sI, gA_sJ, gA_sAf, gA_sArf, gA_sArs, gA_sB, gB_sI, gB_sJ, gB_sA, o_sI, o_sJ, o_sA, o_sB, o_sAr]
    have e2 : gA (sA S 16 42 (40 * s + i) v) 16 40 = gA S 16 40 := by simp [gI_sI, gI_sJ, gI_sA, gI_sB, gI_sAr, gJ_sI, gJ_sJ, gJ_sA, gJ_sB, gJ_sAr, gA_sI, gA_sJ, gA_sAf, gA_sArf, gA_sArs, gA_sB, gB_sI, gB_sJ, gB_sA, o_sI, o_sJ, o_sA, o_sB, o_sAr]
    have e3 : gA (sA S 16 42 (40 * s + i) v) 16 41 = gA S 16 41 := by simp [gI_sI, gI_sJ, gI_sA, gI_sB, gI_sAr, gJ_sI, gJ_sJ, gJ_sA, gJ_sB, gJ_sAr, gA_sI, gA_sJ, gA_sAf, gA_sArf, gA_sArs, gA_sB, gB_sI, gB_sJ, gB_sA, o_sI, o_sJ, o_sA, o_sB, o_sAr]
    rw [gI_sA, gI_sA, e1, e2, e3]
    rcases h9 with h9 | ⟨q1, q2, q3, m, hm, q4, q5, q6⟩
    · exact Or.inl h9
    · refine Or.inr ⟨q1, q2, q3, m, hm, q4, q5, fun j hj => ?_⟩
      rw [gA_sA, gA_sA]
      by_cases e : r = s ∧ j = i
      · obtain ⟨rfl, rfl⟩ := e
        simp
      · rw [if_neg (by omega), if_neg (by
          intro q
          apply e
          have q7 := q.2.2
          omega)]
        exact q6 j hj
  · simp [gI_sI, gI_sJ, gI_sA, gI_sB, gI_sAr, gJ_sI, gJ_sJ, gJ_sA, gJ_sB, gJ_sAr, gA_sI, gA_sJ, gA_sAf, gA_sArf, gA_sArs, gA_sB, gB_sI, gB_sJ, gB_sA, o_sI, o_sJ, o_sA, o_sB, o_sAr]; exact hid
theorem sheet_of {X S : St} {s : Nat} (h : RSh X S) (hs : s < 4) : (gI X (12 + s) 2 = -1 ∧ gA S 16 39 s = 0) ∨ (¬ gI X (12 + s) 2 = -1 ∧ ¬ gA S 16 39 s = 0 ∧ gI X (12 + s) 2 = gA S 16 40 s ∧ rg (gA S 16 40 s) 2 ∧ ∃ n, n ≤ 40 ∧ gI X (12 + s) 1 = nI n ∧ gA S 16 41 s = nI n ∧ ∀ i, i < n → gA X (12 + s) 0 i = gA S 16 42 (40 * s + i)) := by
  rcases h s hs with h | ⟨q1, q2, q3, q4⟩
  · exact Or.inl h
  · exact Or.inr ⟨by rw [q2]; exact rg_ne1 q3 (by decide), q1, q2, q3, q4⟩
theorem sim24 {TR : OT → Int32 → (Nat → Int32) → Prop} : Sim24 (Rel TR) := by
  intro X S a b c hR
  obtain ⟨hW, hI, hT, hP, hSh, hid⟩ := id hR
  have z0 : (0 : Int64).toInt = 0 := rfl
  have y4 : (4 : Int32).toInt = 4 := rfl
  unfold wX5_cell
  refine i_isIn (fun p1 p2 => ⟨fun _ => ?_, fun c => absurd c ne10⟩) (fun h => ⟨fun c => absurd rfl c, fun _ => ?_⟩)
  · rw [y4] at p2
    obtain ⟨s, hs, es⟩ : ∃ s, s < 4 ∧ a = nI s := by
      refine ⟨a.toInt.toNat, by omega, Int32.toInt_inj.mp ?_⟩
      rw [nI_toInt (by omega)]; omega
    have hv : vp_in a 4 := by rw [es]; exact vp_in_nI hs (by decide)
    have hc : a.toNatClampNeg = s := by rw [es]; exact nI_clamp (by omega)
    refine ⟨hv, fun o5 e5 => ?_⟩
    rw [hc] at e5
    subst e5
    rcases sheet_of hSh hs with ⟨m1, m2⟩ | ⟨q0, q1, q2, q3, n, hn, q4, q5, q6⟩
    · refine i_miss (fun q => absurd m1 q) (fun _ => ⟨fun c => absurd c ne10, fun _ => ?_⟩)
      unfold wX6_cell
      refine i_isSheet (fun _ _ => ⟨fun _ => ⟨hv, ?_⟩, fun c => absurd c ne10⟩) (fun h => absurd ⟨p1, p2⟩ h)
      rw [hc]
      exact ⟨fun q => absurd m2 q, fun _ => ⟨rfl, hR⟩⟩
    · refine i_miss (fun _ => ⟨fun _ => ?_, fun c => absurd rfl c⟩) (fun q => absurd q q0)
      have en : (nI n).toInt = n := nI_toInt (by omega)
      have model : ∀ (Q : Int32 → St → Prop), ((0 ≤ b.toInt ∧ b.toInt < n) → ∀ T, T = sA S 16 42 (40 * s + b.toInt.toNat) (vv (gA S 16 40 s) c) → Q 1 T) → (¬ (0 ≤ b.toInt ∧ b.toInt < n) → Q (-12) S) → wX6_cell a b c S Q := by
        intro Q g1 g0
        have ep := pred_toInt (n := n) (by omega)
        unfold wX6_cell
        refine i_isSheet (fun _ _ => ⟨fun _ => ⟨hv, ?_⟩, fun c => absurd c ne10⟩) (fun h => absurd ⟨p1, p2⟩ h)
        rw [hc]
        refine ⟨fun _ => ⟨hv, ?_⟩, fun q => absurd q q1⟩
        rw [q5]
        refine i_in (fun h1 h2 => ⟨fun _ => ⟨hv, ?_⟩, fun c => absurd c ne10⟩) (fun h => ⟨fun c => absurd rfl c, fun _ => g0 (fun q => h ⟨by rw [i64]; omega, by rw [i64, i64]; omega⟩)⟩)
        rw [i64] at h1
        rw [i64, i64] at h2
        have eb : b = nI b.toInt.toNat := Int32.toInt_inj.mp (by rw [nI_toInt (by omega)]; omega)
        have e0 : ((40 * a) + b : Int32) = nI (40 * s + b.toInt.toNat) := by
          rw [es, show (40 : Int32) * nI s = nI (40 * s) from (Int32.ofNat_mul 40 s).symm]
          rw [eb, nI_add, ← eb]
        have fin : ∀ v, v = vv (gA S 16 40 s) c → wX6_cell_j83 ((40 * a) + b) v S Q := by
          intro v ev
          unfold wX6_cell_j83
          rw [e0]
          refine ⟨vp_in_nI (by omega) (by decide), fun T eT => ?_⟩
          rw [nI_clamp (by omega)] at eT
          exact g1 ⟨by omega, by omega⟩ T (by rw [eT, ev])
        refine ⟨fun c0 => ⟨hv, fun c1 => fin _ ?_, fun c1 => fin _ ?_⟩, fun c0 => fin _ ?_⟩
        · rw [vv, if_neg c0, if_neg c1]
        · rw [vv, if_neg c0, if_pos c1]
        · rw [vv, if_pos c0]
      rw [q4]
      refine i_isIn (fun h1 h2 => ⟨fun _ => ?_, fun c => absurd c ne10⟩) (fun h => ⟨fun c => absurd rfl c, fun _ => model _ (fun q => by rw [en] at h; exact absurd q h) (fun _ => ⟨rfl, hR⟩)⟩)
      rw [en] at h2
      have eb : b = nI b.toInt.toNat := Int32.toInt_inj.mp (by rw [nI_toInt (by omega)]; omega)
      have ec : b.toNatClampNeg = b.toInt.toNat := rfl
      refine i_put (by rw [eb]; exact vp_in_nI (by omega) (by decide)) (model _ (fun _ T eT => ⟨rfl, ?_⟩) (fun q => absurd ⟨h1, h2⟩ q))
      rw [eT, ec, q2]
      exact Rel_item hR hs q5 hn (by omega)
  · rw [y4] at h
    unfold wX6_cell
    exact i_isSheet (fun g1 g2 => absurd ⟨g1, g2⟩ h) (fun _ => ⟨fun c => absurd rfl c, fun _ => ⟨rfl, hR⟩⟩)
