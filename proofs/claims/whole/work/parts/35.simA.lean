/-- count -/
theorem sim22 {TR : OT → Int32 → (Nat → Int32) → Prop} : Sim22 (Rel TR) := by
  intro X S a hR
  obtain ⟨hW, hI, hT, hP, hSh, hid⟩ := id hR
  obtain ⟨k, k1, k2, e1, e2, -, -, -⟩ := id hT
  obtain ⟨n, n1, f1, f2, -⟩ := id hP
  have hw := hW.1.1
  unfold wX5_count
  refine ⟨fun h => ?_, fun h => ?_, fun h => ?_, fun h => ?_, fun h => ?_, fun h => ?_, fun h0 h1 h2 h3 h4 h5 => ?_⟩
  · subst h
    unfold wX6_count
    refine i_in (fun _ _ => ⟨fun _ => ?_, fun c => absurd c ne10⟩) (fun g => absurd ⟨by decide, by decide⟩ g)
    refine ⟨fun c => absurd rfl c, fun _ => ?_⟩
    exact ⟨hw.2.2.2.1, hR⟩
  · subst h
    refine i_filledCells ?_
    unfold wX6_count
    refine i_in (fun _ _ => ⟨fun _ => ?_, fun c => absurd c ne10⟩) (fun g => absurd ⟨by decide, by decide⟩ g)
    refine ⟨fun _ => ⟨fun c => absurd rfl c, fun _ => ?_⟩, fun c => absurd c (by decide)⟩
    refine i_bitsOf ?_
    exact ⟨by rw [hw.1], hR⟩
  · subst h
    unfold wX6_count
    refine i_in (fun _ _ => ⟨fun _ => ?_, fun c => absurd c ne10⟩) (fun g => absurd ⟨by decide, by decide⟩ g)
    refine ⟨fun _ => ⟨fun _ => ⟨fun c => absurd rfl c, fun _ => ?_⟩, fun c => absurd c (by decide)⟩, fun c => absurd c (by decide)⟩
    exact ⟨hw.2.1, hR⟩
  · subst h
    unfold wX6_count
    refine i_in (fun _ _ => ⟨fun _ => ?_, fun c => absurd c ne10⟩) (fun g => absurd ⟨by decide, by decide⟩ g)
    refine ⟨fun _ => ⟨fun _ => ⟨fun _ => ⟨fun c => absurd rfl c, fun _ => ?_⟩, fun c => absurd c (by decide)⟩, fun c => absurd c (by decide)⟩, fun c => absurd c (by decide)⟩
    exact ⟨e1.trans e2.symm, hR⟩
  · subst h
    unfold wX6_count
    refine i_in (fun _ _ => ⟨fun _ => ?_, fun c => absurd c ne10⟩) (fun g => absurd ⟨by decide, by decide⟩ g)
    refine ⟨fun _ => ⟨fun _ => ⟨fun _ => ⟨fun _ => ⟨fun c => absurd rfl c, fun _ => ?_⟩, fun c => absurd c (by decide)⟩, fun c => absurd c (by decide)⟩, fun c => absurd c (by decide)⟩, fun c => absurd c (by decide)⟩
    exact ⟨f1.trans f2.symm, hR⟩
  · subst h
    unfold wX6_count
    refine i_in (fun _ _ => ⟨fun _ => ?_, fun c => absurd c ne10⟩) (fun g => absurd ⟨by decide, by decide⟩ g)
    refine ⟨fun _ => ⟨fun _ => ⟨fun _ => ⟨fun _ => ⟨fun _ => ?_, fun c => absurd c (by decide)⟩, fun c => absurd c (by decide)⟩, fun c => absurd c (by decide)⟩, fun c => absurd c (by decide)⟩, fun c => absurd c (by decide)⟩
    exact ⟨hw.2.2.1, hR⟩
  · unfold wX6_count
    refine i_in (fun g1 g2 => ?_) (fun _ => ⟨fun c => absurd rfl c, fun _ => ⟨rfl, hR⟩⟩)
    exfalso
    rw [i64] at g1 g2
    have q0 := neI (k := 0) h0 rfl
    have q1 := neI (k := 1) h1 rfl
    have q2 := neI (k := 2) h2 rfl
    have q3 := neI (k := 3) h3 rfl
    have q4 := neI (k := 4) h4 rfl
    have q5 := neI (k := 5) h5 rfl
    have z0 : (0 : Int64).toInt = 0 := rfl
    have z5 : (5 : Int64).toInt = 5 := rfl
    omega
/-- feed -/
theorem sim4 {TR : OT → Int32 → (Nat → Int32) → Prop} : Sim4 (Rel TR) := by
  intro X S a hR
  obtain ⟨hW, hI, hT, hP, hSh, hid⟩ := id hR
  obtain ⟨n, n1, f1, f2, f3⟩ := id hP
  have z0 : (0 : Int64).toInt = 0 := rfl
  have z5 : (255 : Int64).toInt = 255 := rfl
  have y0 : (0 : Int32).toInt = 0 := rfl
  have y5 : (255 : Int32).toInt = 255 := rfl
  unfold wX5_feed
  refine ⟨fun c => ?_, fun c => ⟨fun d => ?_, fun d => ?_⟩⟩
  · rw [Int32.lt_iff_toInt_lt] at c
    unfold wX6_feed
    refine i_in (fun g1 g2 => by rw [i64] at g1; omega) (fun _ => ⟨fun c => absurd rfl c, fun _ => ⟨rfl, hR⟩⟩)
  · rw [Int32.lt_iff_toInt_lt] at c
    rw [Int32.le_iff_toInt_le] at d
    unfold wX0_append
    refine ⟨fun g => ?_, fun g => ?_⟩
    · have hn : n < 160 := by
        rw [f1, show (160 : Int32) = nI 160 from rfl, nI_ltI (by omega) (by decide)] at g
        exact g
      refine ⟨by rw [f1]; exact vp_in_nI hn (by decide), fun σ3 h3 σ4 h4 => ?_⟩
      unfold wX6_feed
      refine i_in (fun _ _ => ⟨fun _ => ⟨fun _ => ⟨by rw [f2]; exact vp_in_nI hn (by decide), fun τ6 t6 τ7 t7 => ?_⟩, fun q => ?_⟩, fun c => absurd c ne10⟩) (fun q => absurd ⟨by rw [i64]; omega, by rw [i64]; omega⟩ q)
      · subst h3 h4 t6 t7
        have hc : (nI n).toNatClampNeg = n := nI_clamp (by omega)
        refine ⟨by simp [gI_sI, gI_sJ, gI_sA, gI_sB, gJ_sI, gJ_sJ, gJ_sA, gJ_sB, gA_sI, gA_sJ, gA_sAf, gA_sB, gB_sI, gB_sJ, gB_sA, o_sI, o_sJ, o_sA, o_sB, f1, f2], ?_, ?_, ?_, ?_, ?_, ?_⟩
        · exact RW_cong (by simp [gI_sI, gI_sJ, gI_sA, gI_sB, gJ_sI, gJ_sJ, gJ_sA, gJ_sB, gA_sI, gA_sJ, gA_sAf, gA_sB, gB_sI, gB_sJ, gB_sA, o_sI, o_sJ, o_sA, o_sB]) (by simp [gI_sI, gI_sJ, gI_sA, gI_sB, gJ_sI, gJ_sJ, gJ_sA, gJ_sB, gA_sI, gA_sJ, gA_sAf, gA_sB, gB_sI, gB_sJ, gB_sA, o_sI, o_sJ, o_sA, o_sB]) (by simp [gI_sI, gI_sJ, gI_sA, gI_sB, gJ_sI, gJ_sJ, gJ_sA, gJ_sB, gA_sI, gA_sJ, gA_sAf, gA_sB, gB_sI, gB_sJ, gB_sA, o_sI, o_sJ, o_sA, o_sB]) (by simp [gI_sI, gI_sJ, gI_sA, gI_sB, gJ_sI, gJ_sJ, gJ_sA, gJ_sB, gA_sI, gA_sJ, gA_sAf, gA_sB, gB_sI, gB_sJ, gB_sA, o_sI, o_sJ, o_sA, o_sB]) (by simp [gI_sI, gI_sJ, gI_sA, gI_sB, gJ_sI, gJ_sJ, gJ_sA, gJ_sB, gA_sI, gA_sJ, gA_sAf, gA_sB, gB_sI, gB_sJ, gB_sA, o_sI, o_sJ, o_sA, o_sB]) (by simp [gI_sI, gI_sJ, gI_sA, gI_sB, gJ_sI, gJ_sJ, gJ_sA, gJ_sB, gA_sI, gA_sJ, gA_sAf, gA_sB, gB_sI, gB_sJ, gB_sA, o_sI, o_sJ, o_sA, o_sB]) (by simp [gI_sI, gI_sJ, gI_sA, gI_sB, gJ_sI, gJ_sJ, gJ_sA, gJ_sB, gA_sI, gA_sJ, gA_sAf, gA_sB, gB_sI, gB_sJ, gB_sA, o_sI, o_sJ, o_sA, o_sB]) (by simp [gI_sI, gI_sJ, gI_sA, gI_sB, gJ_sI, gJ_sJ, gJ_sA, gJ_sB, gA_sI, gA_sJ, gA_sAf, gA_sB, gB_sI, gB_sJ, gB_sA, o_sI, o_sJ, o_sA, o_sB]) hW
        · exact RI_cong (by simp [gI_sI, gI_sJ, gI_sA, gI_sB, gJ_sI, gJ_sJ, gJ_sA, gJ_sB, gA_sI, gA_sJ, gA_sAf, gA_sB, gB_sI, gB_sJ, gB_sA, o_sI, o_sJ, o_sA, o_sB]) (by simp [gI_sI, gI_sJ, gI_sA, gI_sB, gJ_sI, gJ_sJ, gJ_sA, gJ_sB, gA_sI, gA_sJ, gA_sAf, gA_sB, gB_sI, gB_sJ, gB_sA, o_sI, o_sJ, o_sA, o_sB]) (by simp [gI_sI, gI_sJ, gI_sA, gI_sB, gJ_sI, gJ_sJ, gJ_sA, gJ_sB, gA_sI, gA_sJ, gA_sAf, gA_sB, gB_sI, gB_sJ, gB_sA, o_sI, o_sJ, o_sA, o_sB]) (by simp [gI_sI, gI_sJ, gI_sA, gI_sB, gJ_sI, gJ_sJ, gJ_sA, gJ_sB, gA_sI, gA_sJ, gA_sAf, gA_sB, gB_sI, gB_sJ, gB_sA, o_sI, o_sJ, o_sA, o_sB]) (by simp [gI_sI, gI_sJ, gI_sA, gI_sB, gJ_sI, gJ_sJ, gJ_sA, gJ_sB, gA_sI, gA_sJ, gA_sAf, gA_sB, gB_sI, gB_sJ, gB_sA, o_sI, o_sJ, o_sA, o_sB]) (by simp [gI_sI, gI_sJ, gI_sA, gI_sB, gJ_sI, gJ_sJ, gJ_sA, gJ_sB, gA_sI, gA_sJ, gA_sAf, gA_sB, gB_sI, gB_sJ, gB_sA, o_sI, o_sJ, o_sA, o_sB]) (by simp [gI_sI, gI_sJ, gI_sA, gI_sB, gJ_sI, gJ_sJ, gJ_sA, gJ_sB, gA_sI, gA_sJ, gA_sAf, gA_sB, gB_sI, gB_sJ, gB_sA, o_sI, o_sJ, o_sA, o_sB]) (by simp [gI_sI, gI_sJ, gI_sA, gI_sB, gJ_sI, gJ_sJ, gJ_sA, gJ_sB, gA_sI, gA_sJ, gA_sAf, gA_sB, gB_sI, gB_sJ, gB_sA, o_sI, o_sJ, o_sA, o_sB]) (by simp [gI_sI, gI_sJ, gI_sA, gI_sB, gJ_sI, gJ_sJ, gJ_sA, gJ_sB, gA_sI, gA_sJ, gA_sAf, gA_sB, gB_sI, gB_sJ, gB_sA, o_sI, o_sJ, o_sA, o_sB]) hI
        · exact RT_cong (by simp [gI_sI, gI_sJ, gI_sA, gI_sB, gJ_sI, gJ_sJ, gJ_sA, gJ_sB, gA_sI, gA_sJ, gA_sAf, gA_sB, gB_sI, gB_sJ, gB_sA, o_sI, o_sJ, o_sA, o_sB]) (fun t ht => by rw [o_sI (by omega), o_sA (by omega)]) (by simp [gI_sI, gI_sJ, gI_sA, gI_sB, gJ_sI, gJ_sJ, gJ_sA, gJ_sB, gA_sI, gA_sJ, gA_sAf, gA_sB, gB_sI, gB_sJ, gB_sA, o_sI, o_sJ, o_sA, o_sB]) (by simp [gI_sI, gI_sJ, gI_sA, gI_sB, gJ_sI, gJ_sJ, gJ_sA, gJ_sB, gA_sI, gA_sJ, gA_sAf, gA_sB, gB_sI, gB_sJ, gB_sA, o_sI, o_sJ, o_sA, o_sB]) (by simp [gI_sI, gI_sJ, gI_sA, gI_sB, gJ_sI, gJ_sJ, gJ_sA, gJ_sB, gA_sI, gA_sJ, gA_sAf, gA_sB, gB_sI, gB_sJ, gB_sA, o_sI, o_sJ, o_sA, o_sB]) (by simp [gI_sI, gI_sJ, gI_sA, gI_sB, gJ_sI, gJ_sJ, gJ_sA, gJ_sB, gA_sI, gA_sJ, gA_sAf, gA_sB, gB_sI, gB_sJ, gB_sA, o_sI, o_sJ, o_sA, o_sB]) (by simp [gI_sI, gI_sJ, gI_sA, gI_sB, gJ_sI, gJ_sJ, gJ_sA, gJ_sB, gA_sI, gA_sJ, gA_sAf, gA_sB, gB_sI, gB_sJ, gB_sA, o_sI, o_sJ, o_sA, o_sB]) (by simp [gI_sI, gI_sJ, gI_sA, gI_sB, gJ_sI, gJ_sJ, gJ_sA, gJ_sB, gA_sI, gA_sJ, gA_sAf, gA_sB, gB_sI, gB_sJ, gB_sA, o_sI, o_sJ, o_sA, o_sB]) hT
        · refine ⟨n + 1, by omega, by simp [gI_sI, gI_sJ, gI_sA, gI_sB, gJ_sI, gJ_sJ, gJ_sA, gJ_sB, gA_sI, gA_sJ, gA_sAf, gA_sB, gB_sI, gB_sJ, gB_sA, o_sI, o_sJ, o_sA, o_sB, f1]; exact nI_1 n, by simp [gI_sI, gI_sJ, gI_sA, gI_sB, gJ_sI, gJ_sJ, gJ_sA, gJ_sB, gA_sI, gA_sJ, gA_sAf, gA_sB, gB_sI, gB_sJ, gB_sA, o_sI, o_sJ, o_sA, o_sB, f2]; exact nI_1 n, fun i hi => ?_⟩
          rw [f1, f2, hc]
          simp only [gA_sI, gA_sA]
          by_cases e : i = n
          · subst e
            simp
            exact rg_of (by omega) (by omega) (by decide)
          · simp [e]
            exact f3 i (by omega)
        · exact RSh_cong (fun s hs => by rw [o_sI (by omega), o_sA (by omega)]) (by simp [gI_sI, gI_sJ, gI_sA, gI_sB, gJ_sI, gJ_sJ, gJ_sA, gJ_sB, gA_sI, gA_sJ, gA_sAf, gA_sB, gB_sI, gB_sJ, gB_sA, o_sI, o_sJ, o_sA, o_sB]) (by simp [gI_sI, gI_sJ, gI_sA, gI_sB, gJ_sI, gJ_sJ, gJ_sA, gJ_sB, gA_sI, gA_sJ, gA_sAf, gA_sB, gB_sI, gB_sJ, gB_sA, o_sI, o_sJ, o_sA, o_sB]) (by simp [gI_sI, gI_sJ, gI_sA, gI_sB, gJ_sI, gJ_sJ, gJ_sA, gJ_sB, gA_sI, gA_sJ, gA_sAf, gA_sB, gB_sI, gB_sJ, gB_sA, o_sI, o_sJ, o_sA, o_sB]) (by simp [gI_sI, gI_sJ, gI_sA, gI_sB, gJ_sI, gJ_sJ, gJ_sA, gJ_sB, gA_sI, gA_sJ, gA_sAf, gA_sB, gB_sI, gB_sJ, gB_sA, o_sI, o_sJ, o_sA, o_sB]) hSh
        · simp [gI_sI, gI_sJ, gI_sA, gI_sB, gJ_sI, gJ_sJ, gJ_sA, gJ_sB, gA_sI, gA_sJ, gA_sAf, gA_sB, gB_sI, gB_sJ, gB_sA, o_sI, o_sJ, o_sA, o_sB]; exact hid
      · rw [f2, show (160 : Int32) = nI 160 from rfl, nI_eq (by omega) (by decide)] at q
        omega
    · have hn : n = 160 := by
        rw [f1, show (160 : Int32) = nI 160 from rfl, nI_ltI (by omega) (by decide)] at g
        omega
      unfold wX6_feed
      refine i_in (fun _ _ => ⟨fun _ => ⟨fun q => absurd (by rw [f2, hn]; rfl) q, fun _ => ⟨rfl, hR⟩⟩, fun c => absurd c ne10⟩) (fun q => absurd ⟨by rw [i64]; omega, by rw [i64]; omega⟩ q)
  · rw [Int32.le_iff_toInt_le] at d
    unfold wX6_feed
    refine i_in (fun g1 g2 => by rw [i64] at g2; omega) (fun _ => ⟨fun c => absurd rfl c, fun _ => ⟨rfl, hR⟩⟩)
