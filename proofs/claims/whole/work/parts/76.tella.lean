/-! tells: the whole -/
theorem m_layR {S : St} {j o : Nat} {v : Int32} {Q : St → Prop} (hj : 4 ≤ j) (hj8 : j ≤ 8) (ho : o < 5) (h : Q (sA S 16 11 (5 * o + j - 4) v)) : wX6_lays (nI j) (nI o) v S Q := by
  have c := nIc (j := j) (by omega)
  have l9 : ¬ (9 : Int32) ≤ nI j := by rw [show (9 : Int32) = nI 9 from rfl, nI_leI (by decide) (by omega)]; omega
  refine ⟨fun _ => ⟨fun _ => ⟨fun _ => ⟨fun _ => ⟨fun q => absurd q l9, fun _ => ?_⟩, fun q => absurd ((c 3 (by decide)).mp q) (by omega)⟩, fun q => absurd ((c 2 (by decide)).mp q) (by omega)⟩, fun q => absurd ((c 1 (by decide)).mp q) (by omega)⟩, fun q => absurd ((c 0 (by decide)).mp q) (by omega)⟩
  rw [rowI hj, nI_clamp (by omega)]
  exact ⟨vp_in_nI (by omega) (by decide), fun σ s => by rw [s]; exact h⟩
theorem m_lay9 {S : St} {b v : Int32} {Q : St → Prop} (h : Q (sI S 16 4 v)) : wX6_lays 9 b v S Q := by
  refine ⟨fun _ => ⟨fun _ => ⟨fun _ => ⟨fun _ => ⟨fun _ σ s => by rw [s]; exact h, fun q => absurd (Int32.le_refl _) q⟩, fun q => absurd q (by decide)⟩, fun q => absurd q (by decide)⟩, fun q => absurd q (by decide)⟩, fun q => absurd q (by decide)⟩
theorem sim16 : Sim16 (Rel TR0) := by
  intro X S a b c hR
  obtain ⟨f, n, d, hn, hd, en, ed, hC, hM, hW, hok, hid⟩ := ctx hR
  obtain ⟨rW, hI, hT, hP, hSh, -⟩ := id hR
  obtain ⟨k, k1, k2, ek1, ek2, ⟨r, hr, ek3⟩, ek4, ek5⟩ := hT
  have z6 : (6 : Int64).toInt = ((6 : Nat) : Int) := rfl
  have y4 : (4 : Int32).toInt = 4 := rfl
  have en9 : (nI n).toInt = n := nI_toInt (by omega)
  unfold wX5_tells
  refine i_isIn (fun p1 p2 => ⟨fun q => absurd q ne10, fun _ => ?_⟩) (fun p => ⟨fun _ => ?_, fun q => absurd rfl q⟩)
  · rw [y4] at p2
    have isS : ∀ Q : Int32 → St → Prop, Q 1 S → wX6_isSheet a S Q := fun Q hQ => i_isSheet (fun _ _ => hQ) (fun g => absurd ⟨p1, p2⟩ g)
    rw [CW_n hW]
    refine i_isIn (fun o1 o2 => ⟨fun q => absurd q ne10, fun _ => ?_⟩) (fun p => ⟨fun _ => ?_, fun q => absurd rfl q⟩)
    · rw [en9] at o2
      have one : ∀ Q : Int32 → St → Prop, Q 1 S → wX6_isOne b S Q := fun Q hQ => i_isOne hn en (fun _ _ => hQ) (fun g => absurd ⟨o1, o2⟩ g)
      have bad : ¬ rg c 6 → wX6_tells a b c S (fun r1 S1 => -2 = r1 ∧ Rel TR0 X S1) := fun hx => isS _ ⟨fun q => absurd q ne10, fun _ => one _ ⟨fun q => absurd q ne10, fun _ => i_in0 z6 (fun g1 g2 => absurd (rg_of g1 g2 (by decide)) hx) (fun _ => ⟨fun q => absurd rfl q, fun _ => ⟨rfl, hR⟩⟩)⟩⟩
      refine ⟨fun q => bad (fun g => nin_lt q (rg_in g (by decide)).1), fun q1 => ⟨fun q2 => ?_, fun q => bad (fun g => nin_gtl rfl (by decide) q (rg_in g (by decide)).2)⟩⟩
      have rc : rg c 6 := in_rgl rfl (by decide) q1 q2
      obtain ⟨s, hs, ea⟩ : ∃ s, s < 4 ∧ a = nI s := ⟨a.toInt.toNat, by omega, Int32.toInt_inj.mp (by rw [nI_toInt (by omega)]; omega)⟩
      obtain ⟨o, ho, eb⟩ : ∃ o, o < n ∧ b = nI o := ⟨b.toInt.toNat, by omega, Int32.toInt_inj.mp (by rw [nI_toInt (by omega)]; omega)⟩
      obtain ⟨w, hw, ec⟩ := id rc
      have va : vp_in a 4 := by rw [ea]; exact vp_in_nI hs (by decide)
      have ca : a.toNatClampNeg = s := by rw [ea]; exact nI_clamp (by omega)
      have cw := nIc (j := w) (by omega)
      refine ⟨va, fun o10 eo => ?_⟩
      rw [ca] at eo
      have ho10 : 12 ≤ o10 := by omega
      rcases hSh s hs with ⟨s1, s2⟩ | ⟨s1, s2, s3, z, hz, s4, s5, s6⟩
      · refine ⟨fun q => absurd (by rw [eo]; exact s1) q, fun _ => ⟨fun q => absurd q ne10, fun _ => ?_⟩⟩
        refine isS _ ⟨fun q => absurd q ne10, fun _ => one _ ⟨fun q => absurd q ne10, fun _ => i_in_y z6 (by decide) rc ⟨fun _ => ⟨va, fun q => absurd (by rw [ca]; exact s2) q, fun _ => ⟨rfl, hR⟩⟩, fun q => absurd q ne10⟩⟩⟩
      · have hm1 : ¬ gI X o10 2 = -1 := by rw [eo, s2]; exact rg_ne1 s3 (by decide)
        refine ⟨fun _ => ⟨fun _ => ?_, fun q => absurd rfl q⟩, fun q => absurd q hm1⟩
        have c1 : gI X o10 1 = nI z := by rw [eo]; exact s4
        rw [c1]
        have l20 : nI z ≤ 20 ↔ z ≤ 20 := by rw [show (20 : Int32) = nI 20 from rfl, nI_leI (by omega) (by decide)]
        refine ⟨fun q20 => ?_, fun q20 => ?_⟩
        · -- the sheet fits
          obtain ⟨it, hit⟩ : ∃ it : Nat → Int32, ∀ i, it i = gA S 16 42 (40 * s + i) := ⟨_, fun _ => rfl⟩
          have xit : ∀ i, i < z → gA X o10 0 i = it i := fun i hi => by rw [hit, eo]; exact s6 i hi
          have ins : ∀ Q : Int32 → St → Prop, ((¬ c = 0 → ((¬ c = 1 → ((¬ c = 2 → ((¬ c = 3 → ((¬ c = 6 → (wX6_tells_j107 a b c 6 S Q)) ∧ (c = 6 → (wX6_tells_j107 a b c 9 S Q)))) ∧ (c = 3 → (wX6_tells_j107 a b c 5 S Q)))) ∧ (c = 2 → (wX6_tells_j107 a b c 4 S Q)))) ∧ (c = 1 → (wX6_tells_j107 a b c 8 S Q)))) ∧ (c = 0 → wX6_firstOther a S (fun r40 σ39 => Q r40 σ39))) → wX6_tells a b c S Q := by
            intro Q hh
            refine isS _ ⟨fun q => absurd q ne10, fun _ => one _ ⟨fun q => absurd q ne10, fun _ => i_in_y z6 (by decide) rc ⟨fun _ => ⟨va, fun _ => ⟨va, fun _ => hh, fun q => absurd ?_ q⟩, fun q => absurd q ?_⟩, fun q => absurd q ne10⟩⟩⟩
            · rw [ca, s5]; exact q20
            · rw [ca]; exact s1
          -- rows: kinds, numbers, colours, how long
          have rowCase : ∀ (j ch fld : Nat) (hj4 : 4 ≤ j) (hj8 : j ≤ 8) (hch : ch ≤ 100) (hch1 : 1 ≤ ch), (¬ c = 4 → ¬ c = 5 → ch ≤ 10) →
              (∀ (v : Nat) (Y : St), v < ch → CW Y 2 (gI S 16 4) n (gA S 16 9) (aM S) → CW (sA Y 2 fld o (nI v)) 2 (gI S 16 4) n (gA S 16 9) (gI S 16 7, gJ S 16 8, gA S 16 10, upd (gA S 16 11) (5 * o + j - 4) (nI v))) →
              (∀ (Y : St) (v : Int32) (Q : St → Prop), Q (sA Y 2 fld o v) → wX5_suppose b c v Y Q) →
              (∀ Q : Int32 → St → Prop, wX6_tells_j107 a b c (nI j) S Q → wX6_tells a b c S Q) →
              (∀ (Q : Int32 → St → Prop) (x : Int32), wX6_tells_j182 a b c (nI j) x (nI ch - 1) S Q → wX6_tells_j130 a b c (nI j) x S Q) →
              ∃ m, wX5_tells_l101 m b c o10 0 0 (-1) (nI ch) 0 X (fun r X1 => wX6_tells a b c S (fun r1 S1 => r = r1 ∧ Rel TR0 X1 S1)) := by
            intro j ch fld hj4 hj8 hch hch1 hch10 hcw hsup hin hj130
            obtain ⟨R, hR9⟩ : ∃ R : Nat → Int32, ∀ v, R v = foF f (gA S 16 9) n it z 0 (gI S 16 7, gJ S 16 8, gA S 16 10, upd (gA S 16 11) (5 * o + j - 4) (nI v)) := ⟨_, fun _ => rfl⟩
            refine c_tell (R := R) hch (fun v hv T K F hK => ?_) (fun U FU => ?_)
            · refine c_think (CW_2 F hW) (CR_2 F hC) (fun Y FY WY CY => hsup Y _ _ ?_)
              have F2 : FrC 2 Y (sA Y 2 fld o (nI v)) := FrC_sA (by decide)
              have FT : FrC 2 X (sA Y 2 fld o (nI v)) := FrC_trans F (FrC_trans (FrC_of FY) F2)
              refine c_fo (it := it) ho10 hn (by omega) ed (by omega) (hcw v Y hv WY) (CR_C F2 (by rw [gI_sA]) CY) (by rw [gI_same (FT.1 o10 (by omega) (by omega))]; exact c1) (fun i hi => by rw [gA_same (FT.1 o10 (by omega) (by omega))]; exact xit i hi) (fun U FU => ?_)
              rw [← hR9]
              exact hK U (FrC_trans FT FU)
            · have th : TH n j b := by
                unfold TH
                rw [eb, nI_toInt (by omega)]
                omega
              have ok9 : OK9 n j b o := Or.inr ⟨eb, by omega, by omega, by omega⟩
              refine hin _ ?_
              have nj9 : ¬ nI j = 9 := fun q => by
                rw [show (9 : Int32) = nI 9 from rfl, nI_eq (by omega) (by decide)] at q
                omega
              refine ⟨fun _ => m_told8 hn hj8 en th ok9 ?_, fun q => absurd q nj9⟩
              have efig : figV S j o = gA S 16 11 (5 * o + j - 4) := by
                unfold figV
                rw [if_neg (by omega), if_neg (by omega), if_neg (by omega), if_neg (by omega)]
              rw [efig]
              refine hj130 _ _ ?_
              rw [ea, eb]
              refine m_tell (Inv := fun T => FrA noN is11 S T ∧ ∃ x, gA T 16 11 = upd (gA S 16 11) (5 * o + j - 4) x) (R := R) hch ⟨FrA_refl S, gA S 16 11 (5 * o + j - 4), (upd_self _ _).symm⟩ (fun v hv T K hT hK => ?_) (fun T hT => ?_)
              · obtain ⟨F, x, hx⟩ := hT
                refine m_layR hj4 hj8 (by omega) ?_
                have F2 : FrA noN is11 S (sA T 16 11 (5 * o + j - 4) (nI v)) := FrA_sA rfl F
                have r2 : gA (sA T 16 11 (5 * o + j - 4) (nI v)) 16 11 = upd (gA S 16 11) (5 * o + j - 4) (nI v) := by rw [gA_sAs, hx, upd_upd]
                have w9 : gA (sA T 16 11 (5 * o + j - 4) (nI v)) 16 9 = gA S 16 9 := F2.2.1 9 rfl (by decide)
                refine m_fo (it := it) hs hn (by omega) (by rw [F2.1 12 rfl (by decide)]; exact en) (MR_of (F2.1 4 rfl (by decide)) (F2.2.1 2 rfl (by decide)) (F2.2.1 1 rfl (by decide)) hM) (by rw [w9]; exact hok) (by rw [F2.1 13 rfl (by decide)]; exact hid) (by rw [F2.2.1 41 rfl (by decide)]; exact s5) (fun i hi => by rw [F2.2.1 42 rfl (by decide)]; exact (hit i).symm) (fun U FU => ?_)
                have ev : foF f (gA (sA T 16 11 (5 * o + j - 4) (nI v)) 16 9) n it z 0 (aM (sA T 16 11 (5 * o + j - 4) (nI v))) = R v := by
                  rw [hR9, w9]
                  unfold aM
                  rw [F2.1 7 rfl (by decide), F2.2.2 8 (by decide) (by decide), F2.2.1 10 rfl (by decide), r2]
                rw [ev]
                exact hK U ⟨FrA_L F2 FU, nI v, by rw [FU.2.1 11 (by decide)]; exact r2⟩
              · obtain ⟨F, x, hx⟩ := hT
                refine m_layR hj4 hj8 (by omega) ⟨?_, Rel_CK hR FU (FrA_close (FrA_sA rfl F) (fun f q => absurd q Bool.false_ne_true) (fun f q _ => ?_))⟩
                · unfold outF
                  by_cases q4 : c = 4
                  · rw [if_pos q4, if_pos q4]
                  · rw [if_neg q4, if_neg q4]
                    by_cases q5 : c = 5
                    · rw [if_pos q5, if_pos q5]
                    · rw [if_neg q5, if_neg q5]
                      have h10 := hch10 q4 q5
                      exact bU_cong ch (fun v hv => by unfold mb; rw [if_neg (by omega)])
                · have ef : f = 11 := by simpa [is11] using q
                  rw [ef, gA_sAs, hx, upd_upd, upd_self]
          have vb : vp_in b 5 := by rw [eb]; exact vp_in_nI (by omega) (by decide)
          have cb : b.toNatClampNeg = o := by rw [eb]; exact nI_clamp (by omega)
          refine ⟨fun q0 => ?_, fun q0 => ?_⟩
          · have n0 : ¬ w = 0 := fun q => q0 (by rw [ec, q]; rfl)
            refine ⟨fun q => rowCase 8 6 6 (by decide) (by decide) (by decide) (by decide) (fun _ _ => by decide) (fun v Y hv WY => WRel_kind WY ⟨v, by omega, rfl⟩) (fun Y v Q hQ => ?_) (fun Q hh => ins Q ?_) (fun Q x hh => ?_), fun q => rowCase 4 10 7 (by decide) (by decide) (by decide) (by decide) (fun _ _ => by decide) (fun v Y hv WY => WRel_number WY ⟨v, by omega, rfl⟩) (fun Y v Q hQ => ?_) (fun Q hh => ins Q ?_) (fun Q x hh => ?_), fun q => rowCase 5 4 8 (by decide) (by decide) (by decide) (by decide) (fun _ _ => by decide) (fun v Y hv WY => WRel_at WY ⟨v, by omega, rfl⟩) (fun Y v Q hQ => ?_) (fun Q hh => ins Q ?_) (fun Q x hh => ?_), fun q => rowCase 6 100 9 (by decide) (by decide) (by decide) (by decide) (fun g _ => absurd q g) (fun v Y hv WY => WRel_looked WY ⟨v, by omega, rfl⟩) (fun Y v Q hQ => ?_) (fun Q hh => ins Q ?_) (fun Q x hh => ?_), fun q => rowCase 6 100 9 (by decide) (by decide) (by decide) (by decide) (fun _ g => absurd q g) (fun v Y hv WY => WRel_looked WY ⟨v, by omega, rfl⟩) (fun Y v Q hQ => ?_) (fun Q hh => ins Q ?_) (fun Q x hh => ?_), fun q => ?_, fun m1 m2 m3 m4 m5 m6 => ?_⟩
            · rw [q]; unfold wX5_suppose; rw [cb]
              exact ⟨fun _ => ⟨vb, fun σ s => by rw [s]; exact hQ⟩, fun g => absurd g (by decide), fun g => absurd g (by decide), fun g => absurd g (by decide), fun g => absurd g (by decide), fun g => absurd g (by decide), fun g => absurd rfl g⟩
            · rw [q] at hh ⊢
              exact ⟨fun _ => ⟨fun g => absurd rfl g, fun _ => hh⟩, fun g => absurd g (by decide)⟩
            · exact ⟨fun _ => ⟨fun g => absurd rfl g, fun _ => hh⟩, fun g => absurd g (by decide)⟩
            · rw [q]; unfold wX5_suppose; rw [cb]
              exact ⟨fun g => absurd g (by decide), fun _ => ⟨vb, fun σ s => by rw [s]; exact hQ⟩, fun g => absurd g (by decide), fun g => absurd g (by decide), fun g => absurd g (by decide), fun g => absurd g (by decide), fun _ g => absurd rfl g⟩
            · rw [q] at hh ⊢
              exact ⟨fun _ => ⟨fun _ => ⟨fun g => absurd rfl g, fun _ => hh⟩, fun g => absurd g (by decide)⟩, fun g => absurd g (by decide)⟩
            · exact ⟨fun _ => ⟨fun _ => ⟨fun g => absurd rfl g, fun _ => hh⟩, fun g => absurd g (by decide)⟩, fun g => absurd g (by decide)⟩
            · rw [q]; unfold wX5_suppose; rw [cb]
              exact ⟨fun g => absurd g (by decide), fun g => absurd g (by decide), fun _ => ⟨vb, fun σ s => by rw [s]; exact hQ⟩, fun g => absurd g (by decide), fun g => absurd g (by decide), fun g => absurd g (by decide), fun _ _ g => absurd rfl g⟩
            · rw [q] at hh ⊢
              exact ⟨fun _ => ⟨fun _ => ⟨fun _ => ⟨fun g => absurd rfl g, fun _ => hh⟩, fun g => absurd g (by decide)⟩, fun g => absurd g (by decide)⟩, fun g => absurd g (by decide)⟩
            · exact ⟨fun _ => ⟨fun _ => ⟨fun _ => ⟨fun g => absurd rfl g, fun _ => hh⟩, fun g => absurd g (by decide)⟩, fun g => absurd g (by decide)⟩, fun g => absurd g (by decide)⟩
            · rw [q]; unfold wX5_suppose; rw [cb]
              exact ⟨fun g => absurd g (by decide), fun g => absurd g (by decide), fun g => absurd g (by decide), fun _ => ⟨vb, fun σ s => by rw [s]; exact hQ⟩, fun g => absurd g (by decide), fun g => absurd g (by decide), fun _ _ _ g => absurd rfl g⟩
            · rw [q] at hh ⊢
              exact ⟨fun _ => ⟨fun _ => ⟨fun _ => ⟨fun _ => ⟨fun _ => hh, fun g => absurd g (by decide)⟩, fun g => absurd g (by decide)⟩, fun g => absurd g (by decide)⟩, fun g => absurd g (by decide)⟩, fun g => absurd g (by decide)⟩
            · exact ⟨fun _ => ⟨fun _ => ⟨fun _ => ⟨fun _ => hh, fun g => absurd g (by decide)⟩, fun g => absurd g (by decide)⟩, fun g => absurd g (by decide)⟩, fun g => absurd g (by decide)⟩
            · rw [q]; unfold wX5_suppose; rw [cb]
              exact ⟨fun g => absurd g (by decide), fun g => absurd g (by decide), fun g => absurd g (by decide), fun g => absurd g (by decide), fun _ => ⟨vb, fun σ s => by rw [s]; exact hQ⟩, fun g => absurd g (by decide), fun _ _ _ _ g => absurd rfl g⟩
            · rw [q] at hh ⊢
              exact ⟨fun _ => ⟨fun _ => ⟨fun _ => ⟨fun _ => ⟨fun _ => hh, fun g => absurd g (by decide)⟩, fun g => absurd g (by decide)⟩, fun g => absurd g (by decide)⟩, fun g => absurd g (by decide)⟩, fun g => absurd g (by decide)⟩
            · exact ⟨fun _ => ⟨fun _ => ⟨fun _ => ⟨fun _ => hh, fun g => absurd g (by decide)⟩, fun g => absurd g (by decide)⟩, fun g => absurd g (by decide)⟩, fun g => absurd g (by decide)⟩
            · -- TEXTS
              rw [ek1]
              have e5' : ∀ t, t < k → ∃ g : Nat → Int32 → Int32 → Int32 → Int32 → Int32 → Int32 → Int32, CEv g (X (6 + t)) ∧ MEv g (gA S 16 2 t) (fun i => gA S 16 1 (160 * t + i)) := fun t h => ek5 t h
              obtain ⟨G, hG⟩ : ∃ G : Nat → (Nat → Int32 → Int32 → Int32 → Int32 → Int32 → Int32 → Int32), ∀ t, t < k → CEv (G t) (X (6 + t)) ∧ MEv (G t) (gA S 16 2 t) (fun i => gA S 16 1 (160 * t + i)) :=
                ⟨fun t => if h : t < k then Classical.choose (e5' t h) else fun _ _ _ _ _ _ _ => 0, fun t h => by simp only [dif_pos h]; exact Classical.choose_spec (e5' t h)⟩
              obtain ⟨R, hR9⟩ : ∃ R : Nat → Int32, ∀ v, R v = foF (G v) (gA S 16 9) n it z 0 (aM S) := ⟨_, fun _ => rfl⟩
              refine c_tell (R := R) (by omega) (fun v hv T K F hK => ?_) (fun U FU => ?_)
              · refine c_think (CW_2 F hW) (CR_2 F hC) (fun Y FY WY CY => ?_)
                rw [q]
                refine ⟨fun g => absurd g (by decide), fun g => absurd g (by decide), fun g => absurd g (by decide), fun g => absurd g (by decide), fun g => absurd g (by decide), fun _ σ17 s17 => ?_, fun _ _ _ _ _ g => absurd rfl g⟩
                have F2 : FrC 2 Y σ17 := by rw [s17]; exact FrC_sI (by decide)
                have FT : FrC 2 X σ17 := FrC_trans F (FrC_trans (FrC_of FY) F2)
                have W17 : CW σ17 2 (nI v) n (gA S 16 9) (aM S) := by rw [s17]; exact WRel_rule WY
                have C17 : CR (G v) σ17 2 := by
                  refine ⟨Or.inr rfl, v, k, hv, k2, by rw [FT.2]; exact ek1, by rw [s17, gI_sIs], ?_⟩
                  rw [FT.1 (6 + v) (by omega) (by omega)]
                  exact (hG v hv).1
                refine c_fo (it := it) ho10 hn (by omega) ed (by omega) W17 C17 (by rw [gI_same (FT.1 o10 (by omega) (by omega))]; exact c1) (fun i hi => by rw [gA_same (FT.1 o10 (by omega) (by omega))]; exact xit i hi) (fun U FU => ?_)
                rw [← hR9]
                exact hK U (FrC_trans FT FU)
              · refine ins _ ?_
                have j107 : wX6_tells_j107 a b c 9 S (fun r1 S1 => outF c (bU (fun v => ish 1 (nI v)) R k) (nI (ctU R k)) (leU R k) = r1 ∧ Rel TR0 U S1) := by
                  refine ⟨fun g => absurd rfl g, fun _ => ⟨fun g => absurd rfl g, fun _ => ?_⟩⟩
                  rw [ek2]
                  rw [ea]
                  refine m_tell (Inv := fun T => FrA is4 noN S T) (R := R) (by omega) (FrA_refl S) (fun v hv T K F hK => ?_) (fun T F => ?_)
                  · refine m_lay9 ?_
                    have F2 : FrA is4 noN S (sI T 16 4 (nI v)) := FrA_sI rfl F
                    have w9 : gA (sI T 16 4 (nI v)) 16 9 = gA S 16 9 := F2.2.1 9 rfl (by decide)
                    have M2 : MR (G v) (sI T 16 4 (nI v)) := by
                      refine ⟨v, by omega, gI_sIs _ _ _ _, ?_⟩
                      rw [F2.2.1 2 rfl (by decide), F2.2.1 1 rfl (by decide)]
                      exact (hG v hv).2
                    refine m_fo (it := it) hs hn (by omega) (by rw [F2.1 12 rfl (by decide)]; exact en) M2 (by rw [w9]; exact hok) (by rw [F2.1 13 rfl (by decide)]; exact hid) (by rw [F2.2.1 41 rfl (by decide)]; exact s5) (fun i hi => by rw [F2.2.1 42 rfl (by decide)]; exact (hit i).symm) (fun V FV => ?_)
                    have ev : foF (G v) (gA (sI T 16 4 (nI v)) 16 9) n it z 0 (aM (sI T 16 4 (nI v))) = R v := by
                      rw [hR9, w9]
                      unfold aM
                      rw [F2.1 7 rfl (by decide), F2.2.2 8 (by decide) (by decide), F2.2.1 10 rfl (by decide), F2.2.1 11 rfl (by decide)]
                    rw [ev]
                    exact hK V (FrA_L F2 FV)
                  · refine m_lay9 ⟨?_, Rel_CK hR FU (FrA_close (FrA_sI rfl F) (fun f q => ?_) (fun f q _ => absurd q Bool.false_ne_true))⟩
                    · unfold outF
                      rw [if_neg (by rw [q]; decide), if_neg (by rw [q]; decide), if_neg (by rw [q]; decide), if_neg (by rw [q]; decide)]
                      exact bU_cong k (fun v hv => by unfold mb; rw [if_neg (by omega)])
                    · have ef : f = 4 := by simpa [is4] using q
                      rw [ef, gI_sIs]
                exact ⟨fun _ => ⟨fun _ => ⟨fun _ => ⟨fun _ => ⟨fun g => absurd q g, fun _ => j107⟩, fun g => absurd g (by rw [q]; decide)⟩, fun g => absurd g (by rw [q]; decide)⟩, fun g => absurd g (by rw [q]; decide)⟩, fun g => absurd g (by rw [q]; decide)⟩
            · exfalso
              have : ¬ w = 1 := fun g => m1 (by rw [ec, g]; rfl)
              have : ¬ w = 2 := fun g => m2 (by rw [ec, g]; rfl)
              have : ¬ w = 3 := fun g => m3 (by rw [ec, g]; rfl)
              have : ¬ w = 4 := fun g => m4 (by rw [ec, g]; rfl)
              have : ¬ w = 5 := fun g => m5 (by rw [ec, g]; rfl)
              have : ¬ w = 6 := fun g => m6 (by rw [ec, g]; rfl)
              omega
          · refine c_think hW hC (fun Y FY WY CY => ?_)
            refine c_fo (it := it) ho10 hn (by omega) ed (by omega) WY CY (by rw [gI_same (FY o10 (by omega))]; exact c1) (fun i hi => by rw [gA_same (FY o10 (by omega))]; exact xit i hi) (fun U FU => ins _ ⟨fun g => absurd q0 g, fun _ => ?_⟩)
            rw [ea]
            exact m_fo (it := it) hs hn (by omega) en hM hok hid s5 (fun i hi => (hit i).symm) (fun V FV => ⟨rfl, Rel_CL hR (FrC_trans (FrC_of FY) FU) FV⟩)
        · refine isS _ ⟨fun q => absurd q ne10, fun _ => one _ ⟨fun q => absurd q ne10, fun _ => i_in_y z6 (by decide) rc ⟨fun _ => ⟨va, fun _ => ⟨va, fun q => absurd ?_ q20, fun _ => ⟨rfl, hR⟩⟩, fun q => absurd q ?_⟩, fun q => absurd q ne10⟩⟩⟩
          · rw [ca, s5] at q; exact q
          · rw [ca]; exact s1
    · rw [en9] at p
      exact isS _ ⟨fun q => absurd q ne10, fun _ => i_isOne hn en (fun g1 g2 => absurd ⟨g1, g2⟩ p) (fun _ => ⟨fun _ => ⟨rfl, hR⟩, fun q => absurd rfl q⟩)⟩
  · rw [y4] at p
    exact i_isSheet (fun g1 g2 => absurd ⟨g1, g2⟩ p) (fun _ => ⟨fun _ => ⟨rfl, hR⟩, fun q => absurd rfl q⟩)
