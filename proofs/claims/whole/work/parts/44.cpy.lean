/-! copy -/
theorem i_cpLoop {S : St} {s t i j n : Nat} {a1 a2 a3 a4 a6 : Int32} {Q : Int32 → St → Prop} (hs : s < 4) (ht : t < 4) (hi : i + n ≤ 40) (hj : j + n ≤ 40) (e1 : a1 = nI s) (e2 : a2 = nI i) (e3 : a3 = nI t) (e4 : a4 = nI j) (hup : (a6 = 0 ∧ (¬ s = t ∨ j ≤ i)) ∨ (¬ a6 = 0 ∧ s = t ∧ i < j)) (h : ∀ T : St, (∀ f, gI T 16 f = gI S 16 f) → (∀ f, gJ T 16 f = gJ S 16 f) → (∀ f, ¬ f = 42 → gA T 16 f = gA S 16 f) → (∀ q, q < n → gA T 16 42 (40 * t + j + q) = gA S 16 42 (40 * s + i + q)) → (∀ k, ¬ (40 * t + j ≤ k ∧ k < 40 * t + j + n) → gA T 16 42 k = gA S 16 42 k) → Q (nI n) T) : ∃ m : Nat, wX6_copy_l121 m a1 a2 a3 a4 (nI n) a6 0 S Q := by
  have main : ∀ (m k : Nat) (T : St), k + m = n → (∀ f, gI T 16 f = gI S 16 f) → (∀ f, gJ T 16 f = gJ S 16 f) → (∀ f, ¬ f = 42 → gA T 16 f = gA S 16 f) → (∀ q, q < n → (a6 = 0 ∧ q < k ∨ ¬ a6 = 0 ∧ n - k ≤ q) → gA T 16 42 (40 * t + j + q) = gA S 16 42 (40 * s + i + q)) → (∀ x, ¬ (∃ q, q < n ∧ (a6 = 0 ∧ q < k ∨ ¬ a6 = 0 ∧ n - k ≤ q) ∧ x = 40 * t + j + q) → gA T 16 42 x = gA S 16 42 x) → wX6_copy_l121 (m + 1) a1 a2 a3 a4 (nI n) a6 (nI k) T Q := by
    intro m
    induction m with
    | zero =>
      intro k T hk f1 f2 f3 f4 f5
      have e : k = n := by omega
      subst e
      apply wX6_copy_l121_1
      refine ⟨fun _ => h T f1 f2 f3 (fun q hq => f4 q hq ?_) (fun x hx => f5 x ?_), fun c => absurd (Int32.le_refl _) c⟩
      · rcases hup with hup | hup
        · exact Or.inl ⟨hup.1, hq⟩
        · exact Or.inr ⟨hup.1, by omega⟩
      · rintro ⟨q, hq, -, rfl⟩
        exact hx ⟨by omega, by omega⟩
    | succ m ih =>
      intro k T hk f1 f2 f3 f4 f5
      apply wX6_copy_l121_1
      have step : ∀ (q : Nat) (v : Int32), q < n → v = nI q → (a6 = 0 ∧ q = k ∨ ¬ a6 = 0 ∧ q = n - 1 - k) → wX6_copy_j145 a1 a2 a3 a4 (nI n) a6 (nI k) v T (fun a0 b0 c0 d0 e0 g0 k0 σ => wX6_copy_l121 (m + 1) a0 b0 c0 d0 e0 g0 k0 σ Q) Q := by
        intro q v hq ev hqk
        have es : ((40 * a1) + a2) + v = nI (40 * s + i + q) := by
          rw [e1, e2, ev, show (40 : Int32) * nI s = nI (40 * s) from (Int32.ofNat_mul 40 s).symm, nI_add, nI_add]
        have ed : ((40 * a3) + a4) + v = nI (40 * t + j + q) := by
          rw [e3, e4, ev, show (40 : Int32) * nI t = nI (40 * t) from (Int32.ofNat_mul 40 t).symm, nI_add, nI_add]
        unfold wX6_copy_j145
        rw [es, ed]
        refine ⟨vp_in_nI (by omega) (by decide), vp_in_nI (by omega) (by decide), fun T1 u1 x hx => ?_⟩
        rw [nI_clamp (by omega), nI_clamp (by omega)] at u1
        have rd : gA T 16 42 (40 * s + i + q) = gA S 16 42 (40 * s + i + q) := by
          apply f5
          rintro ⟨q2, hq2, hw, he⟩
          rcases hup with ⟨u, w⟩ | ⟨u, w1, w2⟩
          · rcases hqk with ⟨-, hqk⟩ | ⟨u2, -⟩
            · rcases hw with ⟨-, hw⟩ | ⟨u3, -⟩
              · rcases w with w | w
                · have : s = t := by omega
                  exact w this
                · by_cases w9 : s = t
                  · subst w9; omega
                  · have : s = t := by omega
                    exact w9 this
              · exact u3 u
            · exact u2 u
          · rcases hqk with ⟨u2, -⟩ | ⟨-, hqk⟩
            · exact u u2
            · rcases hw with ⟨u3, -⟩ | ⟨-, hw⟩
              · exact u u3
              · subst w1; omega
        rw [rd] at u1
        subst u1
        rw [hx, nI_1]
        refine ih (k + 1) _ (by omega) (fun f => by rw [gI_sA]; exact f1 f) (fun f => by rw [gJ_sA]; exact f2 f) (fun f hf => by rw [gA_sAf _ _ _ _ _ (fun q => hf q.2)]; exact f3 f hf) (fun q2 hq2 hw => ?_) (fun x hx => ?_)
        · rw [gA_sA]
          by_cases e : q2 = q
          · subst e; simp
          · rw [if_neg (by omega)]
            apply f4 q2 hq2
            rcases hqk with ⟨u, hqk⟩ | ⟨u, hqk⟩
            · rcases hw with ⟨-, hw⟩ | ⟨u2, -⟩
              · exact Or.inl ⟨u, by omega⟩
              · exact absurd u u2
            · rcases hw with ⟨u2, -⟩ | ⟨-, hw⟩
              · exact absurd u2 u
              · exact Or.inr ⟨u, by omega⟩
        · rw [gA_sA, if_neg (by
            rintro ⟨-, -, he⟩
            apply hx
            refine ⟨q, hq, ?_, he⟩
            rcases hqk with ⟨u, hqk⟩ | ⟨u, hqk⟩
            · exact Or.inl ⟨u, by omega⟩
            · exact Or.inr ⟨u, by omega⟩)]
          apply f5
          rintro ⟨q2, hq2, hw, he⟩
          apply hx
          refine ⟨q2, hq2, ?_, he⟩
          rcases hw with ⟨u, hw⟩ | ⟨u, hw⟩
          · exact Or.inl ⟨u, by omega⟩
          · exact Or.inr ⟨u, by omega⟩
      refine ⟨fun c => absurd c (nle (N := n) (k := k) (by omega) (by omega)), fun _ => ⟨fun c => step k (nI k) (by omega) rfl (Or.inl ⟨c, rfl⟩), fun c => step (n - 1 - k) _ (by omega) ?_ (Or.inr ⟨c, rfl⟩)⟩⟩
      apply Int32.toInt_inj.mp
      have en : (nI n).toInt = n := nI_toInt (by omega)
      have ek : (nI k).toInt = k := nI_toInt (by omega)
      have ep := pred_toInt (n := n) (by omega)
      rw [tI_sub (by omega) (by omega), ep, ek, nI_toInt (by omega)]
      omega
  refine ⟨n + 1, main n 0 S (by omega) (fun _ => rfl) (fun _ => rfl) (fun _ _ => rfl) (fun q hq hw => ?_) (fun _ _ => rfl)⟩
  rcases hw with ⟨-, hw⟩ | ⟨-, hw⟩ <;> omega
theorem sim25 {TR : OT → Int32 → (Nat → Int32) → Prop} : Sim25 (Rel TR) := by
  intro X S a b c d e hR
  obtain ⟨hW, hI, hT, hP, hSh, hid⟩ := id hR
  have y0 : (0 : Int32).toInt = 0 := rfl
  have y4 : (4 : Int32).toInt = 4 := rfl
  unfold wX5_copy
  refine i_isIn (fun p1 p2 => ⟨fun c => absurd c ne10, fun _ => ?_⟩) (fun h => ⟨fun _ => ?_, fun c => absurd rfl c⟩)
  · rw [y4] at p2
    obtain ⟨s, hs, es⟩ : ∃ s, s < 4 ∧ a = nI s := by
      refine ⟨a.toInt.toNat, by omega, Int32.toInt_inj.mp ?_⟩
      rw [nI_toInt (by omega)]; omega
    have hv : vp_in a 4 := by rw [es]; exact vp_in_nI hs (by decide)
    have hc : a.toNatClampNeg = s := by rw [es]; exact nI_clamp (by omega)
    refine i_isIn (fun r1 r2 => ⟨fun _ => ?_, fun c => absurd c ne10⟩) (fun h => ⟨fun c => absurd rfl c, fun _ => ?_⟩)
    · rw [y4] at r2
      obtain ⟨t, ht, et⟩ : ∃ t, t < 4 ∧ c = nI t := by
        refine ⟨c.toInt.toNat, by omega, Int32.toInt_inj.mp ?_⟩
        rw [nI_toInt (by omega)]; omega
      have hv3 : vp_in c 4 := by rw [et]; exact vp_in_nI ht (by decide)
      have hc3 : c.toNatClampNeg = t := by rw [et]; exact nI_clamp (by omega)
      refine ⟨hv, fun o8 e8 => ⟨hv3, fun o10 e10 => ?_⟩⟩
      rw [hc] at e8
      rw [hc3] at e10
      subst e8 e10
      have pre : ∀ Q : Int32 → St → Prop, ((gA S 16 39 s = 0 → Q (-11) S) ∧ (¬ gA S 16 39 s = 0 → vp_in c 4 ∧ ((¬ gA S 16 39 t = 0 → vp_in a 4 ∧ vp_in c 4 ∧ ((gA S 16 40 s = gA S 16 40 t → ((e < 0 → Q (-12) S) ∧ (¬ e < 0 → ((b < 0 → Q (-12) S) ∧ (¬ b < 0 → ((d < 0 → Q (-12) S) ∧ (¬ d < 0 → vp_in a 4 ∧ ((((gA S 16 41 s) - e) < b → Q (-12) S) ∧ (¬ ((gA S 16 41 s) - e) < b → vp_in c 4 ∧ ((d ≤ ((gA S 16 41 t) - e) → ((¬ a = c → (wX6_copy_j115 a b c d e S Q)) ∧ (a = c → ((d ≤ b → (wX6_copy_j115 a b c d e S Q)) ∧ (¬ d ≤ b → (wX6_copy_j116 a b c d e 1 S Q)))))) ∧ (¬ d ≤ ((gA S 16 41 t) - e) → Q (-12) S))))))))))) ∧ (¬ gA S 16 40 s = gA S 16 40 t → Q (-13) S))) ∧ (gA S 16 39 t = 0 → Q (-11) S)))) → wX6_copy a b c d e S Q := by
        intro Q g
        unfold wX6_copy
        refine i_isSheet (fun _ _ => ⟨fun c => absurd c ne10, fun _ => ?_⟩) (fun h => absurd ⟨p1, p2⟩ h)
        refine i_isSheet (fun _ _ => ⟨fun _ => ⟨hv, ?_⟩, fun c => absurd c ne10⟩) (fun h => absurd ⟨r1, r2⟩ h)
        rw [hc, hc3]
        exact g
      rcases sheet_of hSh hs with ⟨m1, m2⟩ | ⟨q0, q1, q2, q3, z, hz, q4, q5, q6⟩
      · refine i_miss (fun q => absurd m1 q) (fun _ => ⟨fun _ => ?_, fun c => absurd c ne10⟩)
        exact pre _ ⟨fun _ => ⟨rfl, hR⟩, fun q => absurd m2 q⟩
      · refine i_miss (fun _ => ⟨fun c => absurd rfl c, fun _ => ?_⟩) (fun q => absurd q q0)
        rcases sheet_of hSh ht with ⟨n1, n2⟩ | ⟨t0, t1, t2, t3, z', hz', t4, t5, t6⟩
        · refine i_miss (fun q => absurd n1 q) (fun _ => ⟨fun c => absurd c ne10, fun _ => ?_⟩)
          exact pre _ ⟨fun q => absurd q q1, fun _ => ⟨hv3, fun q => absurd n2 q, fun _ => ⟨rfl, hR⟩⟩⟩
        · refine i_miss (fun _ => ⟨fun _ => ⟨fun so => ?_, fun so => ?_⟩, fun c => absurd rfl c⟩) (fun q => absurd q t0)
          · rw [q2, t2] at so
            have ez : (nI z).toInt = z := nI_toInt (by omega)
            have ez' : (nI z').toInt = z' := nI_toInt (by omega)
            by_cases ok : 0 ≤ b.toInt ∧ 0 ≤ d.toInt ∧ 0 ≤ e.toInt ∧ b.toInt + e.toInt ≤ z ∧ d.toInt + e.toInt ≤ z'
            · obtain ⟨ok1, ok2, ok3, ok4, ok5⟩ := ok
              obtain ⟨i, hi9, ei⟩ := rg_of (x := b) (n := 40) (by omega) (by omega) (by decide)
              obtain ⟨j, hj9, ej⟩ := rg_of (x := d) (n := 40) (by omega) (by omega) (by decide)
              obtain ⟨n, hn9, en⟩ := rg_of (x := e) (n := 40) (by omega) (by omega) (by decide)
              have vi : b.toInt = i := by rw [ei]; exact nI_toInt (by omega)
              have vj : d.toInt = j := by rw [ej]; exact nI_toInt (by omega)
              have vn : e.toInt = n := by rw [en]; exact nI_toInt (by omega)
              have ci : b.toNatClampNeg = i := by rw [ei]; exact nI_clamp (by omega)
              have cj : d.toNatClampNeg = j := by rw [ej]; exact nI_clamp (by omega)
              have cn : e.toNatClampNeg = n := by rw [en]; exact nI_clamp (by omega)
              have nb : ¬ b < 0 := by rw [Int32.lt_iff_toInt_lt]; omega
              have nd : ¬ d < 0 := by rw [Int32.lt_iff_toInt_lt]; omega
              have ne : ¬ e < 0 := by rw [Int32.lt_iff_toInt_lt]; omega
              refine i_hasRow hz q4 (fun _ _ _ _ => ⟨fun c => absurd c ne10, fun _ => ?_⟩) (fun q => absurd ⟨by omega, by omega, by omega, by omega⟩ q)
              refine i_hasRow hz' t4 (fun _ _ _ _ => ⟨fun _ => ⟨⟨nb, nd, ne, by rw [ci, cn]; omega, by rw [cj, cn]; omega⟩, fun X1 eX => ?_⟩, fun c => absurd c ne10⟩) (fun q => absurd ⟨by omega, by omega, by omega, by omega⟩ q)
              rw [ci, cj, cn] at eX
              have fin : ∀ T : St, (∀ f, gI T 16 f = gI S 16 f) → (∀ f, gJ T 16 f = gJ S 16 f) → (∀ f, ¬ f = 42 → gA T 16 f = gA S 16 f) → (∀ q, q < n → gA T 16 42 (40 * t + j + q) = gA S 16 42 (40 * s + i + q)) → (∀ k, ¬ (40 * t + j ≤ k ∧ k < 40 * t + j + n) → gA T 16 42 k = gA S 16 42 k) → e = nI n ∧ Rel TR X1 T := by
                intro T g1 g2 g3 g4 g5
                subst eX
                refine ⟨en, ?_, ?_, ?_, ?_, ?_, ?_⟩
                · exact RW_cong (X := X) (S := S) (o_sAr (by omega)) (g2 _) (g1 _) (g1 _) (g1 _) (g3 _ (by decide)) (g3 _ (by decide)) (g3 _ (by decide)) hW
                · exact RI_cong (X := X) (S := S) (by rw [gI_sAr]) (o_sAr (by omega)) (g2 _) (g1 _) (g1 _) (g1 _) (g3 _ (by decide)) (g3 _ (by decide)) (g3 _ (by decide)) hI
                · exact RT_cong (X := X) (S := S) (by rw [gI_sAr]) (fun t ht => o_sAr (by omega)) (g1 _) (g1 _) (g1 _) (g1 _) (g3 _ (by decide)) (g3 _ (by decide)) hT
                · exact RP_cong (X := X) (S := S) (o_sAr (by omega)) (g1 _) (g3 _ (by decide)) hP
                · intro r hr
                  rw [gI_sAr, gI_sAr, g3 39 (by decide), g3 40 (by decide), g3 41 (by decide)]
                  rcases hSh r hr with h9 | ⟨k1, k2, k3, m, hm, k4, k5, k6⟩
                  · exact Or.inl h9
                  · refine Or.inr ⟨k1, k2, k3, m, hm, k4, k5, fun x hx => ?_⟩
                    rw [gA_sAr]
                    by_cases er : r = t
                    · subst er
                      rw [if_pos ⟨rfl, rfl⟩]
                      unfold va_cpy
                      by_cases hin : j ≤ x ∧ x < j + n
                      · rw [if_pos hin, q6 _ (by omega)]
                        have h4 := g4 (x - j) (by omega)
                        rw [show 40 * r + j + (x - j) = 40 * r + x by omega] at h4
                        rw [h4]
                        congr 1; omega
                      · rw [if_neg hin, g5 _ (by omega)]
                        exact k6 x hx
                    · rw [if_neg (by omega), g5 _ (by omega)]
                      exact k6 x hx
                · rw [g1]; exact hid
              refine pre _ ⟨fun q => absurd q q1, fun _ => ⟨hv3, fun _ => ⟨hv, hv3, fun _ => ⟨fun q => absurd q ne, fun _ => ⟨fun q => absurd q nb, fun _ => ⟨fun q => absurd q nd, fun _ => ⟨hv, fun q => ?_, fun _ => ⟨hv3, fun _ => ⟨fun hac => ?_, fun hac => ⟨fun hdb => ?_, fun hdb => ?_⟩⟩, fun q => ?_⟩⟩⟩⟩⟩, fun q => absurd so q⟩, fun q => absurd q t1⟩⟩
              · rw [q5, Int32.lt_iff_toInt_lt, tI_sub (by omega) (by omega)] at q; omega
              · show wX6_copy_j116 a b c d e 0 S _
                unfold wX6_copy_j116
                rw [en]
                refine i_cpLoop hs ht (by omega) (by omega) es ei et ej (Or.inl ⟨rfl, Or.inl (fun q => hac (by rw [es, et, q]))⟩) (fun T g1 g2 g3 g4 g5 => ?_)
                have h9 := fin T g1 g2 g3 g4 g5
                rw [en] at h9
                exact h9
              · show wX6_copy_j116 a b c d e 0 S _
                unfold wX6_copy_j116
                rw [en]
                rw [Int32.le_iff_toInt_le] at hdb
                refine i_cpLoop hs ht (by omega) (by omega) es ei et ej (Or.inl ⟨rfl, Or.inr (by omega)⟩) (fun T g1 g2 g3 g4 g5 => ?_)
                have h9 := fin T g1 g2 g3 g4 g5
                rw [en] at h9
                exact h9
              · unfold wX6_copy_j116
                rw [en]
                rw [Int32.le_iff_toInt_le] at hdb
                have hst : s = t := by
                  have h8 : nI s = nI t := by rw [← es, ← et]; exact hac
                  exact (nI_eq (by omega) (by omega)).mp h8
                refine i_cpLoop hs ht (by omega) (by omega) es ei et ej (Or.inr ⟨by decide, hst, by omega⟩) (fun T g1 g2 g3 g4 g5 => ?_)
                have h9 := fin T g1 g2 g3 g4 g5
                rw [en] at h9
                exact h9
              · rw [t5, Int32.le_iff_toInt_le, tI_sub (by omega) (by omega)] at q; omega
            · have bad : wX6_copy a b c d e S (fun r1 S1 => (-12 : Int32) = r1 ∧ Rel TR X S1) := by
                refine pre _ ⟨fun q => absurd q q1, fun _ => ⟨hv3, fun _ => ⟨hv, hv3, fun _ => ⟨fun _ => ⟨rfl, hR⟩, fun ne => ⟨fun _ => ⟨rfl, hR⟩, fun nb => ⟨fun _ => ⟨rfl, hR⟩, fun nd => ⟨hv, fun _ => ⟨rfl, hR⟩, fun k1 => ⟨hv3, fun k2 => ?_, fun _ => ⟨rfl, hR⟩⟩⟩⟩⟩⟩, fun q => absurd so q⟩, fun q => absurd q t1⟩⟩
                exfalso
                apply ok
                rw [Int32.lt_iff_toInt_lt] at ne nb nd
                rw [q5, Int32.lt_iff_toInt_lt] at k1
                rw [t5, Int32.le_iff_toInt_le] at k2
                have hel : e.toInt ≤ 2147483647 := by have h7 := Int32.toInt_lt e; omega
                rw [tI_sub (by omega) (by omega)] at k1 k2
                omega
              refine i_hasRow hz q4 (fun g1 g2 g3 g4 => ⟨fun c => absurd c ne10, fun _ => ?_⟩) (fun _ => ⟨fun _ => bad, fun c => absurd rfl c⟩)
              refine i_hasRow hz' t4 (fun k1 k2 k3 k4 => absurd ⟨g1, k1, g2, g4, k4⟩ ok) (fun _ => ⟨fun c => absurd rfl c, fun _ => bad⟩)
          · rw [q2, t2] at so
            exact pre _ ⟨fun q => absurd q q1, fun _ => ⟨hv3, fun _ => ⟨hv, hv3, fun q => absurd q so, fun _ => ⟨rfl, hR⟩⟩, fun q => absurd q t1⟩⟩
    · rw [y4] at h
      unfold wX6_copy
      refine i_isSheet (fun _ _ => ⟨fun c => absurd c ne10, fun _ => ?_⟩) (fun h => absurd ⟨p1, p2⟩ h)
      exact i_isSheet (fun g1 g2 => absurd ⟨g1, g2⟩ h) (fun _ => ⟨fun c => absurd rfl c, fun _ => ⟨rfl, hR⟩⟩)
  · rw [y4] at h
    unfold wX6_copy
    exact i_isSheet (fun g1 g2 => absurd ⟨g1, g2⟩ h) (fun _ => ⟨fun _ => ⟨rfl, hR⟩, fun c => absurd rfl c⟩)
