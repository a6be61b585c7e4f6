/-! THE CALLS: betters, pairs -/
section
variable {d s : Nat} {σ τ : cw_V} {lam : Nat → Int64} {Q : cw_Q} {ρ : Nat → Nat} {c : Nat}
theorem z_mbetters (hM : MW τ s) (teV : TE (mv τ) 1 σ 1) (hW : WF σ 1 s) (hρ : Dep s (σ 7) (σ 9) ρ) (k2 : τ 146 13 = nI c) (hc : c ≤ 8) (kk : ∀ υ υ2, LV τ υ c → MR υ υ2 → MW υ2 s → (((bx1 (Px σ s ρ) (cX σ) 15 0 (-1, -1, costOf σ 1)).1 = -1 ∧ TE (mv υ2) 1 σ 1) ∨ ∃ a b, bx1 (Px σ s ρ) (cX σ) 15 0 (-1, -1, costOf σ 1) = (nI a, nI b, cX σ a b) ∧ a < 15 ∧ b < 15 ∧ TE (mv υ2) 1 (vT σ (xT σ a b)) 1) → Q (some (.int (costOf σ 1 - (bx1 (Px σ s ρ) (cX σ) 15 0 (-1, -1, costOf σ 1)).2.2))) (cw_B υ2 lam)) : cw_Z (d + 6) m_Mo_betters [.ref 146] (cw_B τ lam) Q := by
  refine zi (L := [some (.ref 146), none, none, none, none, none, none, none]) rfl rfl (fun K hK => ?_)
  have h8 := hW.2.1
  have main : ∀ υ, (∃ υ', LV τ υ' c ∧ MR υ' υ) → MW υ s → TE (mv υ) 1 σ 1 → ∀ υa, AS υ υa 15 → K 23 [some (.ref 146), some (.int (costOf σ 1)), some (.int (costOf σ 1)), some (.int (-1)), some (.int (-1)), some (.int (nI 0)), none, none] [] (cw_B υa lam) := by
    intro υ0 hL hM0 te00 υa hAS
    obtain ⟨υ', hL', hR'⟩ := hL
    obtain ⟨y1, y2, y3⟩ := te00.mrow
    have mex : ∀ ξ, TE (mv ξ) 1 σ 1 → ∀ a b, nodeN s (σ 7) a → nodeN s (σ 7) b → (cEM ξ ρ a b ↔ cET σ 1 s ρ a b) := fun ξ hξ a b na nb => by
      have w3 := hξ.mrow.2.2
      have la := hW.2.lt na
      have lb := hW.2.lt nb
      unfold cEM cET
      rw [w3 a (by omega), w3 b (by omega), Inr.cg hW.2 hρ w3 na, Inr.cg hW.2 hρ w3 nb]
    have dep : ∀ ξ, TE (mv ξ) 1 σ 1 → Dep s (ξ 151) (ξ 153) ρ := fun ξ hξ => Dep.cg hρ h8 hξ.mrow.1 hξ.mrow.2.2
    have loop1 : ∀ m a ξ (x : T3) (z6 z7 : Option Value), a + m = 15 → MR υ0 ξ → MW ξ s → TE (mv ξ) 1 σ 1 → (∀ x, x < 15 → ξ 154 x = υ0 150 x ∧ ξ 154 (15 + x) = υ0 151 x ∧ ξ 154 (30 + x) = υ0 152 x ∧ ξ 154 (45 + x) = υ0 153 x) → bx1 (Px σ s ρ) (cX σ) m a x = bx1 (Px σ s ρ) (cX σ) 15 0 (-1, -1, costOf σ 1) → K 23 [some (.ref 146), some (.int (costOf σ 1)), some (.int x.2.2), some (.int x.1), some (.int x.2.1), some (.int (nI a)), z6, z7] [] (cw_B ξ lam) := by
      intro m
      induction m with
      | zero =>
        intro a ξ x z6 z7 ha hR hMx te has e
        obtain rfl : a = 15 := by omega
        have hx := bx1_ok (P := Px σ s ρ) (c := cX σ) (w := costOf σ 1) 15 0 (-1, -1, costOf σ 1) (by omega) (Or.inl ⟨rfl, rfl⟩)
        have e2 : x = bx1 (Px σ s ρ) (cX σ) 15 0 (-1, -1, costOf σ 1) := e
        rw [← e2] at hx kk
        rcases hx with ⟨hx1, hx2⟩ | ⟨a, b, ha15, hb15, ⟨na, nb, hc3⟩, rfl⟩
        · skip
          refine st_go hK rfl rfl ?_
          refine st_go hK rfl rfl ?_
          refine st_ifn hK rfl rfl (nI_leI (a := 15) (b := 15) (by omega) (by omega)) (fun _ => ?_) (fun c => absurd (by omega) c)
          refine st_go hK rfl rfl ?_
          refine st_go hK rfl rfl ?_
          refine st_if hK rfl rfl (fun _ => ?_) (fun c => absurd hx1 c)
          refine st_go hK rfl rfl ?_
          refine st_go hK rfl rfl ?_
          refine st_bin hK rfl ?_
          refine st_ret hK rfl rfl ?_
          exact kk υ' ξ hL' (hR'.trans hR) hMx (Or.inl ⟨hx1, te⟩)
        · skip
          refine st_go hK rfl rfl ?_
          refine st_go hK rfl rfl ?_
          refine st_ifn hK rfl rfl (nI_leI (a := 15) (b := 15) (by omega) (by omega)) (fun _ => ?_) (fun c => absurd (by omega) c)
          refine st_go hK rfl rfl ?_
          refine st_go hK rfl rfl ?_
          refine st_if hK rfl rfl (fun c => absurd c (nI_ne1 (by omega))) (fun _ => ?_)
          refine st_go hK rfl rfl ?_
          refine st_go hK rfl rfl ?_
          refine st_go hK rfl rfl ?_
          refine cv2 hK rfl qc_146 (Nat.le_of_ble_eq_true rfl) ?_
          refine z_swaps hMx (dep ξ te) (te.nn.mpr na) (te.nn.mpr nb) ((mex ξ te a b na nb).mpr hc3) (fun ξ2 mw4 hMT => ?_)
          obtain ⟨w1, w2, w3⟩ := te.mrow
          change K _ _ _ _
          refine st_go hK rfl rfl ?_
          refine st_go hK rfl rfl ?_
          refine st_bin hK rfl ?_
          refine st_ret hK rfl rfl ?_
          exact kk υ' ξ2 hL' (hR'.trans (hR.trans hMT.mr)) mw4 (Or.inr ⟨a, b, rfl, ha15, hb15, te_rows te hMT.mr vT_lo (fun x hx => (hMT.2.1 x hx).trans (xF_cg (w1 x hx))) (fun x hx => (hMT.2.2.1 x hx).trans (xF_cg (w2 x hx))) (fun x hx => (hMT.2.2.2 x hx).trans (xP_cg (w3 x hx) (w3 a ha15) (w3 b hb15)))⟩)
      | succ m ih =>
        intro a ξ x z6 z7 ha hR hMx te has e
        have loop2 : ∀ q b ξ (x : T3) (z7 : Option Value), b + q = 15 → a < b → MR υ0 ξ → MW ξ s → TE (mv ξ) 1 σ 1 → (∀ x, x < 15 → ξ 154 x = υ0 150 x ∧ ξ 154 (15 + x) = υ0 151 x ∧ ξ 154 (30 + x) = υ0 152 x ∧ ξ 154 (45 + x) = υ0 153 x) → bx1 (Px σ s ρ) (cX σ) m (a + 1) (bx2 (Px σ s ρ) (cX σ) a q b x) = bx1 (Px σ s ρ) (cX σ) 15 0 (-1, -1, costOf σ 1) → K 36 [some (.ref 146), some (.int (costOf σ 1)), some (.int x.2.2), some (.int x.1), some (.int x.2.1), some (.int (nI a)), some (.int (nI b)), z7] [] (cw_B ξ lam) := by
          intro q
          induction q with
          | zero =>
            intro b ξ x z7 hb hab hR hMx te has e
            obtain rfl : b = 15 := by omega
            refine st_go hK rfl rfl ?_
            refine st_go hK rfl rfl ?_
            refine st_ifn hK rfl rfl (nI_leI (a := 15) (b := 15) (by omega) (by omega)) (fun _ => ?_) (fun c => absurd (by omega) c)
            refine st_go hK rfl rfl ?_
            rw [nI_1]
            refine st_go hK rfl rfl ?_
            exact ih (a + 1) ξ x _ _ (by omega) hR hMx te has e
          | succ q ih2 =>
            intro b ξ x z7 hb hab hR hMx te has e
            have skip : ¬ Px σ s ρ a b → bx1 (Px σ s ρ) (cX σ) m (a + 1) (bx2 (Px σ s ρ) (cX σ) a q (b + 1) x) = bx1 (Px σ s ρ) (cX σ) 15 0 (-1, -1, costOf σ 1) := fun hP => by
              have hst : bxS (Px σ s ρ) (cX σ) a b x = x := pif_n hP
              rw [← e]
              show _ = bx1 _ _ m (a + 1) (bx2 _ _ a q (b + 1) (bxS _ _ a b x))
              rw [hst]
            have i1 : ∀ n, n < 15 → (ξ 150 n = 1 ↔ nodeN s (σ 7) n) := fun n hn => (hMx.is1 hn).trans te.nn
            by_cases na : nodeN s (σ 7) a
            · have ia := (i1 a (by omega)).mpr na
              by_cases nb : nodeN s (σ 7) b
              · have ib := (i1 b (by omega)).mpr nb
                by_cases hc3 : cET σ 1 s ρ a b
                · have hWT := hW.2.exch na nb hc3.1 hc3.2.1 hc3.2.2.1 hρ hc3.2.2.2.1 hc3.2.2.2.2
                  have hWV : WF (vT σ (xT σ a b)) 1 s := vT_wf hW hWT
                  obtain ⟨w1, w2, w3⟩ := te.mrow
                  have e' : bx1 (Px σ s ρ) (cX σ) m (a + 1) (bx2 (Px σ s ρ) (cX σ) a q (b + 1) (if cX σ a b < x.2.2 then (nI a, nI b, cX σ a b) else x)) = bx1 (Px σ s ρ) (cX σ) 15 0 (-1, -1, costOf σ 1) := by
                    have hst : bxS (Px σ s ρ) (cX σ) a b x = if cX σ a b < x.2.2 then (nI a, nI b, cX σ a b) else x := pif_p ⟨na, nb, hc3⟩
                    rw [← hst]; exact e
                  refine st_go hK rfl rfl ?_
                  refine st_go hK rfl rfl ?_
                  refine st_ifn hK rfl rfl (nI_leI (a := 15) (b := b) (by omega) (by omega)) (fun c => absurd c (by omega)) (fun _ => ?_)
                  refine st_go hK rfl rfl ?_
                  refine st_getr hK rfl qf_146_8 ?_
                  refine st_go hK rfl rfl ?_
                  refine ga (e := a) (v := (1 : Int32)) hK rfl qa_150 rfl (by omega) rfl ia ?_
                  refine st_go hK rfl rfl ?_
                  refine st_if hK rfl rfl (fun c => absurd c (by decide)) (fun _ => ?_)
                  refine st_go hK rfl rfl ?_
                  refine st_getr hK rfl qf_146_8 ?_
                  refine st_go hK rfl rfl ?_
                  refine ga (e := b) (v := (1 : Int32)) hK rfl qa_150 rfl (by omega) rfl ib ?_
                  refine st_go hK rfl rfl ?_
                  refine st_if hK rfl rfl (fun c => absurd c (by decide)) (fun _ => ?_)
                  refine st_go hK rfl rfl ?_
                  refine st_go hK rfl rfl ?_
                  refine st_go hK rfl rfl ?_
                  refine cv2 hK rfl qc_146 (Nat.le_of_ble_eq_true rfl) ?_
                  refine z_mcanExchange hMx (dep ξ te) (te.nn.mpr na) (te.nn.mpr nb) (fun _ => ?_) (fun c => absurd ((mex ξ te a b na nb).mpr hc3) c)
                  change K _ _ (_ :: _) _
                  refine st_if hK rfl rfl (fun c => absurd c (by decide)) (fun _ => ?_)
                  refine st_go hK rfl rfl ?_
                  refine st_go hK rfl rfl ?_
                  refine st_go hK rfl rfl ?_
                  refine cv2 hK rfl qc_146 (Nat.le_of_ble_eq_true rfl) ?_
                  refine z_swaps hMx (dep ξ te) (te.nn.mpr na) (te.nn.mpr nb) ((mex ξ te a b na nb).mpr hc3) (fun ξ1 mw1 hMT => ?_)
                  have te1 : TE (mv ξ1) 1 (vT σ (xT σ a b)) 1 := te_rows te hMT.mr vT_lo (fun x hx => (hMT.2.1 x hx).trans (xF_cg (w1 x hx))) (fun x hx => (hMT.2.2.1 x hx).trans (xF_cg (w2 x hx))) (fun x hx => (hMT.2.2.2 x hx).trans (xP_cg (w3 x hx) (w3 a (by omega)) (w3 b (by omega))))
                  change K _ _ _ _
                  refine st_go hK rfl rfl ?_
                  refine cv0 hK rfl qc_146 (Nat.le_of_ble_eq_true rfl) ?_
                  refine z_costOfAll mw1 (fun ξ2 hT2 => ?_)
                  rw [show costOf (mv ξ1) 1 = cX σ a b from te1.cost hWV]
                  change K _ _ (_ :: _) _
                  refine st_go hK rfl rfl ?_
                  change K _ [some (.ref 146), some (.int (costOf σ 1)), some (.int x.2.2), some (.int x.1), some (.int x.2.1), some (.int (nI a)), some (.int (nI b)), some (.int (cX σ a b))] _ _
                  refine st_go hK rfl rfl ?_
                  refine st_go hK rfl rfl ?_
                  refine st_if hK rfl rfl (fun c93 => ?_) (fun c93 => ?_)
                  · refine st_go hK rfl rfl ?_
                    refine st_go hK rfl rfl ?_
                    change K _ [some (.ref 146), some (.int (costOf σ 1)), some (.int x.2.2), some (.int x.1), some (.int x.2.1), some (.int (nI a)), some (.int (nI b)), some (.int (cX σ a b))] _ _
                    refine st_go hK rfl rfl ?_
                    refine st_go hK rfl rfl ?_
                    refine st_if hK rfl rfl (fun c106 => ?_) (fun c106 => ?_)
                    · refine st_go hK rfl rfl ?_
                      refine st_go hK rfl rfl ?_
                      change K _ [some (.ref 146), some (.int (costOf σ 1)), some (.int x.2.2), some (.int x.1), some (.int x.2.1), some (.int (nI a)), some (.int (nI b)), some (.int (cX σ a b))] _ _
                      refine st_go hK rfl rfl ?_
                      refine st_go hK rfl rfl ?_
                      refine cs2 hK rfl (Nat.le_of_ble_eq_true rfl) ?_
                      refine z_mlesser ?_
                      change K _ _ (_ :: _) _
                      refine st_go hK rfl rfl ?_
                      change K _ [some (.ref 146), some (.int (costOf σ 1)), some (.int (mn (cX σ a b) x.2.2)), some (.int x.1), some (.int x.2.1), some (.int (nI a)), some (.int (nI b)), some (.int (cX σ a b))] _ _
                      refine st_go hK rfl rfl ?_
                      refine cv0 hK rfl qc_146 (Nat.le_of_ble_eq_true rfl) ?_
                      refine z_takesBack (fun ξ3 hTB => ?_)
                      have r154 : ∀ q, ξ2 154 q = ξ 154 q := fun q => by rw [hT2.1.1 154 (by decide) (by decide), hMT.1 154 (by decide)]
                      have hR3 : MR υ0 ξ3 := ((hR.trans hMT.mr).trans hT2.1.tq.mr).trans hTB.mr
                      have b0 : ∀ x, x < 15 → ξ3 150 x = υ0 150 x := fun x hx => ((hTB.2 x hx).1.trans (r154 _)).trans (has x hx).1
                      have b1 : ∀ x, x < 15 → ξ3 151 x = υ0 151 x := fun x hx => ((hTB.2 x hx).2.1.trans (r154 _)).trans (has x hx).2.1
                      have b2 : ∀ x, x < 15 → ξ3 152 x = υ0 152 x := fun x hx => ((hTB.2 x hx).2.2.1.trans (r154 _)).trans (has x hx).2.2.1
                      have b3 : ∀ x, x < 15 → ξ3 153 x = υ0 153 x := fun x hx => ((hTB.2 x hx).2.2.2.trans (r154 _)).trans (has x hx).2.2.2
                      have mw3 : MW ξ3 s := hM0.cgr (hR3.2 1 (by decide)) b0 b1 b2 b3
                      have te3 : TE (mv ξ3) 1 σ 1 := te_rows te00 hR3 (fun _ _ => rfl) (fun x hx => (b1 x hx).trans (y1 x hx)) (fun x hx => (b2 x hx).trans (y2 x hx)) (fun x hx => (b3 x hx).trans (y3 x hx))
                      have has3 : ∀ x, x < 15 → ξ3 154 x = υ0 150 x ∧ ξ3 154 (15 + x) = υ0 151 x ∧ ξ3 154 (30 + x) = υ0 152 x ∧ ξ3 154 (45 + x) = υ0 153 x := fun x hx => by
                        rw [hTB.1 154 (by decide), r154, r154, r154, r154]
                        exact has x hx
                      change K _ _ _ _
                      refine st_go hK rfl rfl ?_
                      rw [nI_1]
                      refine st_go hK rfl rfl ?_
                      first
                        | exact absurd c93 c106
                        | exact absurd c106 c93
                        | (rw [if_neg (Int32.not_lt.mpr c93)] at e'
                           rw [mn_le c93]
                           exact ih2 (b + 1) ξ3 x _ (by omega) (by omega) hR3 mw3 te3 has3 e')
                        | (rw [if_pos (Int32.not_le.mp c93)] at e'
                           rw [mn_ge c93]
                           exact ih2 (b + 1) ξ3 (nI a, nI b, cX σ a b) _ (by omega) (by omega) hR3 mw3 te3 has3 e')
                    · refine st_go hK rfl rfl ?_
                      refine st_go hK rfl rfl ?_
                      refine st_go hK rfl rfl ?_
                      change K _ [some (.ref 146), some (.int (costOf σ 1)), some (.int x.2.2), some (.int x.1), some (.int (nI b)), some (.int (nI a)), some (.int (nI b)), some (.int (cX σ a b))] _ _
                      refine st_go hK rfl rfl ?_
                      refine st_go hK rfl rfl ?_
                      refine cs2 hK rfl (Nat.le_of_ble_eq_true rfl) ?_
                      refine z_mlesser ?_
                      change K _ _ (_ :: _) _
                      refine st_go hK rfl rfl ?_
                      change K _ [some (.ref 146), some (.int (costOf σ 1)), some (.int (mn (cX σ a b) x.2.2)), some (.int x.1), some (.int (nI b)), some (.int (nI a)), some (.int (nI b)), some (.int (cX σ a b))] _ _
                      refine st_go hK rfl rfl ?_
                      refine cv0 hK rfl qc_146 (Nat.le_of_ble_eq_true rfl) ?_
                      refine z_takesBack (fun ξ3 hTB => ?_)
                      have r154 : ∀ q, ξ2 154 q = ξ 154 q := fun q => by rw [hT2.1.1 154 (by decide) (by decide), hMT.1 154 (by decide)]
                      have hR3 : MR υ0 ξ3 := ((hR.trans hMT.mr).trans hT2.1.tq.mr).trans hTB.mr
                      have b0 : ∀ x, x < 15 → ξ3 150 x = υ0 150 x := fun x hx => ((hTB.2 x hx).1.trans (r154 _)).trans (has x hx).1
                      have b1 : ∀ x, x < 15 → ξ3 151 x = υ0 151 x := fun x hx => ((hTB.2 x hx).2.1.trans (r154 _)).trans (has x hx).2.1
                      have b2 : ∀ x, x < 15 → ξ3 152 x = υ0 152 x := fun x hx => ((hTB.2 x hx).2.2.1.trans (r154 _)).trans (has x hx).2.2.1
                      have b3 : ∀ x, x < 15 → ξ3 153 x = υ0 153 x := fun x hx => ((hTB.2 x hx).2.2.2.trans (r154 _)).trans (has x hx).2.2.2
                      have mw3 : MW ξ3 s := hM0.cgr (hR3.2 1 (by decide)) b0 b1 b2 b3
                      have te3 : TE (mv ξ3) 1 σ 1 := te_rows te00 hR3 (fun _ _ => rfl) (fun x hx => (b1 x hx).trans (y1 x hx)) (fun x hx => (b2 x hx).trans (y2 x hx)) (fun x hx => (b3 x hx).trans (y3 x hx))
                      have has3 : ∀ x, x < 15 → ξ3 154 x = υ0 150 x ∧ ξ3 154 (15 + x) = υ0 151 x ∧ ξ3 154 (30 + x) = υ0 152 x ∧ ξ3 154 (45 + x) = υ0 153 x := fun x hx => by
                        rw [hTB.1 154 (by decide), r154, r154, r154, r154]
                        exact has x hx
                      change K _ _ _ _
                      refine st_go hK rfl rfl ?_
                      rw [nI_1]
                      refine st_go hK rfl rfl ?_
                      first
                        | exact absurd c93 c106
                        | exact absurd c106 c93
                        | (rw [if_neg (Int32.not_lt.mpr c93)] at e'
                           rw [mn_le c93]
                           exact ih2 (b + 1) ξ3 x _ (by omega) (by omega) hR3 mw3 te3 has3 e')
                        | (rw [if_pos (Int32.not_le.mp c93)] at e'
                           rw [mn_ge c93]
                           exact ih2 (b + 1) ξ3 (nI a, nI b, cX σ a b) _ (by omega) (by omega) hR3 mw3 te3 has3 e')
                  · refine st_go hK rfl rfl ?_
                    refine st_go hK rfl rfl ?_
                    refine st_go hK rfl rfl ?_
                    change K _ [some (.ref 146), some (.int (costOf σ 1)), some (.int x.2.2), some (.int (nI a)), some (.int x.2.1), some (.int (nI a)), some (.int (nI b)), some (.int (cX σ a b))] _ _
                    refine st_go hK rfl rfl ?_
                    refine st_go hK rfl rfl ?_
                    refine st_if hK rfl rfl (fun c106 => ?_) (fun c106 => ?_)
                    · refine st_go hK rfl rfl ?_
                      refine st_go hK rfl rfl ?_
                      change K _ [some (.ref 146), some (.int (costOf σ 1)), some (.int x.2.2), some (.int (nI a)), some (.int x.2.1), some (.int (nI a)), some (.int (nI b)), some (.int (cX σ a b))] _ _
                      refine st_go hK rfl rfl ?_
                      refine st_go hK rfl rfl ?_
                      refine cs2 hK rfl (Nat.le_of_ble_eq_true rfl) ?_
                      refine z_mlesser ?_
                      change K _ _ (_ :: _) _
                      refine st_go hK rfl rfl ?_
                      change K _ [some (.ref 146), some (.int (costOf σ 1)), some (.int (mn (cX σ a b) x.2.2)), some (.int (nI a)), some (.int x.2.1), some (.int (nI a)), some (.int (nI b)), some (.int (cX σ a b))] _ _
                      refine st_go hK rfl rfl ?_
                      refine cv0 hK rfl qc_146 (Nat.le_of_ble_eq_true rfl) ?_
                      refine z_takesBack (fun ξ3 hTB => ?_)
                      have r154 : ∀ q, ξ2 154 q = ξ 154 q := fun q => by rw [hT2.1.1 154 (by decide) (by decide), hMT.1 154 (by decide)]
                      have hR3 : MR υ0 ξ3 := ((hR.trans hMT.mr).trans hT2.1.tq.mr).trans hTB.mr
                      have b0 : ∀ x, x < 15 → ξ3 150 x = υ0 150 x := fun x hx => ((hTB.2 x hx).1.trans (r154 _)).trans (has x hx).1
                      have b1 : ∀ x, x < 15 → ξ3 151 x = υ0 151 x := fun x hx => ((hTB.2 x hx).2.1.trans (r154 _)).trans (has x hx).2.1
                      have b2 : ∀ x, x < 15 → ξ3 152 x = υ0 152 x := fun x hx => ((hTB.2 x hx).2.2.1.trans (r154 _)).trans (has x hx).2.2.1
                      have b3 : ∀ x, x < 15 → ξ3 153 x = υ0 153 x := fun x hx => ((hTB.2 x hx).2.2.2.trans (r154 _)).trans (has x hx).2.2.2
                      have mw3 : MW ξ3 s := hM0.cgr (hR3.2 1 (by decide)) b0 b1 b2 b3
                      have te3 : TE (mv ξ3) 1 σ 1 := te_rows te00 hR3 (fun _ _ => rfl) (fun x hx => (b1 x hx).trans (y1 x hx)) (fun x hx => (b2 x hx).trans (y2 x hx)) (fun x hx => (b3 x hx).trans (y3 x hx))
                      have has3 : ∀ x, x < 15 → ξ3 154 x = υ0 150 x ∧ ξ3 154 (15 + x) = υ0 151 x ∧ ξ3 154 (30 + x) = υ0 152 x ∧ ξ3 154 (45 + x) = υ0 153 x := fun x hx => by
                        rw [hTB.1 154 (by decide), r154, r154, r154, r154]
                        exact has x hx
                      change K _ _ _ _
                      refine st_go hK rfl rfl ?_
                      rw [nI_1]
                      refine st_go hK rfl rfl ?_
                      first
                        | exact absurd c93 c106
                        | exact absurd c106 c93
                        | (rw [if_neg (Int32.not_lt.mpr c93)] at e'
                           rw [mn_le c93]
                           exact ih2 (b + 1) ξ3 x _ (by omega) (by omega) hR3 mw3 te3 has3 e')
                        | (rw [if_pos (Int32.not_le.mp c93)] at e'
                           rw [mn_ge c93]
                           exact ih2 (b + 1) ξ3 (nI a, nI b, cX σ a b) _ (by omega) (by omega) hR3 mw3 te3 has3 e')
                    · refine st_go hK rfl rfl ?_
                      refine st_go hK rfl rfl ?_
                      refine st_go hK rfl rfl ?_
                      change K _ [some (.ref 146), some (.int (costOf σ 1)), some (.int x.2.2), some (.int (nI a)), some (.int (nI b)), some (.int (nI a)), some (.int (nI b)), some (.int (cX σ a b))] _ _
                      refine st_go hK rfl rfl ?_
                      refine st_go hK rfl rfl ?_
                      refine cs2 hK rfl (Nat.le_of_ble_eq_true rfl) ?_
                      refine z_mlesser ?_
                      change K _ _ (_ :: _) _
                      refine st_go hK rfl rfl ?_
                      change K _ [some (.ref 146), some (.int (costOf σ 1)), some (.int (mn (cX σ a b) x.2.2)), some (.int (nI a)), some (.int (nI b)), some (.int (nI a)), some (.int (nI b)), some (.int (cX σ a b))] _ _
                      refine st_go hK rfl rfl ?_
                      refine cv0 hK rfl qc_146 (Nat.le_of_ble_eq_true rfl) ?_
                      refine z_takesBack (fun ξ3 hTB => ?_)
                      have r154 : ∀ q, ξ2 154 q = ξ 154 q := fun q => by rw [hT2.1.1 154 (by decide) (by decide), hMT.1 154 (by decide)]
                      have hR3 : MR υ0 ξ3 := ((hR.trans hMT.mr).trans hT2.1.tq.mr).trans hTB.mr
                      have b0 : ∀ x, x < 15 → ξ3 150 x = υ0 150 x := fun x hx => ((hTB.2 x hx).1.trans (r154 _)).trans (has x hx).1
                      have b1 : ∀ x, x < 15 → ξ3 151 x = υ0 151 x := fun x hx => ((hTB.2 x hx).2.1.trans (r154 _)).trans (has x hx).2.1
                      have b2 : ∀ x, x < 15 → ξ3 152 x = υ0 152 x := fun x hx => ((hTB.2 x hx).2.2.1.trans (r154 _)).trans (has x hx).2.2.1
                      have b3 : ∀ x, x < 15 → ξ3 153 x = υ0 153 x := fun x hx => ((hTB.2 x hx).2.2.2.trans (r154 _)).trans (has x hx).2.2.2
                      have mw3 : MW ξ3 s := hM0.cgr (hR3.2 1 (by decide)) b0 b1 b2 b3
                      have te3 : TE (mv ξ3) 1 σ 1 := te_rows te00 hR3 (fun _ _ => rfl) (fun x hx => (b1 x hx).trans (y1 x hx)) (fun x hx => (b2 x hx).trans (y2 x hx)) (fun x hx => (b3 x hx).trans (y3 x hx))
                      have has3 : ∀ x, x < 15 → ξ3 154 x = υ0 150 x ∧ ξ3 154 (15 + x) = υ0 151 x ∧ ξ3 154 (30 + x) = υ0 152 x ∧ ξ3 154 (45 + x) = υ0 153 x := fun x hx => by
                        rw [hTB.1 154 (by decide), r154, r154, r154, r154]
                        exact has x hx
                      change K _ _ _ _
                      refine st_go hK rfl rfl ?_
                      rw [nI_1]
                      refine st_go hK rfl rfl ?_
                      first
                        | exact absurd c93 c106
                        | exact absurd c106 c93
                        | (rw [if_neg (Int32.not_lt.mpr c93)] at e'
                           rw [mn_le c93]
                           exact ih2 (b + 1) ξ3 x _ (by omega) (by omega) hR3 mw3 te3 has3 e')
                        | (rw [if_pos (Int32.not_le.mp c93)] at e'
                           rw [mn_ge c93]
                           exact ih2 (b + 1) ξ3 (nI a, nI b, cX σ a b) _ (by omega) (by omega) hR3 mw3 te3 has3 e')
                · have e' := skip (fun z => hc3 z.2.2)
                  refine st_go hK rfl rfl ?_
                  refine st_go hK rfl rfl ?_
                  refine st_ifn hK rfl rfl (nI_leI (a := 15) (b := b) (by omega) (by omega)) (fun c => absurd c (by omega)) (fun _ => ?_)
                  refine st_go hK rfl rfl ?_
                  refine st_getr hK rfl qf_146_8 ?_
                  refine st_go hK rfl rfl ?_
                  refine ga (e := a) (v := (1 : Int32)) hK rfl qa_150 rfl (by omega) rfl ia ?_
                  refine st_go hK rfl rfl ?_
                  refine st_if hK rfl rfl (fun c => absurd c (by decide)) (fun _ => ?_)
                  refine st_go hK rfl rfl ?_
                  refine st_getr hK rfl qf_146_8 ?_
                  refine st_go hK rfl rfl ?_
                  refine ga (e := b) (v := (1 : Int32)) hK rfl qa_150 rfl (by omega) rfl ib ?_
                  refine st_go hK rfl rfl ?_
                  refine st_if hK rfl rfl (fun c => absurd c (by decide)) (fun _ => ?_)
                  refine st_go hK rfl rfl ?_
                  refine st_go hK rfl rfl ?_
                  refine st_go hK rfl rfl ?_
                  refine cv2 hK rfl qc_146 (Nat.le_of_ble_eq_true rfl) ?_
                  refine z_mcanExchange hMx (dep ξ te) (te.nn.mpr na) (te.nn.mpr nb) (fun c => absurd ((mex ξ te a b na nb).mp c) hc3) (fun _ => ?_)
                  change K _ _ (_ :: _) _
                  refine st_if hK rfl rfl (fun _ => ?_) (fun c => absurd (by decide) c)
                  refine st_go hK rfl rfl ?_
                  rw [nI_1]
                  refine st_go hK rfl rfl ?_
                  exact ih2 (b + 1) ξ x _ (by omega) (by omega) hR hMx te has e'
              · have ib : ¬ ξ 150 b = 1 := fun z => nb ((i1 b (by omega)).mp z)
                have e' := skip (fun z => nb z.2.1)
                refine st_go hK rfl rfl ?_
                refine st_go hK rfl rfl ?_
                refine st_ifn hK rfl rfl (nI_leI (a := 15) (b := b) (by omega) (by omega)) (fun c => absurd c (by omega)) (fun _ => ?_)
                refine st_go hK rfl rfl ?_
                refine st_getr hK rfl qf_146_8 ?_
                refine st_go hK rfl rfl ?_
                refine ga (e := a) (v := (1 : Int32)) hK rfl qa_150 rfl (by omega) rfl ia ?_
                refine st_go hK rfl rfl ?_
                refine st_if hK rfl rfl (fun c => absurd c (by decide)) (fun _ => ?_)
                refine st_go hK rfl rfl ?_
                refine st_getr hK rfl qf_146_8 ?_
                refine st_go hK rfl rfl ?_
                refine ga (e := b) (v := ξ 150 b) hK rfl qa_150 rfl (by omega) rfl rfl ?_
                refine st_go hK rfl rfl ?_
                refine st_if hK rfl rfl (fun _ => ?_) (fun c => absurd ib c)
                refine st_go hK rfl rfl ?_
                rw [nI_1]
                refine st_go hK rfl rfl ?_
                exact ih2 (b + 1) ξ x _ (by omega) (by omega) hR hMx te has e'
            · have ia : ¬ ξ 150 a = 1 := fun z => na ((i1 a (by omega)).mp z)
              have e' := skip (fun z => na z.1)
              refine st_go hK rfl rfl ?_
              refine st_go hK rfl rfl ?_
              refine st_ifn hK rfl rfl (nI_leI (a := 15) (b := b) (by omega) (by omega)) (fun c => absurd c (by omega)) (fun _ => ?_)
              refine st_go hK rfl rfl ?_
              refine st_getr hK rfl qf_146_8 ?_
              refine st_go hK rfl rfl ?_
              refine ga (e := a) (v := ξ 150 a) hK rfl qa_150 rfl (by omega) rfl rfl ?_
              refine st_go hK rfl rfl ?_
              refine st_if hK rfl rfl (fun _ => ?_) (fun c => absurd ia c)
              refine st_go hK rfl rfl ?_
              rw [nI_1]
              refine st_go hK rfl rfl ?_
              exact ih2 (b + 1) ξ x _ (by omega) (by omega) hR hMx te has e'
        refine st_go hK rfl rfl ?_
        refine st_go hK rfl rfl ?_
        refine st_ifn hK rfl rfl (nI_leI (a := 15) (b := a) (by omega) (by omega)) (fun c => absurd c (by omega)) (fun _ => ?_)
        refine st_go hK rfl rfl ?_
        refine st_go hK rfl rfl ?_
        refine bnv hK rfl (show _ = nI (a + 1) from nI_add a 1) ?_
        refine st_go hK rfl rfl ?_
        change K _ [some (.ref 146), some (.int (costOf σ 1)), some (.int x.2.2), some (.int x.1), some (.int x.2.1), some (.int (nI a)), some (.int (nI (a + 1))), _] _ _
        exact loop2 m (a + 1) ξ x _ (by omega) (by omega) hR hMx te has e
    exact loop1 15 0 υa (-1, -1, costOf σ 1) none none (by omega) hAS.mr (hM0.cg (by rw [hAS.1 146 (by decide)]) (fun p h1 h2 => hAS.1 p (by omega))) (te_rows te00 hAS.mr (fun _ _ => rfl) (fun x hx => by rw [hAS.1 151 (by decide)]; exact y1 x hx) (fun x hx => by rw [hAS.1 152 (by decide)]; exact y2 x hx) (fun x hx => by rw [hAS.1 153 (by decide)]; exact y3 x hx)) hAS.2 rfl
  refine st_go hK rfl rfl ?_
  refine cv0 hK rfl qc_146 (Nat.le_of_ble_eq_true rfl) ?_
  refine z_leaves k2 hc (fun υ hL => ?_)
  change K _ _ _ _
  obtain ⟨mw3, mv3⟩ := hL.mf hM
  have te3 : TE (mv υ) 1 σ 1 := by rw [mv3]; exact teV
  refine st_go hK rfl rfl ?_
  refine cv0 hK rfl qc_146 (Nat.le_of_ble_eq_true rfl) ?_
  refine z_costOfAll mw3 (fun υ1 hT1' => ?_)
  rw [te3.cost hW]
  have t1 : TQ υ υ1 := hT1'.1.tq
  have te4 : TE (mv υ1) 1 σ 1 := by rw [t1.mve]; exact te3
  change K _ _ (_ :: _) _
  refine st_go hK rfl rfl ?_
  change K _ [some (.ref 146), some (.int (costOf σ 1)), _, _, _, _, _, _] _ _
  refine st_go hK rfl rfl ?_
  refine st_go hK rfl rfl ?_
  change K _ [some (.ref 146), some (.int (costOf σ 1)), some (.int (costOf σ 1)), _, _, _, _, _] _ _
  refine st_go hK rfl rfl ?_
  refine st_go hK rfl rfl ?_
  change K _ [some (.ref 146), some (.int (costOf σ 1)), some (.int (costOf σ 1)), some (.int (-1 : Int32)), _, _, _, _] _ _
  refine st_go hK rfl rfl ?_
  refine st_go hK rfl rfl ?_
  change K _ [some (.ref 146), some (.int (costOf σ 1)), some (.int (costOf σ 1)), some (.int (-1 : Int32)), some (.int (-1 : Int32)), _, _, _] _ _
  refine st_go hK rfl rfl ?_
  refine cv0 hK rfl qc_146 (Nat.le_of_ble_eq_true rfl) ?_
  refine z_laysAside (fun υa hAS => ?_)
  change K _ _ _ _
  refine st_go hK rfl rfl ?_
  refine st_go hK rfl rfl ?_
  change K _ [some (.ref 146), some (.int (costOf σ 1)), some (.int (costOf σ 1)), some (.int (-1 : Int32)), some (.int (-1 : Int32)), some (.int (0 : Int32)), _, _] _ _
  exact main υ1 ⟨υ, hL, t1.mr⟩ (t1.mw mw3) te4 υa hAS
/-! pairing -/
def npE (σ : cw_V) (T : TT) : Int32 := (pr (UV (vT σ T) 1) (skT (vT σ T) 1) (tlF (vT σ T) 1 15) (-1, 0)).1
def gTT (j a b : Nat) (T : TT) : TT := (gL T.1 j a, gR T.2.1 j a b, gP T.2.2 j a b)
def okP (s : Nat) (T : TT) (a b j : Nat) : Prop := nodeN s T.1 a ∧ nodeN s T.1 b ∧ a ≠ b ∧ T.2.2 a = -1 ∧ T.2.2 b = -1 ∧ isF T.1 j
/-- m joints, then no pair is left -/
def PCh (σ : cw_V) (s : Nat) : Nat → TT → TT → Prop
  | 0, T, T' => npE σ T = -1 ∧ T' = T
  | m + 1, T, T' => ∃ a b j, npE σ T = nI (16 * a + b) ∧ okP s T a b j ∧ PCh σ s m (gTT j a b T) T'
theorem pr_ok {G : Int32 → Prop} {U : Int32 → Nat → Int32} {sk : Int32} : ∀ (l : List Int32) (a : Int32 × Int32), (a.1 = -1 ∨ G a.1) → l.Pairwise (fun x y => G (16 * x + y)) → ((pr U sk l a).1 = -1 ∨ G (pr U sk l a).1) := by
  intro l
  induction l with
  | nil => intro a h _; exact h
  | cons x l ih =>
    intro a h hp
    rw [List.pairwise_cons] at hp
    have key : ∀ (l' : List Int32) (a : Int32 × Int32), (a.1 = -1 ∨ G a.1) → (∀ y, y ∈ l' → G (16 * x + y)) → ((l'.foldl (fun s y => npS U sk x y s) a).1 = -1 ∨ G (l'.foldl (fun s y => npS U sk x y s) a).1) := by
      intro l'
      induction l' with
      | nil => intro a h _; exact h
      | cons y l' ih2 =>
        intro a h hy
        rw [List.foldl_cons]
        refine ih2 _ ?_ (fun z hz => hy z (List.mem_cons_of_mem _ hz))
        unfold npS
        split
        · exact Or.inr (hy y List.mem_cons_self)
        · exact h
    exact ih _ (key l a h hp.1) hp.2
theorem np_val {T : TT} (hW : WF (vT σ T) 1 s) : npE σ T = -1 ∨ ∃ a b j, npE σ T = nI (16 * a + b) ∧ a < 15 ∧ b < 15 ∧ okP s T a b j := by
  have h := pr_ok (G := fun v => ∃ a b j, v = nI (16 * a + b) ∧ a < 15 ∧ b < 15 ∧ okP s T a b j) (U := UV (vT σ T) 1) (sk := skT (vT σ T) 1) (tlF (vT σ T) 1 15) (-1, 0) (Or.inl rfl) (by
    rw [List.pairwise_iff_getElem]
    intro i j hi hj hij
    have tk := tl_ok hW 15 (by decide)
    obtain ⟨a, a1, a2, a3, a4⟩ := tk.1 i hi
    obtain ⟨b, b1, b2, b3, b4⟩ := tk.1 j hj
    rw [List.getD_eq_getElem?_getD, List.getElem?_eq_getElem hi, Option.getD_some] at a2
    rw [List.getD_eq_getElem?_getD, List.getElem?_eq_getElem hj, Option.getD_some] at b2
    have hab : a ≠ b := fun z => by
      have := tk.2.1 i j hi hj (by rw [List.getD_eq_getElem?_getD, List.getElem?_eq_getElem hi, List.getD_eq_getElem?_getD, List.getElem?_eq_getElem hj, Option.getD_some, Option.getD_some, a2, b2, z])
      omega
    obtain ⟨jj, hjj⟩ := hW.2.free a3 b3 hab a4 b4
    exact ⟨a, b, jj, by rw [a2, b2, show (16 : Int32) = nI 16 from rfl, nI_mul, nI_add], a1, b1, a3, b3, hab, a4, b4, hjj⟩)
  exact h
theorem vT_gt {T : TT} (hG : GT σ 1 s) (hT : WFt s T.1 T.2.1 T.2.2) : GT (vT σ T) 1 s := ⟨vT_wf hG.1 hT, hG.2.1, hG.2.2⟩
theorem jc_graft {T : TT} {j a b : Nat} (hj : isF T.1 j) (ha : a < 15) : jcN (vT σ (gTT j a b T)) 1 7 = jcN (vT σ T) 1 7 + 1 := by
  have key : ∀ m, m ≤ 7 → jcN (vT σ (gTT j a b T)) 1 m = jcN (vT σ T) 1 m + (if j < 8 + m then 1 else 0) := by
    intro m
    induction m with
    | zero => intro _; show 0 = 0 + _; rw [if_neg (by have := hj.1.1; omega)]
    | succ m ih =>
      intro hm
      show jcN (vT σ (gTT j a b T)) 1 m + (if gL T.1 j a (8 + m) ≠ -1 then 1 else 0) = jcN (vT σ T) 1 m + (if T.1 (8 + m) ≠ -1 then 1 else 0) + _
      rw [ih (by omega)]
      unfold gL
      by_cases z : 8 + m = j
      · rw [if_pos z, if_pos (nI_ne1 (by omega)), if_neg (by omega), z, if_neg (fun q => q hj.2.1), if_pos (by omega)]
      · rw [if_neg z]
        by_cases q : T.1 (8 + m) = nI a
        · rw [if_pos q, if_pos (nI_ne1 (by have := hj.1.2; omega)), q, if_pos (nI_ne1 (by omega))]
          by_cases w : j < 8 + m
          · rw [if_pos w, if_pos (by omega)]
          · rw [if_neg w, if_neg (by omega)]
        · rw [if_neg q]
          by_cases w : j < 8 + m
          · rw [if_pos w, if_pos (show j < 8 + (m + 1) by omega)]; omega
          · rw [if_neg w, if_neg (show ¬ j < 8 + (m + 1) by omega)]; omega
  rw [key 7 (by omega), if_pos (by have := hj.1.2; omega)]
theorem okP.wf {T : TT} {a b j : Nat} (h : okP s T a b j) (hT : WFt s T.1 T.2.1 T.2.2) : WFt s (gTT j a b T).1 (gTT j a b T).2.1 (gTT j a b T).2.2 := by
  obtain ⟨na, nb, hab, ta, tb, hj⟩ := h
  obtain ⟨ρ, hρ⟩ := hT.2.2.2.2.2
  exact hT.graft hj na nb tb hρ (fun z => hab ((Inr.top hρ na ta).mp z))
end
section
variable {d : Nat}

theorem sim_betters : SimI (d + 16) m_CW_betters m_Mo_betters [] := by
  intro σ lam ⟨s, nx, c, n, hI⟩
  have g := hI.1.1
  have mw := hI.2.1.1
  have te := hI.2.1.2.1
  have es : σ 1 8 = nI s := g.1.1
  have h8 : s ≤ 8 := g.1.2.1
  obtain ⟨⟨hnx, hc, h661, h662, h13⟩, hh⟩ := hI.2.2.2.1
  have md := hI.1.2.1
  have pd := hI.1.2.2.1
  have vr : VR (mv σ) 1 s := te.vr h8 g.2.1
  obtain ⟨ρ, hρ⟩ := g.1.2.2.2.2.2.2
  have lk := hI.1.2.2.2
  refine zi (L := [some (.ref 0), none]) rfl rfl (fun K hK => ?_)
  refine st_go hK rfl rfl ?_
  refine st_getr hK rfl qf_0_4 ?_
  refine st_go hK rfl rfl ?_
  refine st_getr hK rfl qf_0_0 ?_
  refine cv1 hK rfl qc_66 (Nat.le_of_ble_eq_true rfl) ?_
  refine z_save h661 hnx h662 hc (fun σ1 hS => ?_)
  change K _ _ _ _
  have s1 : ∀ p, p < 66 → σ1 p = σ p := fun p hp => hS.1 p (by omega) (by omega)
  refine st_go hK rfl rfl ?_
  refine st_getr hK rfl qf_0_3 ?_
  refine st_go hK rfl rfl ?_
  refine st_getr hK rfl qf_0_0 ?_
  refine st_go hK rfl rfl ?_
  refine st_getr hK rfl qf_0_1 ?_
  refine gi (v := σ1 10 6) hK rfl qf_10_6 rfl ?_
  refine cv2 hK rfl qc_36 (Nat.le_of_ble_eq_true rfl) ?_
  have e6 : σ1 10 6 = costOf σ 1 := (congrFun (s1 10 (by decide)) 6).trans (md.2.2.2.2.trans dn_cost)
  rw [e6]
  have eP : Px σ1 s ρ = Px σ s ρ := by
    funext a b
    unfold Px cET
    rw [s1 7 (by decide), s1 (1 + 8) (by decide)]
  have eC : cX σ1 = cX σ := by
    funext a b
    unfold cX xT
    rw [vT_cg (fun p hp => s1 p (by omega)), s1 7 (by decide), s1 8 (by decide), s1 9 (by decide)]
  have te1 : TE σ1 1 σ 1 := te_of (fun j hj => s1 _ (by omega))
  refine z_bestExchange (te1.wf g.1) (by rw [s1 7 (by decide), s1 9 (by decide)]; exact hρ) (fun τ0 hf0 => ?_)
  rw [eP, eC]
  obtain ⟨x, ex⟩ : ∃ x, x = bx1 (Px σ s ρ) (cX σ) 15 0 (-1, -1, costOf σ 1) := ⟨_, rfl⟩
  rw [← ex]
  have hx := bx1_ok (P := Px σ s ρ) (c := cX σ) (w := costOf σ 1) 15 0 (-1, -1, costOf σ 1) (by omega) (Or.inl ⟨rfl, rfl⟩)
  rw [← ex] at hx
  have hSw : SVw σ τ0 nx c := ⟨fun p hp hq => by rw [hf0 p (by omega), hS.1 p (by omega) hq], (te_of (fun j hj => hf0 _ (by omega))).trans hS.2.1, by rw [hf0 66 (by omega)]; exact hS.2.2.1, by rw [hf0 66 (by omega)]; exact hS.2.2.2⟩
  have t0 : ∀ p, p < 37 → τ0 p = σ p := fun p hp => by rw [hf0 p (by omega), s1 p (by omega)]
  change K _ _ (_ :: _) _
  refine st_go hK rfl rfl ?_
  change K _ [some (.ref 0), some (.int (cdF x))] _ _
  rcases hx with ⟨hx1, hx2⟩ | ⟨a, b, a15, b15, ⟨na, nb, hc3⟩, ex2⟩
  · have hcd : cdF x = -1 := if_pos hx1
    refine st_go hK rfl rfl ?_
    refine st_go hK rfl rfl ?_
    refine st_if hK rfl rfl (fun c => absurd hcd c) (fun _ => ?_)
    refine st_go hK rfl rfl ?_
    refine st_ret hK rfl rfl ?_
    have sr0 : SR σ τ0 1 := fun i hi => t0 _ (by omega)
    have hC : CHG σ τ0 lam s nx c := ⟨fun p hp => hSw.1 p (by omega) (by omega), ⟨fun p h1 h2 h3 => hSw.1 p (by omega) h3, hSw.2.1, hSw.2.2.1, hSw.2.2.2⟩, sr0.te.gt g, md.cg g.1 sr0 (fun p h1 h2 h3 => t0 p (by omega)), pd.cg sr0 (fun p h1 h2 => t0 p (by omega)), lk.cg (fun p hp => t0 p (by omega)) (t0 36 (by decide))⟩
    obtain ⟨mw2, te2, l2, k2, mv2⟩ := hI.mf (τ := τ0) (fun p hp => hC.1 p (by omega))
    refine z_mbetters mw2 te2 g.1 hρ k2 hc (fun υ υ2 hL hR mw4 hfin => ?_)
    have l3 : υ 146 6 = nI s := (hL.2.1 6 (by decide)).trans l2
    rw [← ex] at hfin ⊢
    rw [hx2, show costOf σ 1 - costOf σ 1 = 0 from Int32.sub_self _]
    rcases hfin with ⟨_, te5⟩ | ⟨a, b, e5, a15, b15, te5⟩
    · exact Res.mk (hI.chg hC (mch_mr hL hR mw4 l3) (te5.trans sr0.te.symm))
    · rw [e5] at hx1
      exact absurd hx1 (nI_ne1 (by omega))
  · have hcd : cdF x = nI (16 * a + b) := by
      rw [ex2]
      show (if nI a = -1 then (-1 : Int32) else 16 * nI a + nI b) = _
      rw [if_neg (nI_ne1 (by omega)), show (16 : Int32) = nI 16 from rfl, nI_mul, nI_add]
    rw [hcd]
    refine st_go hK rfl rfl ?_
    refine st_go hK rfl rfl ?_
    refine st_if hK rfl rfl (fun _ => ?_) (fun c => absurd (nI_ne1 (by omega)) c)
    refine st_go hK rfl rfl ?_
    refine st_go hK rfl rfl ?_
    refine st_go hK rfl rfl ?_
    refine dvv (v := nI a) hK rfl (by decide) ((pk_div (a := 16 * a + b) (d := 16) (by omega) (by decide) (by decide)).trans (congrArg nI (by omega))) ?_
    refine st_go hK rfl rfl ?_
    refine st_go hK rfl rfl ?_
    refine dvv (v := nI b) hK rfl (by decide) ((pk_rem (a := 16 * a + b) (d := 16) (by omega) (by decide) (by decide)).trans (congrArg nI (by omega))) ?_
    refine cv2 hK rfl qc_0 (Nat.le_of_ble_eq_true rfl) ?_
    refine z_exchCmp hSw hnx g md hρ na nb hc3 t0 (fun σ2 τ lam2 hTR hC sr => ?_)
    change K _ _ (_ :: _) _
    refine st_go hK rfl rfl ?_
    refine st_ret hK rfl rfl ?_
    have eT : xT τ0 a b = xT σ a b := by unfold xT; rw [t0 7 (by decide), t0 8 (by decide), t0 9 (by decide)]
    have te0 : TE τ0 1 σ 1 := te_of (fun j hj => t0 _ (by omega))
    have tes : TE σ2 1 (vT σ (xT σ a b)) 1 := te_step te0 hTR vT_lo (fun x hx => xF_cg (te0.hi (i := 6) (by decide) (by decide) hx)) (fun x hx => xF_cg (te0.hi (i := 7) (by decide) (by decide) hx)) (fun x hx => xP_cg (te0.hi (i := 8) (by decide) (by decide) hx) (te0.hi (i := 8) (by decide) (by decide) a15) (te0.hi (i := 8) (by decide) (by decide) b15))
    have hWT := g.1.2.exch na nb hc3.1 hc3.2.1 hc3.2.2.1 hρ hc3.2.2.2.1 hc3.2.2.2.2
    have tet : TE τ 1 (vT σ (xT σ a b)) 1 := sr.te.trans tes
    have ecx : costOf τ 1 = cX σ a b := tet.cost (vT_wf g.1 hWT)
    obtain ⟨mw2, te2, l2, k2, mv2⟩ := hI.mf (τ := τ) (fun p hp => hC.1 p (by omega))
    refine z_mbetters mw2 te2 g.1 hρ k2 hc (fun υ υ2 hL hR mw4 hfin => ?_)
    have l3 : υ 146 6 = nI s := (hL.2.1 6 (by decide)).trans l2
    rw [← ex, ex2] at hfin
    rw [← ex, ex2, ecx, Int32.neg_sub]
    rcases hfin with ⟨z, _⟩ | ⟨a', b', e5, a15', b15', te5⟩
    · exact absurd z (nI_ne1 (by omega))
    · obtain rfl : a = a' := nI_inj (by omega) (by omega) (congrArg Prod.fst e5)
      obtain rfl : b = b' := nI_inj (by omega) (by omega) (congrArg (fun q => q.2.1) e5)
      exact Res.mk (hI.chg hC (mch_mr hL hR mw4 l3) (te5.trans tet.symm))
theorem sim_pairs : SimI (d + 16) m_CW_pairs m_Mo_pairs [] := by
  intro σ lam ⟨s, nx, c, n, hI⟩
  have g := hI.1.1
  have mw := hI.2.1.1
  have te := hI.2.1.2.1
  have es : σ 1 8 = nI s := g.1.1
  have h8 : s ≤ 8 := g.1.2.1
  obtain ⟨⟨hnx, hc, h661, h662, h13⟩, hh⟩ := hI.2.2.2.1
  have md := hI.1.2.1
  have pd := hI.1.2.2.1
  have vr : VR (mv σ) 1 s := te.vr h8 g.2.1
  obtain ⟨ρ, hρ⟩ := g.1.2.2.2.2.2.2
  by_cases hs0 : s = 0
  · subst hs0
    refine zi (L := [some (.ref 0), none, none, none]) rfl rfl (fun K hK => ?_)
    refine st_go hK rfl rfl ?_
    refine st_getr hK rfl qf_0_0 ?_
    refine gi (v := nI 0) hK rfl qf_1_8 es ?_
    refine st_ifn hK rfl rfl (not_congr (nI_eq (a := 0) (b := 0) (by omega) (by omega))) (fun c => absurd c (fun z => z rfl)) (fun _ => ?_)
    refine st_go hK rfl rfl ?_
    refine st_go hK rfl rfl ?_
    refine cv1 hK rfl qc_0 (Nat.le_of_ble_eq_true rfl) ?_
    refine z_rno ?_
    change K _ _ (_ :: _) _
    refine st_ret hK rfl rfl ?_
    obtain ⟨mw2, te2, l2, k2, mv2⟩ := hI.mf (τ := (cw_up σ 0 7 (σ 0 7 + 1))) (fun p hp => up_ne (by omega))
    refine zi (L := [some (.ref 146), none, none, none]) rfl rfl (fun K2 hK2 => ?_)
    refine st_go hK2 rfl rfl ?_
    refine gi (v := nI 0) hK2 rfl qf_146_1 mw2.1 ?_
    refine st_ifn hK2 rfl rfl (not_congr (nI_eq (a := 0) (b := 0) (by omega) (by omega))) (fun c => absurd c (fun z => z rfl)) (fun _ => ?_)
    refine st_go hK2 rfl rfl ?_
    refine cv0 hK2 rfl qc_146 (Nat.le_of_ble_eq_true rfl) ?_
    refine z_mno ?_
    change K2 _ _ (_ :: _) _
    refine st_ret hK2 rfl rfl ?_
    exact Res.mk (hI.err (k := 1) (by decide))
  · obtain ⟨T0', eT0⟩ : ∃ T : TT, T = (σ 7, σ 8, σ 9) := ⟨_, rfl⟩
    have hT0 : WFt s T0'.1 T0'.2.1 T0'.2.2 := by rw [eT0]; exact g.1.2
    have teT0 : TE σ 1 (vT σ T0') 1 := by
      rw [eT0]
      exact ⟨fun i a b j hj => by rw [vT_lo (1 + i) (by omega)], fun i a b j hj => by rcases (show i = 6 ∨ i = 7 ∨ i = 8 by omega) with rfl | rfl | rfl <;> rfl, fun k a b => rfl⟩
    refine zi (L := [some (.ref 0), none, none, none]) rfl rfl (fun K hK => ?_)
    refine st_go hK rfl rfl ?_
    refine st_getr hK rfl qf_0_0 ?_
    refine gi (v := nI s) hK rfl qf_1_8 es ?_
    refine st_ifn hK rfl rfl (not_congr (nI_eq (a := s) (b := 0) (by omega) (by omega))) (fun _ => ?_) (fun c => absurd hs0 c)
    refine st_go hK rfl rfl ?_
    refine st_getr hK rfl qf_0_4 ?_
    refine st_go hK rfl rfl ?_
    refine st_getr hK rfl qf_0_0 ?_
    refine cv1 hK rfl qc_66 (Nat.le_of_ble_eq_true rfl) ?_
    refine z_save h661 hnx h662 hc (fun σ1 hS => ?_)
    change K _ _ _ _
    have s1 : ∀ p, p < 66 → σ1 p = σ p := fun p hp => hS.1 p (by omega) (by omega)
    refine st_go hK rfl rfl ?_
    refine st_go hK rfl rfl ?_
    change K _ [some (.ref 0), some (.int (0 : Int32)), _, _] _ _
    refine st_go hK rfl rfl ?_
    refine st_go hK rfl rfl ?_
    change K _ [some (.ref 0), some (.int (0 : Int32)), some (.int (0 : Int32)), _] _ _
    have te1 : TE σ1 1 σ 1 := te_of (fun j hj => s1 _ (by omega))
    have md1 : MD σ1 10 1 := md.cg g.1 (fun i hi => s1 _ (by omega)) (fun p h1 h2 h3 => s1 p (by omega))
    have fin : ∀ m T' τ, PCh σ s m T0' T' → WFt s T'.1 T'.2.1 T'.2.2 → TE τ 1 (vT σ T') 1 → (∀ p, (p = 0 ∨ 29 < p) → τ p = σ1 p) → ∀ (x2 x3 : Option Value), K 94 [some (.ref 0), some (.int (nI m)), x2, x3] [] (cw_B τ lam) := by
      intro m T' τ hPC hT' teT hfr x2 x3
      refine st_go hK rfl rfl ?_
      refine cv0 hK rfl qc_0 (Nat.le_of_ble_eq_true rfl) ?_
      have hG : GT τ 1 s := teT.gt (vT_gt g hT')
      refine z_cfin2 hS.w hnx (fun p hp => hfr p (by omega)) hG (fun τ2 lam2 hC sr => ?_)
      change K _ _ _ _
      refine st_go hK rfl rfl ?_
      refine st_ret hK rfl rfl ?_
      obtain ⟨mw2, te2, l2, k2, mv2⟩ := hI.mf (τ := τ2) (fun p hp => hC.1 p (by omega))
      refine zi (L := [some (.ref 146), none, none, none]) rfl rfl (fun K2 hK2 => ?_)
      have mloop : ∀ m' T υ0 υ i (x3 : Option Value), i + m' = m → PCh σ s m' T T' → WFt s T.1 T.2.1 T.2.2 → LV τ2 υ0 c → MR υ0 υ → MW υ s → TE (mv υ) 1 (vT σ T) 1 → K2 23 [some (.ref 146), some (.int (nI i)), some (.int (npE σ T)), x3] [] (cw_B υ lam2) := by
        intro m'
        induction m' with
        | zero =>
          intro T υ0 υ i x3 hi hp hT hL hR hMu teU
          obtain rfl : i = m := by omega
          obtain ⟨hnp, rfl⟩ := hp
          have l3 : υ0 146 6 = nI s := (hL.2.1 6 (by decide)).trans l2
          rw [hnp]
          refine st_go hK2 rfl rfl ?_
          refine st_go hK2 rfl rfl ?_
          refine st_if hK2 rfl rfl (fun _ => ?_) (fun c => absurd (by decide) c)
          refine st_go hK2 rfl rfl ?_
          refine st_ret hK2 rfl rfl ?_
          exact Res.mk (hI.chg hC (mch_mr hL hR hMu l3) (teU.trans (sr.te.trans teT).symm))
        | succ m' ih =>
          intro T υ0 υ i x3 hi hp hT hL hR hMu teU
          obtain ⟨a, b, j, hnp, hok, hp2⟩ := hp
          have hT2 := hok.wf hT
          have hWV2 : WF (vT σ (gTT j a b T)) 1 s := vT_wf g.1 hT2
          obtain ⟨na, nb, hab, ta, tb, hj⟩ := hok
          have a15 := hT.lt na
          have b15 := hT.lt nb
          have j15 := hj.1.2
          obtain ⟨w1, w2, w3⟩ : (∀ x, x < 15 → υ 151 x = T.1 x) ∧ (∀ x, x < 15 → υ 152 x = T.2.1 x) ∧ (∀ x, x < 15 → υ 153 x = T.2.2 x) := ⟨fun x hx => teU.hi (i := 6) (by decide) (by decide) hx, fun x hx => teU.hi (i := 7) (by decide) (by decide) hx, fun x hx => teU.hi (i := 8) (by decide) (by decide) hx⟩
          obtain ⟨ρ2, hρ2⟩ := hMu.2.1.2.2.2.2.2
          have na2 : nodeN s (υ 151) a := (nodeN_congr w1).mpr na
          rw [hnp]
          refine st_go hK2 rfl rfl ?_
          refine st_go hK2 rfl rfl ?_
          refine st_if hK2 rfl rfl (fun c => absurd c (nI_ne1 (by omega))) (fun _ => ?_)
          refine st_go hK2 rfl rfl ?_
          refine st_go hK2 rfl rfl ?_
          refine st_go hK2 rfl rfl ?_
          refine dvv (v := nI a) hK2 rfl (by decide) ((pk_div (a := 16 * a + b) (d := 16) (by omega) (by decide) (by decide)).trans (congrArg nI (by omega))) ?_
          refine st_go hK2 rfl rfl ?_
          refine st_go hK2 rfl rfl ?_
          refine dvv (v := nI b) hK2 rfl (by decide) ((pk_rem (a := 16 * a + b) (d := 16) (by omega) (by decide) (by decide)).trans (congrArg nI (by omega))) ?_
          refine cv2 hK2 rfl qc_146 (Nat.le_of_ble_eq_true rfl) ?_
          refine z_lays hMu (j := j) (isF_cg (fun x hx => (w1 x hx).symm) hj) na2 ((nodeN_congr w1).mpr nb) ((w3 b b15).trans tb) hρ2 (fun z => hab ((Inr.top hρ2 na2 ((w3 a a15).trans ta)).mp z)) (fun υ1 mw4 hMT => ?_)
          have teU1 : TE (mv υ1) 1 (vT σ (gTT j a b T)) 1 := te_rows teU hMT.mr (fun p hp => (vT_lo p hp).trans (vT_lo p hp).symm) (fun x hx => (hMT.2.1 x hx).trans (gL_cg (w1 x hx))) (fun x hx => (hMT.2.2.1 x hx).trans (gR_cg (w2 x hx))) (fun x hx => (hMT.2.2.2 x hx).trans (gP_cg (w3 x hx) (w3 a a15)))
          change K2 _ _ (_ :: _) _
          refine st_go hK2 rfl rfl ?_
          change K2 _ [some (.ref 146), some (.int (nI i)), some (.int (nI (16 * a + b))), some (.int (nI j))] _ _
          refine st_go hK2 rfl rfl ?_
          refine st_go hK2 rfl rfl ?_
          refine st_ifn hK2 rfl rfl (nI_leI (a := j) (b := 0) (by omega) (by omega)) (fun c => absurd c (by have := hj.1.1; omega)) (fun _ => ?_)
          refine st_go hK2 rfl rfl ?_
          refine st_go hK2 rfl rfl ?_
          refine bnv hK2 rfl (show _ = nI (i + 1) from nI_add i 1) ?_
          refine st_go hK2 rfl rfl ?_
          change K2 _ [some (.ref 146), some (.int (nI (i + 1))), some (.int (nI (16 * a + b))), some (.int (nI j))] _ _
          refine st_go hK2 rfl rfl ?_
          refine cv0 hK2 rfl qc_146 (Nat.le_of_ble_eq_true rfl) ?_
          refine z_findsPair mw4 (fun υ2 hTP => ?_)
          rw [show mPr υ1 = npE σ (gTT j a b T) from congrArg Prod.fst (teU1.pr hWV2)]
          change K2 _ _ (_ :: _) _
          refine st_go hK2 rfl rfl ?_
          change K2 _ [some (.ref 146), some (.int (nI (i + 1))), some (.int (npE σ (gTT j a b T))), some (.int (nI j))] _ _
          refine st_go hK2 rfl rfl ?_
          have em2 : mv υ2 = mv υ1 := mv_cg (fun k hk => hTP.2 k (by omega) (by omega)) (fun p h1 h2 => hTP.1 p (by omega) (by omega))
          exact ih (gTT j a b T) υ0 υ2 (i + 1) _ (by omega) hp2 hT2 hL ((hR.trans hMT.mr).trans hTP.mr) (mw4.cg (hTP.2 1 (by decide) (by decide)) (fun p h1 h2 => hTP.1 p (by omega) (by omega))) (by rw [em2]; exact teU1)
      refine st_go hK2 rfl rfl ?_
      refine gi (v := nI s) hK2 rfl qf_146_1 mw2.1 ?_
      refine st_ifn hK2 rfl rfl (not_congr (nI_eq (a := s) (b := 0) (by omega) (by omega))) (fun _ => ?_) (fun c => absurd hs0 c)
      refine st_go hK2 rfl rfl ?_
      refine cv0 hK2 rfl qc_146 (Nat.le_of_ble_eq_true rfl) ?_
      refine z_leaves k2 hc (fun υ hL => ?_)
      change K2 _ _ _ _
      obtain ⟨mw3, mv3⟩ := hL.mf mw2
      have te3 : TE (mv υ) 1 (vT σ T0') 1 := by rw [mv3]; exact te2.trans teT0
      refine st_go hK2 rfl rfl ?_
      refine st_go hK2 rfl rfl ?_
      change K2 _ [some (.ref 146), some (.int (0 : Int32)), _, _] _ _
      refine st_go hK2 rfl rfl ?_
      refine cv0 hK2 rfl qc_146 (Nat.le_of_ble_eq_true rfl) ?_
      refine z_findsPair mw3 (fun υ2 hTP => ?_)
      rw [show mPr υ = npE σ T0' from congrArg Prod.fst (te3.pr (vT_wf g.1 hT0))]
      change K2 _ _ (_ :: _) _
      refine st_go hK2 rfl rfl ?_
      change K2 _ [some (.ref 146), some (.int (0 : Int32)), some (.int (npE σ T0')), _] _ _
      have em2 : mv υ2 = mv υ := mv_cg (fun k hk => hTP.2 k (by omega) (by omega)) (fun p h1 h2 => hTP.1 p (by omega) (by omega))
      exact mloop m T0' υ υ2 0 none (by omega) hPC hT0 hL hTP.mr (mw3.cg (hTP.2 1 (by decide) (by decide)) (fun p h1 h2 => hTP.1 p (by omega) (by omega))) (by rw [em2]; exact te3)
    have loop : ∀ q T τ i (x3 : Option Value), jcN (vT σ T) 1 7 + q = 7 → i ≤ jcN (vT σ T) 1 7 → WFt s T.1 T.2.1 T.2.2 → TE τ 1 (vT σ T) 1 → MD τ 10 1 → (∀ p, (p = 0 ∨ 29 < p) → τ p = σ1 p) → (∀ m T', PCh σ s m T T' → PCh σ s (i + m) T0' T') → K 32 [some (.ref 0), some (.int (nI i)), some (.int (nI i)), x3] [] (cw_B τ lam) := by
      intro q
      induction q with
      | zero =>
        intro T τ i x3 hq hi hT teT mdT hfr hpre
        have hWV : WF (vT σ T) 1 s := vT_wf g.1 hT
        rcases np_val hWV with hnp | ⟨a, b, j, hnp, a15, b15, hok⟩
        · skip
          refine st_go hK rfl rfl ?_
          refine st_go hK rfl rfl ?_
          refine st_ifn hK rfl rfl (nI_leI (a := 8) (b := i) (by omega) (by omega)) (fun c => absurd c (by omega)) (fun _ => ?_)
          refine st_go hK rfl rfl ?_
          refine st_getr hK rfl qf_0_1 ?_
          refine st_go hK rfl rfl ?_
          refine st_getr hK rfl qf_0_0 ?_
          refine cv1 hK rfl qc_10 (Nat.le_of_ble_eq_true rfl) ?_
          refine z_near (teT.wf hWV) mdT (fun τ1 h13 => ?_)
          rw [show (pr (UV τ 1) (skT τ 1) (tlF τ 1 15) (-1, 0)).1 = npE σ T from congrArg Prod.fst (teT.pr hWV), hnp]
          have tet1 : TE τ1 1 (vT σ T) 1 := (te_of (fun j hj => h13 _ (by omega))).trans teT
          change K _ _ (_ :: _) _
          refine st_go hK rfl rfl ?_
          change K _ [some (.ref 0), some (.int (nI i)), some (.int (nI i)), some (.int (-1 : Int32))] _ _
          refine st_go hK rfl rfl ?_
          refine st_go hK rfl rfl ?_
          refine st_if hK rfl rfl (fun c => absurd c (by decide)) (fun _ => ?_)
          refine st_go hK rfl rfl ?_
          exact fin i T τ1 (by have := hpre 0 T ⟨hnp, rfl⟩; exact this) hT tet1 (fun p hp => by rw [h13 p (by omega), hfr p hp]) _ _
        · have := jc_graft (σ := σ) (T := T) (b := b) hok.2.2.2.2.2 a15
          have := jcN_le (σ := vT σ (gTT j a b T)) (t := 1) 7
          omega
      | succ q ih =>
        intro T τ i x3 hq hi hT teT mdT hfr hpre
        have hWV : WF (vT σ T) 1 s := vT_wf g.1 hT
        rcases np_val hWV with hnp | ⟨a, b, j, hnp, a15, b15, hok⟩
        · skip
          refine st_go hK rfl rfl ?_
          refine st_go hK rfl rfl ?_
          refine st_ifn hK rfl rfl (nI_leI (a := 8) (b := i) (by omega) (by omega)) (fun c => absurd c (by omega)) (fun _ => ?_)
          refine st_go hK rfl rfl ?_
          refine st_getr hK rfl qf_0_1 ?_
          refine st_go hK rfl rfl ?_
          refine st_getr hK rfl qf_0_0 ?_
          refine cv1 hK rfl qc_10 (Nat.le_of_ble_eq_true rfl) ?_
          refine z_near (teT.wf hWV) mdT (fun τ1 h13 => ?_)
          rw [show (pr (UV τ 1) (skT τ 1) (tlF τ 1 15) (-1, 0)).1 = npE σ T from congrArg Prod.fst (teT.pr hWV), hnp]
          have tet1 : TE τ1 1 (vT σ T) 1 := (te_of (fun j hj => h13 _ (by omega))).trans teT
          change K _ _ (_ :: _) _
          refine st_go hK rfl rfl ?_
          change K _ [some (.ref 0), some (.int (nI i)), some (.int (nI i)), some (.int (-1 : Int32))] _ _
          refine st_go hK rfl rfl ?_
          refine st_go hK rfl rfl ?_
          refine st_if hK rfl rfl (fun c => absurd c (by decide)) (fun _ => ?_)
          refine st_go hK rfl rfl ?_
          exact fin i T τ1 (by have := hpre 0 T ⟨hnp, rfl⟩; exact this) hT tet1 (fun p hp => by rw [h13 p (by omega), hfr p hp]) _ _
        · have hjc := jc_graft (σ := σ) (T := T) (b := b) hok.2.2.2.2.2 a15
          have hT2 := hok.wf hT
          have hWV2 : WF (vT σ (gTT j a b T)) 1 s := vT_wf g.1 hT2
          have okq := hok
          obtain ⟨na, nb, hab, ta, tb, hj⟩ := hok
          refine st_go hK rfl rfl ?_
          refine st_go hK rfl rfl ?_
          refine st_ifn hK rfl rfl (nI_leI (a := 8) (b := i) (by omega) (by omega)) (fun c => absurd c (by omega)) (fun _ => ?_)
          refine st_go hK rfl rfl ?_
          refine st_getr hK rfl qf_0_1 ?_
          refine st_go hK rfl rfl ?_
          refine st_getr hK rfl qf_0_0 ?_
          refine cv1 hK rfl qc_10 (Nat.le_of_ble_eq_true rfl) ?_
          refine z_near (teT.wf hWV) mdT (fun τ1 h13 => ?_)
          rw [show (pr (UV τ 1) (skT τ 1) (tlF τ 1 15) (-1, 0)).1 = npE σ T from congrArg Prod.fst (teT.pr hWV), hnp]
          have tet1 : TE τ1 1 (vT σ T) 1 := (te_of (fun j hj => h13 _ (by omega))).trans teT
          change K _ _ (_ :: _) _
          refine st_go hK rfl rfl ?_
          change K _ [some (.ref 0), some (.int (nI i)), some (.int (nI i)), some (.int (nI (16 * a + b)))] _ _
          refine st_go hK rfl rfl ?_
          refine st_go hK rfl rfl ?_
          refine st_if hK rfl rfl (fun _ => ?_) (fun c => absurd (nI_ne1 (by omega)) c)
          refine st_go hK rfl rfl ?_
          refine st_getr hK rfl qf_0_0 ?_
          refine st_go hK rfl rfl ?_
          refine st_go hK rfl rfl ?_
          refine dvv (v := nI a) hK rfl (by decide) ((pk_div (a := 16 * a + b) (d := 16) (by omega) (by decide) (by decide)).trans (congrArg nI (by omega))) ?_
          refine st_go hK rfl rfl ?_
          refine st_go hK rfl rfl ?_
          refine dvv (v := nI b) hK rfl (by decide) ((pk_rem (a := 16 * a + b) (d := 16) (by omega) (by decide) (by decide)).trans (congrArg nI (by omega))) ?_
          refine cv2 hK rfl qc_1 (Nat.le_of_ble_eq_true rfl) ?_
          obtain ⟨w1, w2, w3⟩ : (∀ x, x < 15 → τ1 (1 + 6) x = T.1 x) ∧ (∀ x, x < 15 → τ1 (1 + 7) x = T.2.1 x) ∧ (∀ x, x < 15 → τ1 (1 + 8) x = T.2.2 x) := ⟨fun x hx => tet1.hi (i := 6) (by decide) (by decide) hx, fun x hx => tet1.hi (i := 7) (by decide) (by decide) hx, fun x hx => tet1.hi (i := 8) (by decide) (by decide) hx⟩
          refine z_addT hT1 (tet1.wf hWV) (j := j) (isF_cg (fun x hx => (w1 x hx).symm) hj) ((nodeN_congr w1).mpr na) ((nodeN_congr w1).mpr nb) hab ((w3 a a15).trans ta) (fun τ2 hTR => ?_)
          have tet2 : TE τ2 1 (vT σ (gTT j a b T)) 1 := te_step tet1 hTR (fun p hp => (vT_lo p hp).trans (vT_lo p hp).symm) (fun x hx => gL_cg (w1 x hx)) (fun x hx => gR_cg (w2 x hx)) (fun x hx => gP_cg (w3 x hx) (w3 a a15))
          change K _ _ (_ :: _) _
          refine st_go hK rfl rfl ?_
          refine st_go hK rfl rfl ?_
          refine st_getr hK rfl qf_0_1 ?_
          refine st_go hK rfl rfl ?_
          refine st_getr hK rfl qf_0_0 ?_
          refine cv1 hK rfl qc_10 (Nat.le_of_ble_eq_true rfl) ?_
          refine z_measure' (tet2.wf hWV2) hW10 hT1 (fun τ3 sr3 md3 fr3 => ?_)
          change K _ _ _ _
          refine st_go hK rfl rfl ?_
          rw [nI_1]
          refine st_go hK rfl rfl ?_
          rw [nI_1]
          refine st_go hK rfl rfl ?_
          refine ih (gTT j a b T) τ3 (i + 1) _ (by omega) (by omega) hT2 (sr3.te.trans tet2) md3 (fun p hp => by rw [fr3 p (by omega), hTR.1 p (by omega) (by omega) (by omega), h13 p (by omega), hfr p hp]) (fun m T' h => ?_)
          have := hpre (m + 1) T' ⟨a, b, j, hnp, okq, h⟩
          rw [show i + 1 + m = i + (m + 1) by omega]
          exact this
    have hjl := jcN_le (σ := vT σ T0') (t := 1) 7
    exact loop (7 - jcN (vT σ T0') 1 7) T0' σ1 0 none (by omega) (by omega) hT0 (te1.trans teT0) md1 (fun p hp => rfl) (fun m T' h => by rw [Nat.zero_add]; exact h)
end
