/-! THE CALLS: grafts, betters -/
section
variable {d s : Nat} {σ τ υ υ0 υ2 : cw_V} {lam : Nat → Int64} {Q : cw_Q} {ρ : Nat → Nat} {c : Nat}
theorem z_bestExchange {w : Int32} (hW : WF σ 1 s) (hρ : Dep s (σ 7) (σ 9) ρ) (kk : ∀ τ, (∀ p, (p < 37 ∨ 65 < p) → τ p = σ p) → Q (some (.int (cdF (bx1 (Px σ s ρ) (cX σ) 15 0 (-1, -1, w))))) (cw_B τ lam)) : cw_Z (d + 6) m_Search_bestExchange [.ref 36, .ref 1, .int w] (cw_B σ lam) Q := by
  refine zi (L := [some (.ref 36), some (.ref 1), some (.int w), none, none, none, none]) rfl rfl (fun K hK => ?_)
  have h8 := hW.2.1
  have loop1 : ∀ m a τ (x : T3) (z6 : Option Value), a + m = 15 → (∀ p, (p < 37 ∨ 65 < p) → τ p = σ p) → TE τ 37 σ 1 → bx1 (Px σ s ρ) (cX σ) m a x = bx1 (Px σ s ρ) (cX σ) 15 0 (-1, -1, w) → K 16 [some (.ref 36), some (.ref 1), some (.int w), some (.int (cdF x)), some (.int x.2.2), some (.int (nI a)), z6] [] (cw_B τ lam) := by
    intro m
    induction m with
    | zero =>
      intro a τ x z6 ha hfr te e
      obtain rfl : a = 15 := by omega
      refine st_go hK rfl rfl ?_
      refine st_go hK rfl rfl ?_
      refine st_ifn hK rfl rfl (nI_leI (a := 15) (b := 15) (by omega) (by omega)) (fun _ => ?_) (fun c => absurd (by omega) c)
      refine st_go hK rfl rfl ?_
      refine st_ret hK rfl rfl ?_
      rw [show x = bx1 (Px σ s ρ) (cX σ) 15 0 (-1, -1, w) from e]
      exact kk τ hfr
    | succ m ih =>
      intro a τ x z6 ha hfr te e
      have loop2 : ∀ q b τ (x : T3), b + q = 15 → a < b → (∀ p, (p < 37 ∨ 65 < p) → τ p = σ p) → TE τ 37 σ 1 → bx1 (Px σ s ρ) (cX σ) m (a + 1) (bx2 (Px σ s ρ) (cX σ) a q b x) = bx1 (Px σ s ρ) (cX σ) 15 0 (-1, -1, w) → K 29 [some (.ref 36), some (.ref 1), some (.int w), some (.int (cdF x)), some (.int x.2.2), some (.int (nI a)), some (.int (nI b))] [] (cw_B τ lam) := by
        intro q
        induction q with
        | zero =>
          intro b τ x hb hab hfr te e
          obtain rfl : b = 15 := by omega
          refine st_go hK rfl rfl ?_
          refine st_go hK rfl rfl ?_
          refine st_ifn hK rfl rfl (nI_leI (a := 15) (b := 15) (by omega) (by omega)) (fun _ => ?_) (fun c => absurd (by omega) c)
          refine st_go hK rfl rfl ?_
          rw [nI_1]
          refine st_go hK rfl rfl ?_
          exact ih (a + 1) τ x _ (by omega) hfr te e
        | succ q ih2 =>
          intro b τ x hb hab hfr te e
          have hWt := te.wf hW
          have w1 : ∀ x, x < 15 → τ (37 + 6) x = σ 7 x := fun x hx => te.hi (i := 6) (by decide) (by decide) hx
          have w2 : ∀ x, x < 15 → τ (37 + 7) x = σ 8 x := fun x hx => te.hi (i := 7) (by decide) (by decide) hx
          have w3 : ∀ x, x < 15 → τ (37 + 8) x = σ 9 x := fun x hx => te.hi (i := 8) (by decide) (by decide) hx
          have hρt : Dep s (τ (37 + 6)) (τ (37 + 8)) ρ := Dep.cg hρ h8 w1 w3
          have ciff : cEx τ 37 (nI a) (nI b) ↔ Px σ s ρ a b := by
            rw [cEx_iff hWt hρt (by omega) (by omega)]
            have n1 : nodeN s (τ (37 + 6)) a ↔ nodeN s (σ 7) a := te.nn
            have n2 : nodeN s (τ (37 + 6)) b ↔ nodeN s (σ 7) b := te.nn
            unfold Px
            rw [n1, n2]
            have key : nodeN s (σ 7) a → nodeN s (σ 7) b → (cET τ 37 s ρ a b ↔ cET σ 1 s ρ a b) := fun na nb => by
              unfold cET
              rw [w3 a (by omega), w3 b (by omega), Inr.cg hW.2 hρ w3 na, Inr.cg hW.2 hρ w3 nb]
            exact ⟨fun ⟨q1, q2, q3⟩ => ⟨q1, q2, (key q1 q2).mp q3⟩, fun ⟨q1, q2, q3⟩ => ⟨q1, q2, (key q1 q2).mpr q3⟩⟩
          rcases Classical.em (Px σ s ρ a b) with hP | hP
          · obtain ⟨na, nb, hc⟩ := hP
            have hWT := hW.2.exch na nb hc.1 hc.2.1 hc.2.2.1 hρ hc.2.2.2.1 hc.2.2.2.2
            have hWV : WF (vT σ (xT σ a b)) 1 s := vT_wf hW hWT
            have iab : nI a ≠ nI b := fun z => by have := nI_inj (by omega) (by omega) z; omega
            have a_b : a ≠ b := by omega
            have hst : bxS (Px σ s ρ) (cX σ) a b x = if cX σ a b < x.2.2 then (nI a, nI b, cX σ a b) else x := pif_p ⟨na, nb, hc⟩
            have e' : bx1 (Px σ s ρ) (cX σ) m (a + 1) (bx2 (Px σ s ρ) (cX σ) a q (b + 1) (if cX σ a b < x.2.2 then (nI a, nI b, cX σ a b) else x)) = bx1 (Px σ s ρ) (cX σ) 15 0 (-1, -1, w) := by rw [← hst]; exact e
            have ecd : cdF (nI a, nI b, cX σ a b) = nI (16 * a + b) := by
              show (if nI a = -1 then (-1 : Int32) else 16 * nI a + nI b) = _
              rw [if_neg (nI_ne1 (by omega)), show (16 : Int32) = nI 16 from rfl, nI_mul, nI_add]
            refine st_go hK rfl rfl ?_
            refine st_go hK rfl rfl ?_
            refine st_ifn hK rfl rfl (nI_leI (a := 15) (b := b) (by omega) (by omega)) (fun c => absurd c (by omega)) (fun _ => ?_)
            refine st_go hK rfl rfl ?_
            refine st_getr hK rfl qf_36_0 ?_
            refine st_go hK rfl rfl ?_
            refine st_go hK rfl rfl ?_
            refine cv2 hK rfl qc_37 (Nat.le_of_ble_eq_true rfl) ?_
            refine z_canExchange hT37 (fun _ => ?_) (fun c => absurd (ciff.mpr ⟨na, nb, hc⟩) c)
            change K _ _ (_ :: _) _
            refine st_if hK rfl rfl (fun _ => ?_) (fun c => absurd (by decide) c)
            refine st_go hK rfl rfl ?_
            refine st_getr hK rfl qf_36_0 ?_
            refine st_go hK rfl rfl ?_
            refine st_go hK rfl rfl ?_
            refine cv2 hK rfl qc_37 (Nat.le_of_ble_eq_true rfl) ?_
            refine z_exchT0 hT37 hWt (te.nn.mpr na) (te.nn.mpr nb) (by rw [w3 a (by omega)]; exact hc.1) (by rw [w3 b (by omega)]; exact hc.2.1) (by rw [w3 a (by omega), w3 b (by omega)]; exact hc.2.2.1) (fun τ1 hTR => ?_)
            have te1 : TE τ1 37 (vT σ (xT σ a b)) 1 := te_step te hTR vT_lo (fun x hx => xF_cg (w1 x hx)) (fun x hx => xF_cg (w2 x hx)) (fun x hx => xP_cg (w3 x hx) (w3 a (by omega)) (w3 b (by omega)))
            change K _ _ _ _
            refine st_go hK rfl rfl ?_
            refine st_getr hK rfl qf_36_1 ?_
            refine st_go hK rfl rfl ?_
            refine st_getr hK rfl qf_36_0 ?_
            refine cv1 hK rfl qc_46 (Nat.le_of_ble_eq_true rfl) ?_
            refine z_measure' (te1.wf hWV) hW46 hT37 (fun τ2 sr2 md2 fr2 => ?_)
            have te2 : TE τ2 37 (vT σ (xT σ a b)) 1 := sr2.te.trans te1
            have ec : τ2 46 6 = cX σ a b := (md2.2.2.2.2.trans dn_cost).trans (te2.cost hWV)
            have v1 : ∀ x, x < 15 → τ2 (37 + 6) x = xF (σ 7) a b x := fun x hx => te2.hi (i := 6) (by decide) (by decide) hx
            have v2 : ∀ x, x < 15 → τ2 (37 + 7) x = xF (σ 8) a b x := fun x hx => te2.hi (i := 7) (by decide) (by decide) hx
            have v3 : ∀ x, x < 15 → τ2 (37 + 8) x = xP (σ 9) a b x := fun x hx => te2.hi (i := 8) (by decide) (by decide) hx
            have nn2 : ∀ x, nodeN s (τ2 (37 + 6)) x ↔ nodeN s (σ 7) x := fun x => (nodeN_congr v1).trans (nodeN_x (by omega) (by omega))
            have pa2 : τ2 (37 + 8) a = σ 9 b := (v3 a (by omega)).trans (by unfold xP; rw [if_pos rfl])
            have pb2 : τ2 (37 + 8) b = σ 9 a := (v3 b (by omega)).trans (by unfold xP; rw [if_neg (Ne.symm a_b), if_pos rfl])
            change K _ _ _ _
            refine st_go hK rfl rfl ?_
            refine st_getr hK rfl qf_36_0 ?_
            refine st_go hK rfl rfl ?_
            refine st_go hK rfl rfl ?_
            refine cv2 hK rfl qc_37 (Nat.le_of_ble_eq_true rfl) ?_
            refine z_exchT0 hT37 (te2.wf hWV) ((nn2 a).mpr na) ((nn2 b).mpr nb) (by rw [pa2]; exact hc.2.1) (by rw [pb2]; exact hc.1) (by rw [pa2, pb2]; exact Ne.symm hc.2.2.1) (fun τ3 hTC => ?_)
            have te3 : TE τ3 37 σ 1 := te_step te2 hTC (fun p hp => (vT_lo p hp).symm) (fun x hx => (xF_cg (v1 x hx)).trans (xF_inv iab)) (fun x hx => (xF_cg (v2 x hx)).trans (xF_inv iab)) (fun x hx => (xP_cg (v3 x hx) (v3 a (by omega)) (v3 b (by omega))).trans (xP_inv a_b))
            have ec3 : τ3 46 6 = cX σ a b := (congrFun (hTC.1 46 (by decide) (by decide) (by decide)) 6).trans ec
            have hfr3 : ∀ p, (p < 37 ∨ 65 < p) → τ3 p = σ p := fun p hp => by rw [hTC.1 p (by omega) (by omega) (by omega), fr2 p (by omega), hTR.1 p (by omega) (by omega) (by omega), hfr p hp]
            change K _ _ _ _
            refine st_go hK rfl rfl ?_
            refine st_getr hK rfl qf_36_1 ?_
            refine gi (v := cX σ a b) hK rfl qf_46_6 ec3 ?_
            refine st_go hK rfl rfl ?_
            refine st_if hK rfl rfl (fun c95 => ?_) (fun c95 => ?_)
            · refine st_go hK rfl rfl ?_
              rw [nI_1]
              refine st_go hK rfl rfl ?_
              first
                | (rw [if_neg (Int32.not_lt.mpr c95)] at e'
                   exact ih2 (b + 1) τ3 x (by omega) (by omega) hfr3 te3 e')
                | (rw [if_pos (Int32.not_le.mp c95)] at e'
                   have hh := ih2 (b + 1) τ3 (nI a, nI b, cX σ a b) (by omega) (by omega) hfr3 te3 e'
                   rw [ecd] at hh
                   exact hh)
            · refine st_go hK rfl rfl ?_
              refine st_go hK rfl rfl ?_
              refine bnv hK rfl (show _ = nI (16 * a) from nI_mul 16 a) ?_
              refine st_go hK rfl rfl ?_
              refine bnv hK rfl (show _ = nI ((16 * a) + b) from nI_add (16 * a) b) ?_
              refine st_go hK rfl rfl ?_
              change K _ [some (.ref 36), some (.ref 1), some (.int w), some (.int (nI ((16 * a) + b))), some (.int x.2.2), some (.int (nI a)), some (.int (nI b))] _ _
              refine st_go hK rfl rfl ?_
              refine st_getr hK rfl qf_36_1 ?_
              refine gi (v := cX σ a b) hK rfl qf_46_6 ec3 ?_
              refine st_go hK rfl rfl ?_
              change K _ [some (.ref 36), some (.ref 1), some (.int w), some (.int (nI ((16 * a) + b))), some (.int (cX σ a b)), some (.int (nI a)), some (.int (nI b))] _ _
              refine st_go hK rfl rfl ?_
              rw [nI_1]
              refine st_go hK rfl rfl ?_
              first
                | (rw [if_neg (Int32.not_lt.mpr c95)] at e'
                   exact ih2 (b + 1) τ3 x (by omega) (by omega) hfr3 te3 e')
                | (rw [if_pos (Int32.not_le.mp c95)] at e'
                   have hh := ih2 (b + 1) τ3 (nI a, nI b, cX σ a b) (by omega) (by omega) hfr3 te3 e'
                   rw [ecd] at hh
                   exact hh)
          · have e' : bx1 (Px σ s ρ) (cX σ) m (a + 1) (bx2 (Px σ s ρ) (cX σ) a q (b + 1) x) = bx1 (Px σ s ρ) (cX σ) 15 0 (-1, -1, w) := by
              have hst : bxS (Px σ s ρ) (cX σ) a b x = x := pif_n hP
              rw [← e]
              show _ = bx1 _ _ m (a + 1) (bx2 _ _ a q (b + 1) (bxS _ _ a b x))
              rw [hst]
            refine st_go hK rfl rfl ?_
            refine st_go hK rfl rfl ?_
            refine st_ifn hK rfl rfl (nI_leI (a := 15) (b := b) (by omega) (by omega)) (fun c => absurd c (by omega)) (fun _ => ?_)
            refine st_go hK rfl rfl ?_
            refine st_getr hK rfl qf_36_0 ?_
            refine st_go hK rfl rfl ?_
            refine st_go hK rfl rfl ?_
            refine cv2 hK rfl qc_37 (Nat.le_of_ble_eq_true rfl) ?_
            refine z_canExchange hT37 (fun c => absurd (ciff.mp c) hP) (fun _ => ?_)
            change K _ _ (_ :: _) _
            refine st_if hK rfl rfl (fun c => absurd c (by decide)) (fun _ => ?_)
            refine st_go hK rfl rfl ?_
            refine st_go hK rfl rfl ?_
            rw [nI_1]
            refine st_go hK rfl rfl ?_
            exact ih2 (b + 1) τ x (by omega) (by omega) hfr te e'
      refine st_go hK rfl rfl ?_
      refine st_go hK rfl rfl ?_
      refine st_ifn hK rfl rfl (nI_leI (a := 15) (b := a) (by omega) (by omega)) (fun c => absurd c (by omega)) (fun _ => ?_)
      refine st_go hK rfl rfl ?_
      refine st_go hK rfl rfl ?_
      refine bnv hK rfl (show _ = nI (a + 1) from nI_add a 1) ?_
      refine st_go hK rfl rfl ?_
      change K _ [some (.ref 36), some (.ref 1), some (.int w), some (.int (cdF x)), some (.int x.2.2), some (.int (nI a)), some (.int (nI (a + 1)))] _ _
      exact loop2 m (a + 1) τ x (by omega) (by omega) hfr te e
  refine st_go hK rfl rfl ?_
  refine st_getr hK rfl qf_36_0 ?_
  refine st_go hK rfl rfl ?_
  refine cv1 hK rfl qc_37 (Nat.le_of_ble_eq_true rfl) ?_
  refine z_copyFrom hT37 hT1 (by omega) (fun τ0 hc0 => ?_)
  change K _ _ _ _
  refine st_go hK rfl rfl ?_
  refine st_go hK rfl rfl ?_
  change K _ [some (.ref 36), some (.ref 1), some (.int w), some (.int (-1 : Int32)), _, _, _] _ _
  refine st_go hK rfl rfl ?_
  refine st_go hK rfl rfl ?_
  change K _ [some (.ref 36), some (.ref 1), some (.int w), some (.int (-1 : Int32)), some (.int w), _, _] _ _
  refine st_go hK rfl rfl ?_
  refine st_go hK rfl rfl ?_
  change K _ [some (.ref 36), some (.ref 1), some (.int w), some (.int (-1 : Int32)), some (.int w), some (.int (0 : Int32)), _] _ _
  exact loop1 15 0 τ0 (-1, -1, w) _ (by omega) (fun p hp => hc0.1 p (by omega)) hc0.te rfl
/-- of the kept numbers -/
theorem kp_eq (h1 : MW τ s) (h2 : MW υ0 s) (t1 : TE (mv τ) 1 σ 1) (t2 : TE (mv υ0) 1 σ 1) (hR : MR τ υ0) : ∀ k, k < 60 → kpF υ0 k = kpF τ k := by
  intro k hk
  obtain ⟨a1, a2, a3⟩ := t1.mrow
  obtain ⟨b1, b2, b3⟩ := t2.mrow
  unfold kpF
  rw [hR.2 1 (by decide), hR.2 3 (by decide), hR.2 4 (by decide), hR.2 5 (by decide), hR.2 6 (by decide), hR.1 149 (by omega), hR.1 148 (by omega)]
  by_cases z : k < 28
  · by_cases q : 13 ≤ k
    · have hx : k - 13 < 15 := by omega
      have e0 : υ0 150 (k - 13) = τ 150 (k - 13) := by
        have n1 : nodeN s (τ 151) (k - 13) ↔ nodeN s (σ 7) (k - 13) := t1.nn
        have n2 : nodeN s (υ0 151) (k - 13) ↔ nodeN s (σ 7) (k - 13) := t2.nn
        rcases Classical.em (nodeN s (σ 7) (k - 13)) with w | w
        · rw [(h1.2.2 _ hx).1 (n1.mpr w), (h2.2.2 _ hx).1 (n2.mpr w)]
        · rw [(h1.2.2 _ hx).2 (fun v => w (n1.mp v)), (h2.2.2 _ hx).2 (fun v => w (n2.mp v))]
      have ep : pkF υ0 (k - 13) = pkF τ (k - 13) := by
        unfold pkF
        rw [e0, (b1 _ hx).trans (a1 _ hx).symm, (b2 _ hx).trans (a2 _ hx).symm, (b3 _ hx).trans (a3 _ hx).symm]
      rw [ep]
    · rw [if_pos (show k < 13 by omega), if_pos (show k < 13 by omega)]
  · rw [if_neg (show ¬ k < 28 from z), if_neg (show ¬ k < 28 from z)]
theorem mch_pre (hR0 : MR τ υ0) (kp : ∀ k, k < 60 → kpF υ0 k = kpF τ k) (hL : LV υ0 υ c) (hR : MR υ υ2) (hM : MW υ2 s) (l3 : υ 146 6 = nI s) : MCH τ υ2 s c := by
  obtain ⟨q0, q1, q2, q3, q4, ⟨q5, q6⟩, q7, q8⟩ := mch_mr hL hR hM l3
  refine ⟨fun p hp => (q0 p hp).trans (hR0.1 p (by omega)), q1.trans (hR0.1 147 (by omega)), q2.trans (hR0.1 170 (by omega)), q3.trans (hR0.2 36 (by omega)), q4, ⟨fun j hj => ?_, fun k hk => (q6 k hk).trans (kp k hk)⟩, q7, q8⟩
  rw [q5 j hj, hR0.1 155 (by omega)]
theorem INV.mr {nx n : Nat} (hI : INV σ lam s nx c n) (h : MR σ υ) (hM : MW υ s) (hT : TE (mv υ) 1 σ 1) : INV υ lam s nx c n := by
  obtain ⟨⟨g, md, pd, lk⟩, ⟨mw, te, e6⟩, ⟨c0, c1, c2⟩, hi, tx⟩ := hI
  have sr : SR σ υ 1 := fun i hi => h.1 _ (by omega)
  refine ⟨⟨sr.te.gt g, md.cg g.1 sr (fun p h1 h2 h3 => h.1 p (by omega)), pd.cg sr (fun p h1 h2 => h.1 p (by omega)), lk.cg (fun p hp => h.1 p (by omega)) (h.1 36 (by omega))⟩, ⟨hM, hT.trans sr.te.symm, (h.2 6 (by omega)).trans e6⟩, ⟨?_, ?_, ?_⟩, hi.cg (h.1 66 (by omega)) (h.2 13 (by omega)) (fun p h1 h2 => h.1 p (by omega)) (fun j _ => congrFun (h.1 155 (by omega)) j), tx.cg (by rw [h.1 140 (by omega)]) (h.2 36 (by omega)) (fun j _ => congrFun (h.1 170 (by omega)) j) (fun j _ => congrFun (h.1 141 (by omega)) j)⟩
  · rw [h.1 147 (by omega), h.1 0 (by omega)]; exact c0
  · rw [h.1 147 (by omega), h.1 0 (by omega)]; exact c1
  · rw [h.1 147 (by omega), h.1 0 (by omega)]; exact c2
/-- the model's graft -/
theorem mgraft {lam2 : Nat → Int64} {nx n j k b : Nat} {σ1 σ2 : cw_V} {y : Int32} {h0 : cw_H} {K2 : cw_KT} (hI : INV σ lam s nx c n) (hρ : Dep s (σ 7) (σ 9) ρ) (hP : Pg σ s ρ k b) (hj : isF (σ 7) j) (s1 : ∀ p, p < 10 → σ1 p = σ p) (hTR : TR σ1 σ2 1 (gL (σ1 7) j b) (gR (σ1 8) j b k) (gP (σ1 9) j b k)) (hC : CHG σ τ lam2 s nx c) (sr : SR σ2 τ 1) (hR0 : MR τ υ0) (mw0 : MW υ0 s) (te0 : TE (mv υ0) 1 σ 1) (hK2 : cw_Kc (d + 15) m_Mo_grafts h0 (Res (some (.int (nI j)))) K2) : K2 68 [some (.ref 146), some (.int (nI k)), some (.int y), some (.int (nI b))] [] (cw_B υ0 lam2) := by
  obtain ⟨mw2, te2, l2, k2, mv2⟩ := hI.mf (τ := τ) (fun p hp => hC.1 p (by omega))
  have g := hI.1.1
  have h8 : s ≤ 8 := g.1.2.1
  have hc : c ≤ 8 := hI.2.2.2.1.1.2.1
  obtain ⟨⟨nk, hkt⟩, nb, hnk⟩ := hP
  have lb := g.1.2.lt nb
  have lk := g.1.2.lt nk
  have kp := kp_eq mw2 mw0 te2 te0 hR0
  have l0 : υ0 146 6 = nI s := (hR0.2 6 (by decide)).trans l2
  have k0 : υ0 146 13 = nI c := (hR0.2 13 (by decide)).trans k2
  refine st_go hK2 rfl rfl ?_
  refine st_go hK2 rfl rfl ?_
  refine st_if hK2 rfl rfl (fun _ => ?_) (fun c => absurd (nI_ne1 (by omega)) c)
  refine st_go hK2 rfl rfl ?_
  refine cv0 hK2 rfl qc_146 (Nat.le_of_ble_eq_true rfl) ?_
  refine z_leaves k0 hc (fun υ hL => ?_)
  change K2 _ _ _ _
  obtain ⟨mw3, mv3⟩ := hL.mf mw0
  have te3 : TE (mv υ) 1 σ 1 := by rw [mv3]; exact te0
  have l3 : υ 146 6 = nI s := (hL.2.1 6 (by decide)).trans l0
  obtain ⟨w1, w2, w3⟩ := te3.mrow
  refine st_go hK2 rfl rfl ?_
  refine st_go hK2 rfl rfl ?_
  refine st_go hK2 rfl rfl ?_
  refine cv2 hK2 rfl qc_146 (Nat.le_of_ble_eq_true rfl) ?_
  refine z_lays mw3 (j := j) (isF_cg (fun x hx => (w1 x hx).symm) hj) (te3.nn.mpr nb) (te3.nn.mpr nk) ((w3 k (by omega)).trans hkt) (Dep.cg hρ h8 w1 w3) (fun z => hnk ((Inr.cg g.1.2 hρ w3 nb).mp z)) (fun υ2 mw4 hMT => ?_)
  change K2 _ _ (_ :: _) _
  refine st_ret hK2 rfl rfl ?_
  have t3 : TE (mv υ) 1 σ1 1 := te3.trans (te_of (fun j hj => s1 _ (by omega))).symm
  obtain ⟨x1, x2, x3⟩ := t3.mrow
  have hTE : TE (mv υ2) 1 σ2 1 := te_mr t3 hMT.mr (fun x hx => (hMT.2.1 x hx).trans (gL_cg (x1 x hx))) (fun x hx => (hMT.2.2.1 x hx).trans (gR_cg (x2 x hx))) (fun x hx => (hMT.2.2.2 x hx).trans (gP_cg (x3 x hx) (x3 _ (by omega)))) hTR
  exact Res.mk (hI.chg hC (mch_pre hR0 kp hL hMT.mr mw4 l3) (hTE.trans sr.te.symm))
end
section
variable {d : Nat} {x y v k w : Int32}

theorem cgraft {lam : Nat → Int64} {s nx c n j k b : Nat} {σ : cw_V} {ρ : Nat → Nat} {x : Option Value} {h0 : cw_H} {Qc : cw_Q} {K : cw_KT} (hI : INV σ lam s nx c n) (hρ : Dep s (σ 7) (σ 9) ρ) (hP : Pg σ s ρ k b) (hj : isF (σ 7) j) (hK : cw_Kc (d + 15) m_CW_grafts h0 Qc K) (kk : ∀ σ1 σ2 τ lam2, (∀ p, p < 10 → σ1 p = σ p) → TR σ1 σ2 1 (gL (σ1 7) j b) (gR (σ1 8) j b k) (gP (σ1 9) j b k) → CHG σ τ lam2 s nx c → SR σ2 τ 1 → Qc (some (.int (nI j))) (cw_B τ lam2)) : K 56 [some (.ref 0), some (.int (nI k)), some (.int y), some (.int (nI b)), x] [] (cw_B σ lam) := by
  have g := hI.1.1
  obtain ⟨⟨hnx, hc, h661, h662, h13⟩, hh⟩ := hI.2.2.2.1
  have lb := g.1.2.lt hP.2.1
  have lk := g.1.2.lt hP.1.1
  have hcg := (cGr_iff g.1 hρ lk lb).mpr hP
  obtain ⟨⟨nk, hkt⟩, nb, hnk⟩ := hP
  have b_k : b ≠ k := fun z => hnk (z ▸ Inr.rf)
  have hWF := g.1.2.graft hj nb nk hkt hρ hnk
  refine st_go hK rfl rfl ?_
  refine st_getr hK rfl qf_0_0 ?_
  refine st_go hK rfl rfl ?_
  refine st_go hK rfl rfl ?_
  refine cv2 hK rfl qc_1 (Nat.le_of_ble_eq_true rfl) ?_
  refine z_canGraft hT1 (fun _ => ?_) (fun c => absurd hcg c)
  change K _ _ (_ :: _) _
  refine st_if hK rfl rfl (fun _ => ?_) (fun c => absurd (by decide) c)
  refine st_go hK rfl rfl ?_
  refine st_getr hK rfl qf_0_4 ?_
  refine st_go hK rfl rfl ?_
  refine st_getr hK rfl qf_0_0 ?_
  refine cv1 hK rfl qc_66 (Nat.le_of_ble_eq_true rfl) ?_
  refine z_save h661 hnx h662 hc (fun σ1 hS => ?_)
  change K _ _ _ _
  have s1 : ∀ p, p < 66 → σ1 p = σ p := fun p hp => hS.1 p (by omega) (by omega)
  have g1 : GT σ1 1 s := (te_of (fun j hj => s1 _ (by omega))).gt g
  have es1 : σ1 1 8 = nI s := g1.1.1
  refine st_go hK rfl rfl ?_
  refine st_getr hK rfl qf_0_0 ?_
  refine st_go hK rfl rfl ?_
  refine st_go hK rfl rfl ?_
  refine cv2 hK rfl qc_1 (Nat.le_of_ble_eq_true rfl) ?_
  refine z_graftT hT1 g1.1 (j := j) (by rw [s1 (1 + 6) (by decide)]; exact hj) (by rw [s1 (1 + 6) (by decide)]; exact nb) (by rw [s1 (1 + 6) (by decide)]; exact nk) b_k (fun σ2 hTR => ?_)
  change K _ _ (_ :: _) _
  refine st_go hK rfl rfl ?_
  change K _ [some (.ref 0), some (.int (nI k)), some (.int y), some (.int (nI b)), some (.int (nI j))] _ _
  refine st_go hK rfl rfl ?_
  refine cv0 hK rfl qc_0 (Nat.le_of_ble_eq_true rfl) ?_
  have hf : ∀ p, (p < 1 ∨ 9 < p) → σ2 p = σ1 p := fun p hp => hTR.1 p (by omega) (by omega) (by omega)
  have hG : GT σ2 1 s := gt_tr g1 hTR (by rw [s1 (1 + 6) (by decide), s1 (1 + 7) (by decide), s1 (1 + 8) (by decide)]; exact hWF)
  refine z_cfin hS hnx hf hG (fun τ lam2 hC sr => ?_)
  change K _ _ _ _
  refine st_go hK rfl rfl ?_
  refine st_ret hK rfl rfl ?_
  exact kk σ1 σ2 τ lam2 (fun p hp => s1 p (by omega)) hTR hC sr
theorem sim_grafts : SimI (d + 16) m_CW_grafts m_Mo_grafts [.int x, .int y] := by
  intro σ lam ⟨s, nx, c, n, hI⟩
  have g := hI.1.1
  have mw := hI.2.1.1
  have te := hI.2.1.2.1
  have es : σ 1 8 = nI s := g.1.1
  have h8 : s ≤ 8 := g.1.2.1
  obtain ⟨⟨hnx, hc, h661, h662, h13⟩, hh⟩ := hI.2.2.2.1
  have md := hI.1.2.1
  have pd := hI.1.2.2.1
  have vr : VR (mv σ) 1 s := te.vr h8 g.2.1
  obtain ⟨ρ, hρ⟩ := g.1.2.2.2.2.2.2
  obtain ⟨w1, w2, w3⟩ := te.mrow
  by_cases hb : (∃ n, n < 15 ∧ x = nI n ∧ nodeN s (σ 7) n) ∧ (y = -1 ∨ ∃ n, n < 15 ∧ y = nI n ∧ nodeN s (σ 7) n)
  · obtain ⟨⟨a, a15, rfl, hn1⟩, hy⟩ := hb
    have hna : ∃ n, n < 15 ∧ nI a = nI n ∧ nodeN s (σ 7) n := ⟨a, a15, rfl, hn1⟩
    rcases hy with rfl | ⟨b, b15, rfl, hn2⟩
    · have hjx : ∃ j, ∀ n, Pg σ s ρ a n → isF (σ 7) j := by
        rcases Classical.em (∃ n, Pg σ s ρ a n) with ⟨n, hP⟩ | hno
        · obtain ⟨j, hj⟩ := g.1.2.free' hρ hP.2.1 hP.1.1 hP.1.2 hP.2.2
          exact ⟨j, fun _ _ => hj⟩
        · exact ⟨0, fun n h => absurd ⟨n, h⟩ hno⟩
      obtain ⟨j, hj⟩ := hjx
      have hbg := bg_ok (P := Pg σ s ρ a) (c := cG σ j a) 15 0 (-1, 0) (Or.inl rfl)
      obtain ⟨bst, ebst⟩ : ∃ bst, bst = (bgF (Pg σ s ρ a) (cG σ j a) 15 0 (-1, 0)).1 := ⟨_, rfl⟩
      rw [← ebst] at hbg
      rcases hbg with rfl | ⟨b, b15, rfl, hP⟩
      · skip
        refine zi (L := [some (.ref 0), some (.int (nI a)), some (.int (-1 : Int32)), none, none]) rfl rfl (fun K hK => ?_)
        refine st_go hK rfl rfl ?_
        refine st_getr hK rfl qf_0_0 ?_
        refine st_go hK rfl rfl ?_
        refine cv1 hK rfl qc_1 (Nat.le_of_ble_eq_true rfl) ?_
        refine z_hasNode' hT1 g.1 (fun _ => ?_) (fun c => absurd hna c)
        change K _ _ (_ :: _) _
        refine st_if hK rfl rfl (fun c => absurd c (by decide)) (fun _ => ?_)
        refine st_go hK rfl rfl ?_
        refine st_go hK rfl rfl ?_
        refine st_if hK rfl rfl (fun _ => ?_) (fun c => absurd (by decide) c)
        refine st_go hK rfl rfl ?_
        refine st_go hK rfl rfl ?_
        refine st_if hK rfl rfl (fun c => absurd c (by decide)) (fun _ => ?_)
        refine st_go hK rfl rfl ?_
        refine st_getr hK rfl qf_0_3 ?_
        refine st_go hK rfl rfl ?_
        refine st_getr hK rfl qf_0_0 ?_
        refine st_go hK rfl rfl ?_
        refine cv2 hK rfl qc_36 (Nat.le_of_ble_eq_true rfl) ?_
        refine z_bestGraft g.1 hρ a15 hj (fun τ0 hf0 => ?_)
        rw [← ebst]
        have sc0 : SC σ τ0 := ⟨fun p hp => hf0 p (by omega), by rw [hf0 140 (by omega)], fun k hk => by rw [hf0 146 (by omega)]⟩
        have hI0 := sc0.inv hI
        change K _ _ (_ :: _) _
        refine st_go hK rfl rfl ?_
        refine st_go hK rfl rfl ?_
        change K _ [some (.ref 0), some (.int (nI a)), some (.int (-1 : Int32)), some (.int (-1 : Int32)), _] _ _
        refine st_go hK rfl rfl ?_
        refine st_getr hK rfl qf_0_0 ?_
        refine st_go hK rfl rfl ?_
        refine st_go hK rfl rfl ?_
        refine cv2 hK rfl qc_1 (Nat.le_of_ble_eq_true rfl) ?_
        refine z_canGraft hT1 (fun c => absurd c.2.1.1 (by decide)) (fun _ => ?_)
        change K _ _ (_ :: _) _
        refine st_if hK rfl rfl (fun c => absurd c (by decide)) (fun _ => ?_)
        refine st_go hK rfl rfl ?_
        refine st_go hK rfl rfl ?_
        refine cv1 hK rfl qc_0 (Nat.le_of_ble_eq_true rfl) ?_
        refine z_rno ?_
        change K _ _ (_ :: _) _
        refine st_ret hK rfl rfl ?_
        obtain ⟨mw2, te2, l2, k2, mv2⟩ := hI0.mf (τ := (cw_up τ0 0 7 (τ0 0 7 + 1))) (fun p hp => up_ne (by omega))
        have sr0 : TE (mv (cw_up τ0 0 7 (τ0 0 7 + 1))) 1 σ 1 := te2.trans (te_of (fun j hj => hf0 _ (by omega)))
        have r153 : (cw_up τ0 0 7 (τ0 0 7 + 1)) 153 a = σ 9 a := sr0.mrow.2.2 a a15
        refine zi (L := [some (.ref 146), some (.int (nI a)), some (.int (-1 : Int32)), none]) rfl rfl (fun K2 hK2 => ?_)
        refine st_go hK2 rfl rfl ?_
        refine st_go hK2 rfl rfl ?_
        refine cv1 hK2 rfl qc_146 (Nat.le_of_ble_eq_true rfl) ?_
        refine z_misNode' hI (fun p hp => by rw [up_ne (by omega), hf0 p (by omega)]) (fun _ => ?_) (fun c => absurd hna c)
        change K2 _ _ (_ :: _) _
        refine st_if hK2 rfl rfl (fun c => absurd c (by decide)) (fun _ => ?_)
        refine st_go hK2 rfl rfl ?_
        refine st_go hK2 rfl rfl ?_
        refine st_if hK2 rfl rfl (fun _ => ?_) (fun c => absurd (by decide) c)
        refine st_go hK2 rfl rfl ?_
        refine st_go hK2 rfl rfl ?_
        refine cv1 hK2 rfl qc_146 (Nat.le_of_ble_eq_true rfl) ?_
        refine z_misTop a15 (fun ht => ?_) (fun ht => ?_)
        · change K2 _ _ (_ :: _) _
          refine st_if hK2 rfl rfl (fun c => absurd c (by decide)) (fun _ => ?_)
          refine st_go hK2 rfl rfl ?_
          refine st_go hK2 rfl rfl ?_
          refine st_if hK2 rfl rfl (fun _ => ?_) (fun c => absurd (by decide) c)
          refine st_go hK2 rfl rfl ?_
          refine st_go hK2 rfl rfl ?_
          refine st_if hK2 rfl rfl (fun c => absurd c (by decide)) (fun _ => ?_)
          refine st_go hK2 rfl rfl ?_
          refine st_go hK2 rfl rfl ?_
          refine cv1 hK2 rfl qc_146 (Nat.le_of_ble_eq_true rfl) ?_
          refine z_bestFor mw2 sr0 g.1 hρ hn1 (r153.symm.trans ht) hj (fun υ0 hR0 mw0 te0 => ?_)
          rw [← ebst]
          change K2 _ _ (_ :: _) _
          refine st_go hK2 rfl rfl ?_
          refine st_go hK2 rfl rfl ?_
          change K2 _ [some (.ref 146), some (.int (nI a)), some (.int (-1 : Int32)), some (.int (-1 : Int32))] _ _
          refine st_go hK2 rfl rfl ?_
          refine st_go hK2 rfl rfl ?_
          refine st_if hK2 rfl rfl (fun c => absurd c (by decide)) (fun _ => ?_)
          refine st_go hK2 rfl rfl ?_
          refine cv0 hK2 rfl qc_146 (Nat.le_of_ble_eq_true rfl) ?_
          refine z_mno ?_
          change K2 _ _ (_ :: _) _
          refine st_ret hK2 rfl rfl ?_
          have hR1 : MR (cw_up (cw_up τ0 0 7 (τ0 0 7 + 1)) 147 1 ((cw_up τ0 0 7 (τ0 0 7 + 1)) 147 1 + 1)) (cw_up υ0 147 1 (υ0 147 1 + 1)) := by
            refine ⟨fun p hp => ?_, fun k hk => by rw [up_ne (by decide), up_ne (by decide)]; exact hR0.2 k hk⟩
            by_cases z : p = 147
            · subst z
              rw [up_eq, up_eq, hR0.1 147 (by omega)]
            · rw [up_ne z, up_ne z]
              exact hR0.1 p hp
          refine Res.mk ((hI0.err (k := 1) (by decide)).mr hR1 (mw0.cg (by rw [up_ne (by decide)]) (fun p h1 h2 => up_ne (by omega))) ?_)
          have em : mv (cw_up υ0 147 1 (υ0 147 1 + 1)) = mv υ0 := mv_cg (fun k hk => by rw [up_ne (by decide)]) (fun p h1 h2 => up_ne (by omega))
          rw [em]
          exact te0.trans (te_of (fun j hj => by rw [up_ne (by omega), up_ne (by omega), hf0 _ (by omega)])).symm
        · change K2 _ _ (_ :: _) _
          refine st_if hK2 rfl rfl (fun _ => ?_) (fun c => absurd (by decide) c)
          refine st_go hK2 rfl rfl ?_
          refine cv0 hK2 rfl qc_146 (Nat.le_of_ble_eq_true rfl) ?_
          refine z_mno ?_
          change K2 _ _ (_ :: _) _
          refine st_ret hK2 rfl rfl ?_
          exact Res.mk (hI0.err (k := 1) (by decide))
      · have hj1 := hj b hP
        have ht : σ 9 a = -1 := hP.1.2
        refine zi (L := [some (.ref 0), some (.int (nI a)), some (.int (-1 : Int32)), none, none]) rfl rfl (fun K hK => ?_)
        refine st_go hK rfl rfl ?_
        refine st_getr hK rfl qf_0_0 ?_
        refine st_go hK rfl rfl ?_
        refine cv1 hK rfl qc_1 (Nat.le_of_ble_eq_true rfl) ?_
        refine z_hasNode' hT1 g.1 (fun _ => ?_) (fun c => absurd hna c)
        change K _ _ (_ :: _) _
        refine st_if hK rfl rfl (fun c => absurd c (by decide)) (fun _ => ?_)
        refine st_go hK rfl rfl ?_
        refine st_go hK rfl rfl ?_
        refine st_if hK rfl rfl (fun _ => ?_) (fun c => absurd (by decide) c)
        refine st_go hK rfl rfl ?_
        refine st_go hK rfl rfl ?_
        refine st_if hK rfl rfl (fun c => absurd c (by decide)) (fun _ => ?_)
        refine st_go hK rfl rfl ?_
        refine st_getr hK rfl qf_0_3 ?_
        refine st_go hK rfl rfl ?_
        refine st_getr hK rfl qf_0_0 ?_
        refine st_go hK rfl rfl ?_
        refine cv2 hK rfl qc_36 (Nat.le_of_ble_eq_true rfl) ?_
        refine z_bestGraft g.1 hρ a15 hj (fun τ0 hf0 => ?_)
        rw [← ebst]
        have sc0 : SC σ τ0 := ⟨fun p hp => hf0 p (by omega), by rw [hf0 140 (by omega)], fun k hk => by rw [hf0 146 (by omega)]⟩
        have hI0 := sc0.inv hI
        change K _ _ (_ :: _) _
        refine st_go hK rfl rfl ?_
        refine st_go hK rfl rfl ?_
        change K _ [some (.ref 0), some (.int (nI a)), some (.int (-1 : Int32)), some (.int (nI b)), _] _ _
        have hρ0 : Dep s (τ0 7) (τ0 9) ρ := by rw [hf0 7 (by omega), hf0 9 (by omega)]; exact hρ
        have hP0 : Pg τ0 s ρ a b := by unfold Pg; rw [hf0 7 (by omega), hf0 9 (by omega)]; exact hP
        refine cgraft hI0 hρ0 hP0 (j := j) (by rw [hf0 7 (by omega)]; exact hj1) hK (fun σ1 σ2 τ lam2 s1 hTR hC sr => ?_)
        obtain ⟨mw2, te2, l2, k2, mv2⟩ := hI0.mf (τ := τ) (fun p hp => hC.1 p (by omega))
        have te2s : TE (mv τ) 1 σ 1 := te2.trans (te_of (fun j hj => hf0 _ (by omega)))
        have r153 : τ 153 a = σ 9 a := te2s.mrow.2.2 a a15
        refine zi (L := [some (.ref 146), some (.int (nI a)), some (.int (-1 : Int32)), none]) rfl rfl (fun K2 hK2 => ?_)
        refine st_go hK2 rfl rfl ?_
        refine st_go hK2 rfl rfl ?_
        refine cv1 hK2 rfl qc_146 (Nat.le_of_ble_eq_true rfl) ?_
        refine z_misNode' hI (fun p hp => by rw [hC.1 p (by omega), hf0 p (by omega)]) (fun _ => ?_) (fun c => absurd hna c)
        change K2 _ _ (_ :: _) _
        refine st_if hK2 rfl rfl (fun c => absurd c (by decide)) (fun _ => ?_)
        refine st_go hK2 rfl rfl ?_
        refine st_go hK2 rfl rfl ?_
        refine st_if hK2 rfl rfl (fun _ => ?_) (fun c => absurd (by decide) c)
        refine st_go hK2 rfl rfl ?_
        refine st_go hK2 rfl rfl ?_
        refine cv1 hK2 rfl qc_146 (Nat.le_of_ble_eq_true rfl) ?_
        refine z_misTop a15 (fun _ => ?_) (fun c => absurd (r153.trans ht) c)
        change K2 _ _ (_ :: _) _
        refine st_if hK2 rfl rfl (fun c => absurd c (by decide)) (fun _ => ?_)
        refine st_go hK2 rfl rfl ?_
        refine st_go hK2 rfl rfl ?_
        refine st_if hK2 rfl rfl (fun _ => ?_) (fun c => absurd (by decide) c)
        refine st_go hK2 rfl rfl ?_
        refine st_go hK2 rfl rfl ?_
        refine st_if hK2 rfl rfl (fun c => absurd c (by decide)) (fun _ => ?_)
        refine st_go hK2 rfl rfl ?_
        refine st_go hK2 rfl rfl ?_
        refine cv1 hK2 rfl qc_146 (Nat.le_of_ble_eq_true rfl) ?_
        refine z_bestFor mw2 te2s g.1 hρ hn1 ht hj (fun υ0 hR0 mw0 te0 => ?_)
        rw [← ebst]
        have te0s : TE (mv υ0) 1 τ0 1 := te0.trans (te_of (fun j hj => hf0 _ (by omega))).symm
        change K2 _ _ (_ :: _) _
        refine st_go hK2 rfl rfl ?_
        refine st_go hK2 rfl rfl ?_
        change K2 _ [some (.ref 146), some (.int (nI a)), some (.int (-1 : Int32)), some (.int (nI b))] _ _
        exact mgraft hI0 hρ0 hP0 (by rw [hf0 7 (by omega)]; exact hj1) s1 hTR hC sr hR0 mw0 te0s hK2
    · have hnb : ∃ n, n < 15 ∧ nI b = nI n ∧ nodeN s (σ 7) n := ⟨b, b15, rfl, hn2⟩
      rcases Classical.em (Pg σ s ρ a b) with hP | hP
      · obtain ⟨j, hj⟩ := g.1.2.free' hρ hP.2.1 hP.1.1 hP.1.2 hP.2.2
        have ht : σ 9 a = -1 := hP.1.2
        refine zi (L := [some (.ref 0), some (.int (nI a)), some (.int (nI b)), none, none]) rfl rfl (fun K hK => ?_)
        refine st_go hK rfl rfl ?_
        refine st_getr hK rfl qf_0_0 ?_
        refine st_go hK rfl rfl ?_
        refine cv1 hK rfl qc_1 (Nat.le_of_ble_eq_true rfl) ?_
        refine z_hasNode' hT1 g.1 (fun _ => ?_) (fun c => absurd hna c)
        change K _ _ (_ :: _) _
        refine st_if hK rfl rfl (fun c => absurd c (by decide)) (fun _ => ?_)
        refine st_go hK rfl rfl ?_
        refine st_go hK rfl rfl ?_
        refine st_if hK rfl rfl (fun c => absurd c (nI_ne1 (by omega))) (fun _ => ?_)
        refine st_go hK rfl rfl ?_
        refine st_getr hK rfl qf_0_0 ?_
        refine st_go hK rfl rfl ?_
        refine cv1 hK rfl qc_1 (Nat.le_of_ble_eq_true rfl) ?_
        refine z_hasNode' hT1 g.1 (fun _ => ?_) (fun c => absurd hnb c)
        change K _ _ (_ :: _) _
        refine st_if hK rfl rfl (fun _ => ?_) (fun c => absurd (by decide) c)
        refine st_go hK rfl rfl ?_
        refine st_go hK rfl rfl ?_
        refine st_if hK rfl rfl (fun _ => ?_) (fun c => absurd (nI_ne1 (by omega)) c)
        refine st_go hK rfl rfl ?_
        refine st_go hK rfl rfl ?_
        change K _ [some (.ref 0), some (.int (nI a)), some (.int (nI b)), some (.int (nI b)), _] _ _
        refine cgraft hI hρ hP hj hK (fun σ1 σ2 τ lam2 s1 hTR hC sr => ?_)
        obtain ⟨mw2, te2, l2, k2, mv2⟩ := hI.mf (τ := τ) (fun p hp => hC.1 p (by omega))
        have r153 : τ 153 a = σ 9 a := te2.mrow.2.2 a a15
        refine zi (L := [some (.ref 146), some (.int (nI a)), some (.int (nI b)), none]) rfl rfl (fun K2 hK2 => ?_)
        refine st_go hK2 rfl rfl ?_
        refine st_go hK2 rfl rfl ?_
        refine cv1 hK2 rfl qc_146 (Nat.le_of_ble_eq_true rfl) ?_
        refine z_misNode' hI (fun p hp => hC.1 p (by omega)) (fun _ => ?_) (fun c => absurd hna c)
        change K2 _ _ (_ :: _) _
        refine st_if hK2 rfl rfl (fun c => absurd c (by decide)) (fun _ => ?_)
        refine st_go hK2 rfl rfl ?_
        refine st_go hK2 rfl rfl ?_
        refine st_if hK2 rfl rfl (fun c => absurd c (nI_ne1 (by omega))) (fun _ => ?_)
        refine st_go hK2 rfl rfl ?_
        refine st_go hK2 rfl rfl ?_
        refine cv1 hK2 rfl qc_146 (Nat.le_of_ble_eq_true rfl) ?_
        refine z_misNode' hI (fun p hp => hC.1 p (by omega)) (fun _ => ?_) (fun c => absurd hnb c)
        change K2 _ _ (_ :: _) _
        refine st_if hK2 rfl rfl (fun _ => ?_) (fun c => absurd (by decide) c)
        refine st_go hK2 rfl rfl ?_
        refine st_go hK2 rfl rfl ?_
        refine cv1 hK2 rfl qc_146 (Nat.le_of_ble_eq_true rfl) ?_
        refine z_misTop a15 (fun _ => ?_) (fun c => absurd (r153.trans ht) c)
        change K2 _ _ (_ :: _) _
        refine st_if hK2 rfl rfl (fun c => absurd c (by decide)) (fun _ => ?_)
        refine st_go hK2 rfl rfl ?_
        refine st_go hK2 rfl rfl ?_
        refine st_if hK2 rfl rfl (fun c => absurd c (nI_ne1 (by omega))) (fun _ => ?_)
        refine st_go hK2 rfl rfl ?_
        refine st_go hK2 rfl rfl ?_
        refine st_go hK2 rfl rfl ?_
        refine cv2 hK2 rfl qc_146 (Nat.le_of_ble_eq_true rfl) ?_
        refine z_misWithin mw2.2.1 (Dep.cg hρ h8 te2.mrow.1 te2.mrow.2.2) (te2.nn.mpr hn2) a15 (fun c => absurd ((Inr.cg g.1.2 hρ te2.mrow.2.2 hn2).mp c) hP.2.2) (fun _ => ?_)
        change K2 _ _ (_ :: _) _
        refine st_if hK2 rfl rfl (fun _ => ?_) (fun c => absurd (by decide) c)
        refine st_go hK2 rfl rfl ?_
        refine st_go hK2 rfl rfl ?_
        refine st_if hK2 rfl rfl (fun _ => ?_) (fun c => absurd (nI_ne1 (by omega)) c)
        refine st_go hK2 rfl rfl ?_
        refine st_go hK2 rfl rfl ?_
        change K2 _ [some (.ref 146), some (.int (nI a)), some (.int (nI b)), some (.int (nI b))] _ _
        exact mgraft hI hρ hP hj s1 hTR hC sr MR.rf mw2 te2 hK2
      · have hcg : ¬ cGr σ 1 (nI a) (nI b) := fun z => hP ((cGr_iff g.1 hρ a15 b15).mp z)
        refine zi (L := [some (.ref 0), some (.int (nI a)), some (.int (nI b)), none, none]) rfl rfl (fun K hK => ?_)
        refine st_go hK rfl rfl ?_
        refine st_getr hK rfl qf_0_0 ?_
        refine st_go hK rfl rfl ?_
        refine cv1 hK rfl qc_1 (Nat.le_of_ble_eq_true rfl) ?_
        refine z_hasNode' hT1 g.1 (fun _ => ?_) (fun c => absurd hna c)
        change K _ _ (_ :: _) _
        refine st_if hK rfl rfl (fun c => absurd c (by decide)) (fun _ => ?_)
        refine st_go hK rfl rfl ?_
        refine st_go hK rfl rfl ?_
        refine st_if hK rfl rfl (fun c => absurd c (nI_ne1 (by omega))) (fun _ => ?_)
        refine st_go hK rfl rfl ?_
        refine st_getr hK rfl qf_0_0 ?_
        refine st_go hK rfl rfl ?_
        refine cv1 hK rfl qc_1 (Nat.le_of_ble_eq_true rfl) ?_
        refine z_hasNode' hT1 g.1 (fun _ => ?_) (fun c => absurd hnb c)
        change K _ _ (_ :: _) _
        refine st_if hK rfl rfl (fun _ => ?_) (fun c => absurd (by decide) c)
        refine st_go hK rfl rfl ?_
        refine st_go hK rfl rfl ?_
        refine st_if hK rfl rfl (fun _ => ?_) (fun c => absurd (nI_ne1 (by omega)) c)
        refine st_go hK rfl rfl ?_
        refine st_go hK rfl rfl ?_
        change K _ [some (.ref 0), some (.int (nI a)), some (.int (nI b)), some (.int (nI b)), _] _ _
        refine st_go hK rfl rfl ?_
        refine st_getr hK rfl qf_0_0 ?_
        refine st_go hK rfl rfl ?_
        refine st_go hK rfl rfl ?_
        refine cv2 hK rfl qc_1 (Nat.le_of_ble_eq_true rfl) ?_
        refine z_canGraft hT1 (fun c => absurd c hcg) (fun _ => ?_)
        change K _ _ (_ :: _) _
        refine st_if hK rfl rfl (fun c => absurd c (by decide)) (fun _ => ?_)
        refine st_go hK rfl rfl ?_
        refine st_go hK rfl rfl ?_
        refine cv1 hK rfl qc_0 (Nat.le_of_ble_eq_true rfl) ?_
        refine z_rno ?_
        change K _ _ (_ :: _) _
        refine st_ret hK rfl rfl ?_
        obtain ⟨mw2, te2, l2, k2, mv2⟩ := hI.mf (τ := (cw_up σ 0 7 (σ 0 7 + 1))) (fun p hp => up_ne (by omega))
        refine zi (L := [some (.ref 146), some (.int (nI a)), some (.int (nI b)), none]) rfl rfl (fun K2 hK2 => ?_)
        refine st_go hK2 rfl rfl ?_
        refine st_go hK2 rfl rfl ?_
        refine cv1 hK2 rfl qc_146 (Nat.le_of_ble_eq_true rfl) ?_
        refine z_misNode' hI (fun p hp => up_ne (by omega)) (fun _ => ?_) (fun c => absurd hna c)
        change K2 _ _ (_ :: _) _
        refine st_if hK2 rfl rfl (fun c => absurd c (by decide)) (fun _ => ?_)
        refine st_go hK2 rfl rfl ?_
        refine st_go hK2 rfl rfl ?_
        refine st_if hK2 rfl rfl (fun c => absurd c (nI_ne1 (by omega))) (fun _ => ?_)
        refine st_go hK2 rfl rfl ?_
        refine st_go hK2 rfl rfl ?_
        refine cv1 hK2 rfl qc_146 (Nat.le_of_ble_eq_true rfl) ?_
        refine z_misNode' hI (fun p hp => up_ne (by omega)) (fun _ => ?_) (fun c => absurd hnb c)
        change K2 _ _ (_ :: _) _
        refine st_if hK2 rfl rfl (fun _ => ?_) (fun c => absurd (by decide) c)
        refine st_go hK2 rfl rfl ?_
        refine st_go hK2 rfl rfl ?_
        refine cv1 hK2 rfl qc_146 (Nat.le_of_ble_eq_true rfl) ?_
        refine z_misTop a15 (fun ht => ?_) (fun ht => ?_)
        · change K2 _ _ (_ :: _) _
          refine st_if hK2 rfl rfl (fun c => absurd c (by decide)) (fun _ => ?_)
          refine st_go hK2 rfl rfl ?_
          refine st_go hK2 rfl rfl ?_
          refine st_if hK2 rfl rfl (fun c => absurd c (nI_ne1 (by omega))) (fun _ => ?_)
          refine st_go hK2 rfl rfl ?_
          refine st_go hK2 rfl rfl ?_
          refine st_go hK2 rfl rfl ?_
          refine cv2 hK2 rfl qc_146 (Nat.le_of_ble_eq_true rfl) ?_
          refine z_misWithin mw2.2.1 (Dep.cg hρ h8 te2.mrow.1 te2.mrow.2.2) (te2.nn.mpr hn2) a15 (fun _ => ?_) (fun c => absurd ⟨⟨hn1, ((congrFun (up_ne (by decide)) _).trans (w3 a a15)).symm.trans ht⟩, hn2, fun z => c ((Inr.cg g.1.2 hρ te2.mrow.2.2 hn2).mpr z)⟩ hP)
          change K2 _ _ (_ :: _) _
          refine st_if hK2 rfl rfl (fun c => absurd c (by decide)) (fun _ => ?_)
          refine st_go hK2 rfl rfl ?_
          refine cv0 hK2 rfl qc_146 (Nat.le_of_ble_eq_true rfl) ?_
          refine z_mno ?_
          change K2 _ _ (_ :: _) _
          refine st_ret hK2 rfl rfl ?_
          exact Res.mk (hI.err (k := 1) (by decide))
        · change K2 _ _ (_ :: _) _
          refine st_if hK2 rfl rfl (fun _ => ?_) (fun c => absurd (by decide) c)
          refine st_go hK2 rfl rfl ?_
          refine cv0 hK2 rfl qc_146 (Nat.le_of_ble_eq_true rfl) ?_
          refine z_mno ?_
          change K2 _ _ (_ :: _) _
          refine st_ret hK2 rfl rfl ?_
          exact Res.mk (hI.err (k := 1) (by decide))
  · skip
    refine zi (L := [some (.ref 0), some (.int x), some (.int y), none, none]) rfl rfl (fun K hK => ?_)
    refine st_go hK rfl rfl ?_
    refine st_getr hK rfl qf_0_0 ?_
    refine st_go hK rfl rfl ?_
    refine cv1 hK rfl qc_1 (Nat.le_of_ble_eq_true rfl) ?_
    refine z_hasNode' hT1 g.1 (fun h1 => ?_) (fun h1 => ?_)
    · change K _ _ (_ :: _) _
      refine st_if hK rfl rfl (fun c => absurd c (by decide)) (fun _ => ?_)
      refine st_go hK rfl rfl ?_
      refine st_go hK rfl rfl ?_
      refine st_if hK rfl rfl (fun c => absurd c (fun z => hb ⟨h1, Or.inl z⟩)) (fun _ => ?_)
      refine st_go hK rfl rfl ?_
      refine st_getr hK rfl qf_0_0 ?_
      refine st_go hK rfl rfl ?_
      refine cv1 hK rfl qc_1 (Nat.le_of_ble_eq_true rfl) ?_
      refine z_hasNode' hT1 g.1 (fun h2 => absurd ⟨h1, Or.inr h2⟩ hb) (fun h2 => ?_)
      change K _ _ (_ :: _) _
      refine st_if hK rfl rfl (fun c => absurd c (by decide)) (fun _ => ?_)
      refine st_go hK rfl rfl ?_
      refine st_go hK rfl rfl ?_
      refine cv1 hK rfl qc_0 (Nat.le_of_ble_eq_true rfl) ?_
      refine z_rbad ?_
      change K _ _ (_ :: _) _
      refine st_ret hK rfl rfl ?_
      obtain ⟨mw2, te2, l2, k2, mv2⟩ := hI.mf (τ := (cw_up σ 0 6 (σ 0 6 + 1))) (fun p hp => up_ne (by omega))
      refine zi (L := [some (.ref 146), some (.int x), some (.int y), none]) rfl rfl (fun K2 hK2 => ?_)
      refine st_go hK2 rfl rfl ?_
      refine st_go hK2 rfl rfl ?_
      refine cv1 hK2 rfl qc_146 (Nat.le_of_ble_eq_true rfl) ?_
      refine z_misNode' hI (fun p hp => up_ne (by omega)) (fun j1 => ?_) (fun j1 => ?_)
      · change K2 _ _ (_ :: _) _
        refine st_if hK2 rfl rfl (fun c => absurd c (by decide)) (fun _ => ?_)
        refine st_go hK2 rfl rfl ?_
        refine st_go hK2 rfl rfl ?_
        refine st_if hK2 rfl rfl (fun c => absurd c (fun z => hb ⟨j1, Or.inl z⟩)) (fun _ => ?_)
        refine st_go hK2 rfl rfl ?_
        refine st_go hK2 rfl rfl ?_
        refine cv1 hK2 rfl qc_146 (Nat.le_of_ble_eq_true rfl) ?_
        refine z_misNode' hI (fun p hp => up_ne (by omega)) (fun j2 => absurd ⟨j1, Or.inr j2⟩ hb) (fun j2 => ?_)
        change K2 _ _ (_ :: _) _
        refine st_if hK2 rfl rfl (fun c => absurd c (by decide)) (fun _ => ?_)
        refine st_go hK2 rfl rfl ?_
        refine cv0 hK2 rfl qc_146 (Nat.le_of_ble_eq_true rfl) ?_
        refine z_mbad ?_
        change K2 _ _ (_ :: _) _
        refine st_ret hK2 rfl rfl ?_
        exact Res.mk (hI.err (k := 0) (by decide))
      · change K2 _ _ (_ :: _) _
        refine st_if hK2 rfl rfl (fun _ => ?_) (fun c => absurd (by decide) c)
        refine st_go hK2 rfl rfl ?_
        refine cv0 hK2 rfl qc_146 (Nat.le_of_ble_eq_true rfl) ?_
        refine z_mbad ?_
        change K2 _ _ (_ :: _) _
        refine st_ret hK2 rfl rfl ?_
        exact Res.mk (hI.err (k := 0) (by decide))
    · change K _ _ (_ :: _) _
      refine st_if hK rfl rfl (fun _ => ?_) (fun c => absurd (by decide) c)
      refine st_go hK rfl rfl ?_
      refine st_go hK rfl rfl ?_
      refine cv1 hK rfl qc_0 (Nat.le_of_ble_eq_true rfl) ?_
      refine z_rbad ?_
      change K _ _ (_ :: _) _
      refine st_ret hK rfl rfl ?_
      obtain ⟨mw2, te2, l2, k2, mv2⟩ := hI.mf (τ := (cw_up σ 0 6 (σ 0 6 + 1))) (fun p hp => up_ne (by omega))
      refine zi (L := [some (.ref 146), some (.int x), some (.int y), none]) rfl rfl (fun K2 hK2 => ?_)
      refine st_go hK2 rfl rfl ?_
      refine st_go hK2 rfl rfl ?_
      refine cv1 hK2 rfl qc_146 (Nat.le_of_ble_eq_true rfl) ?_
      refine z_misNode' hI (fun p hp => up_ne (by omega)) (fun j1 => ?_) (fun j1 => ?_)
      · change K2 _ _ (_ :: _) _
        refine st_if hK2 rfl rfl (fun c => absurd c (by decide)) (fun _ => ?_)
        refine st_go hK2 rfl rfl ?_
        refine st_go hK2 rfl rfl ?_
        refine st_if hK2 rfl rfl (fun c => absurd c (fun z => hb ⟨j1, Or.inl z⟩)) (fun _ => ?_)
        refine st_go hK2 rfl rfl ?_
        refine st_go hK2 rfl rfl ?_
        refine cv1 hK2 rfl qc_146 (Nat.le_of_ble_eq_true rfl) ?_
        refine z_misNode' hI (fun p hp => up_ne (by omega)) (fun j2 => absurd ⟨j1, Or.inr j2⟩ hb) (fun j2 => ?_)
        change K2 _ _ (_ :: _) _
        refine st_if hK2 rfl rfl (fun c => absurd c (by decide)) (fun _ => ?_)
        refine st_go hK2 rfl rfl ?_
        refine cv0 hK2 rfl qc_146 (Nat.le_of_ble_eq_true rfl) ?_
        refine z_mbad ?_
        change K2 _ _ (_ :: _) _
        refine st_ret hK2 rfl rfl ?_
        exact Res.mk (hI.err (k := 0) (by decide))
      · change K2 _ _ (_ :: _) _
        refine st_if hK2 rfl rfl (fun _ => ?_) (fun c => absurd (by decide) c)
        refine st_go hK2 rfl rfl ?_
        refine cv0 hK2 rfl qc_146 (Nat.le_of_ble_eq_true rfl) ?_
        refine z_mbad ?_
        change K2 _ _ (_ :: _) _
        refine st_ret hK2 rfl rfl ?_
        exact Res.mk (hI.err (k := 0) (by decide))
end
