/-! THE CALLS: source, sink, moves, sets -/
section
variable {σ τ υ : cw_V} {s a i j : Nat} {x y z w v : Int32} {f : Nat → Int32}
theorem gt_end (hG : GT σ 1 s) (ha : a < s) (h1 : τ 1 = σ 1) (h6 : τ 6 = tchF (σ 6) a (σ 6 a)) (h7 : τ 7 = σ 7) (h8 : τ 8 = σ 8) (h9 : τ 9 = σ 9) (hv : ∀ k, k < s → (0 ≤ (τ 2 k).toInt ∧ (τ 2 k).toInt ≤ 63) ∧ (0 ≤ (τ 3 k).toInt ∧ (τ 3 k).toInt ≤ 63) ∧ (0 ≤ (τ 4 k).toInt ∧ (τ 4 k).toInt ≤ 99) ∧ 1 ≤ (τ 5 k).toInt ∧ (τ 5 k).toInt ≤ 9) : GT τ 1 s := by
  refine ⟨⟨by rw [h1]; exact hG.1.1, ?_⟩, ⟨hv, ?_, ?_, ?_⟩, ?_⟩
  · show WFt s (τ 7) (τ 8) (τ 9)
    rw [h7, h8, h9]; exact hG.1.2
  · rw [h1]; exact hG.2.1.2.1
  · rw [h1]; exact hG.2.1.2.2.1
  · rw [h1]; exact hG.2.1.2.2.2
  · show PM (τ 6) s
    rw [h6]
    exact hG.2.2.touch ha
theorem upd_r {P : Int32 → Prop} {k : Nat} (h : P (f k)) (hx : P x) : P (upd f i x k) := by
  by_cases z : k = i
  · subst z; rw [upd_eq]; exact hx
  · rw [upd_ne z]; exact h
theorem mv_1 {k : Nat} (h : ∀ k, k < 13 → τ 146 k = υ 146 k) : mv τ 1 k = mv υ 1 k := by
  show (if k = 8 then τ 146 1 else if k = 9 then τ 146 3 else if k = 10 then τ 146 4 else τ 146 5) = if k = 8 then υ 146 1 else if k = 9 then υ 146 3 else if k = 10 then υ 146 4 else υ 146 5
  rw [h 1 (by decide), h 3 (by decide), h 4 (by decide), h 5 (by decide)]
end
section
variable {d : Nat} {x y v k w : Int32}
theorem sim_source : SimI (d + 16) m_CW_source m_Mo_source [.int x, .int y] := by
  intro σ lam ⟨s, nx, c, n, hI⟩
  have g := hI.1.1
  have mw := hI.2.1.1
  have te := hI.2.1.2.1
  have es : σ 1 8 = nI s := g.1.1
  have h8 : s ≤ 8 := g.1.2.1
  obtain ⟨⟨hnx, hc, h661, h662, h13⟩, hh⟩ := hI.2.2.2.1
  by_cases hsp : spot x y
  · have r1 := rg_i hsp.1.1 hsp.1.2
    have r2 := rg_i hsp.2.1 hsp.2.2
    have q0 : (0 : Int32).toInt = 0 := by decide
    have q1 : (63 : Int32).toInt = 63 := by decide
    rw [q0, q1] at r1 r2
    refine zi (L := [some (.ref 0), some (.int x), some (.int y), none]) rfl rfl (fun K hK => ?_)
    refine st_go hK rfl rfl ?_
    refine st_go hK rfl rfl ?_
    refine cs2 hK rfl (Nat.le_of_ble_eq_true rfl) ?_
    refine z_onGrid (fun _ => ?_) (fun c => absurd hsp c)
    change K _ _ (_ :: _) _
    refine st_if hK rfl rfl (fun _ => ?_) (fun c => absurd (by decide) c)
    refine st_go hK rfl rfl ?_
    refine st_getr hK rfl qf_0_0 ?_
    refine gi (v := σ 1 10) hK rfl qf_1_10 rfl ?_
    refine st_go hK rfl rfl ?_
    refine st_getr hK rfl qf_0_0 ?_
    refine gi (v := σ 1 11) hK rfl qf_1_11 rfl ?_
    refine st_go hK rfl rfl ?_
    refine st_go hK rfl rfl ?_
    refine cs4 hK rfl (Nat.le_of_ble_eq_true rfl) ?_
    refine z_gridDistance ?_
    change K _ _ (_ :: _) _
    refine st_go hK rfl rfl ?_
    change K _ [some (.ref 0), some (.int x), some (.int y), some (.int (dsF (((σ 1 10) + (σ 1 11)) * 65536) (((σ 1 10) - (σ 1 11)) * 65536) ((x + y) * 65536) ((x - y) * 65536)))] _ _
    refine st_go hK rfl rfl ?_
    refine st_getr hK rfl qf_0_4 ?_
    refine st_go hK rfl rfl ?_
    refine st_getr hK rfl qf_0_0 ?_
    refine cv1 hK rfl qc_66 (Nat.le_of_ble_eq_true rfl) ?_
    refine z_save h661 hnx h662 hc (fun σ1 hS => ?_)
    change K _ _ _ _
    have s1 : ∀ p, p < 66 → σ1 p = σ p := fun p hp => hS.1 p (by omega) (by omega)
    have g1 : GT σ1 1 s := (te_of (fun j hj => s1 _ (by omega))).gt g
    have es1 : σ1 1 8 = nI s := g1.1.1
    refine st_go hK rfl rfl ?_
    refine st_getr hK rfl qf_0_0 ?_
    refine st_go hK rfl rfl ?_
    refine st_put hK rfl qf_1_10 rfl ?_
    refine st_go hK rfl rfl ?_
    refine st_getr hK rfl qf_0_0 ?_
    refine st_go hK rfl rfl ?_
    refine st_put hK rfl qf_1_11 rfl ?_
    refine st_go hK rfl rfl ?_
    refine cv0 hK rfl qc_0 (Nat.le_of_ble_eq_true rfl) ?_
    have hf : ∀ p, (p < 1 ∨ 9 < p) → (cw_up (cw_up σ1 1 10 x) 1 11 y) p = σ1 p := fun p hp => by rw [up_ne (by omega), up_ne (by omega)]
    have hG : GT (cw_up (cw_up σ1 1 10 x) 1 11 y) 1 s := ⟨⟨by rw [up_eq, upd_ne (by decide), up_eq, upd_ne (by decide)]; exact es1, by rw [up_ne (by decide), up_ne (by decide), up_ne (by decide), up_ne (by decide), up_ne (by decide), up_ne (by decide)]; exact g1.1.2⟩, ⟨fun k hk => by simp only [up_ne (show 1 + 1 ≠ 1 by decide), up_ne (show 1 + 2 ≠ 1 by decide), up_ne (show 1 + 3 ≠ 1 by decide), up_ne (show 1 + 4 ≠ 1 by decide)]; exact g1.2.1.1 k hk, by rw [up_eq, upd_ne (by decide), up_eq, upd_ne (by decide)]; exact g1.2.1.2.1, by rw [up_eq, upd_ne (by decide), up_eq, upd_eq]; exact r1, by rw [up_eq, upd_eq]; exact r2⟩, by rw [up_ne (by decide), up_ne (by decide)]; exact g1.2.2⟩
    refine z_cfin hS hnx hf hG (fun τ lam2 hC sr => ?_)
    change K _ _ _ _
    refine st_go hK rfl rfl ?_
    refine st_ret hK rfl rfl ?_
    obtain ⟨mw2, te2, l2, k2, mv2⟩ := hI.mf (τ := τ) (fun p hp => hC.1 p (by omega))
    refine zi (L := [some (.ref 146), some (.int x), some (.int y), none]) rfl rfl (fun K2 hK2 => ?_)
    refine st_go hK2 rfl rfl ?_
    refine st_go hK2 rfl rfl ?_
    refine cs2 hK2 rfl (Nat.le_of_ble_eq_true rfl) ?_
    refine z_misSpot (fun _ => ?_) (fun c => absurd hsp c)
    change K2 _ _ (_ :: _) _
    refine st_if hK2 rfl rfl (fun _ => ?_) (fun c => absurd (by decide) c)
    refine st_go hK2 rfl rfl ?_
    refine cv0 hK2 rfl qc_146 (Nat.le_of_ble_eq_true rfl) ?_
    refine z_leaves k2 hc (fun υ hL => ?_)
    change K2 _ _ _ _
    obtain ⟨mw3, mv3⟩ := hL.mf mw2
    have te3 : TE (mv υ) 1 σ 1 := by rw [mv3]; exact te2
    have l3 : υ 146 6 = nI s := (hL.2.1 6 (by decide)).trans l2
    refine st_go hK2 rfl rfl ?_
    refine st_go hK2 rfl rfl ?_
    refine st_go hK2 rfl rfl ?_
    refine gi (v := υ 146 4) hK2 rfl qf_146_4 rfl ?_
    refine st_go hK2 rfl rfl ?_
    refine gi (v := υ 146 5) hK2 rfl qf_146_5 rfl ?_
    refine cs4 hK2 rfl (Nat.le_of_ble_eq_true rfl) ?_
    refine z_apart ?_
    change K2 _ _ (_ :: _) _
    refine st_go hK2 rfl rfl ?_
    change K2 _ [some (.ref 146), some (.int x), some (.int y), some (.int (mx (ab (x + y - (υ 146 4) - (υ 146 5))) (ab (x - y - (υ 146 4) + (υ 146 5))) * 65536))] _ _
    refine st_go hK2 rfl rfl ?_
    refine st_go hK2 rfl rfl ?_
    refine st_put hK2 rfl qf_146_4 rfl ?_
    refine st_go hK2 rfl rfl ?_
    refine st_go hK2 rfl rfl ?_
    refine st_put hK2 rfl qf_146_5 rfl ?_
    refine st_go hK2 rfl rfl ?_
    refine st_ret hK2 rfl rfl ?_
    have t3 : TE (mv υ) 1 σ1 1 := te3.trans (te_of (fun j hj => s1 _ (by omega))).symm
    have hTE : TE (mv (cw_up (cw_up υ 146 4 x) 146 5 y)) 1 (cw_up (cw_up σ1 1 10 x) 1 11 y) 1 := by
      have em : ∀ p, p ≠ 1 → mv (cw_up (cw_up υ 146 4 x) 146 5 y) p = mv υ p := fun p hp => by
        unfold mv
        simp only [if_neg hp, up_ne (show (148 : Nat) ≠ 146 by decide), up_ne (show (149 : Nat) ≠ 146 by decide), up_ne (show (151 : Nat) ≠ 146 by decide), up_ne (show (152 : Nat) ≠ 146 by decide), up_ne (show (153 : Nat) ≠ 146 by decide)]
      refine ⟨fun i a b j hj => ?_, fun i a b j hj => ?_, fun k a b => ?_⟩
      · rw [em _ (by omega), up_ne (by omega), up_ne (by omega)]; exact t3.1 i a b j hj
      · rw [em _ (by omega), up_ne (by omega), up_ne (by omega)]; exact t3.2.1 i a b j hj
      · have t4 := t3.2.2 k a b
        rcases (show k = 8 ∨ k = 9 ∨ k = 10 ∨ k = 11 by omega) with rfl | rfl | rfl | rfl
        · simpa [mv, up_at] using t4
        · simpa [mv, up_at] using t4
        · simp [mv, up_at]
        · simp [mv, up_at]
    have ev1 : υ 146 4 = σ 1 10 := te3.2.2 10 (by decide) (by decide)
    have ev2 : υ 146 5 = σ 1 11 := te3.2.2 11 (by decide) (by decide)
    rw [ev1, ev2, apart_eq g.2.1.2.2.1 g.2.1.2.2.2 r1 r2]
    exact Res.mk (hI.chg hC (mch_of hL (fun p hp => by rw [up_ne (by omega), up_ne (by omega)]) (by rw [up_eq, upd_ne (by decide), up_eq, upd_ne (by decide)]) (by rw [up_eq, upd_ne (by decide), up_eq, upd_ne (by decide)]) (mw3.cg (by rw [up_eq, upd_ne (by decide), up_eq, upd_ne (by decide)]) (fun p h1 h2 => by rw [up_ne (by omega), up_ne (by omega)])) (by rw [up_eq, upd_ne (by decide), up_eq, upd_ne (by decide)]; exact l3)) (hTE.trans sr.te.symm))
  · skip
    refine zi (L := [some (.ref 0), some (.int x), some (.int y), none]) rfl rfl (fun K hK => ?_)
    refine st_go hK rfl rfl ?_
    refine st_go hK rfl rfl ?_
    refine cs2 hK rfl (Nat.le_of_ble_eq_true rfl) ?_
    refine z_onGrid (fun c => absurd c hsp) (fun _ => ?_)
    change K _ _ (_ :: _) _
    refine st_if hK rfl rfl (fun c => absurd c (by decide)) (fun _ => ?_)
    refine st_go hK rfl rfl ?_
    refine st_go hK rfl rfl ?_
    refine cv1 hK rfl qc_0 (Nat.le_of_ble_eq_true rfl) ?_
    refine z_rbad ?_
    change K _ _ (_ :: _) _
    refine st_ret hK rfl rfl ?_
    obtain ⟨mw2, te2, l2, k2, mv2⟩ := hI.mf (τ := (cw_up σ 0 6 (σ 0 6 + 1))) (fun p hp => up_ne (by omega))
    refine zi (L := [some (.ref 146), some (.int x), some (.int y), none]) rfl rfl (fun K2 hK2 => ?_)
    refine st_go hK2 rfl rfl ?_
    refine st_go hK2 rfl rfl ?_
    refine cs2 hK2 rfl (Nat.le_of_ble_eq_true rfl) ?_
    refine z_misSpot (fun c => absurd c hsp) (fun _ => ?_)
    change K2 _ _ (_ :: _) _
    refine st_if hK2 rfl rfl (fun c => absurd c (by decide)) (fun _ => ?_)
    refine st_go hK2 rfl rfl ?_
    refine cv0 hK2 rfl qc_146 (Nat.le_of_ble_eq_true rfl) ?_
    refine z_mbad ?_
    change K2 _ _ (_ :: _) _
    refine st_ret hK2 rfl rfl ?_
    exact Res.mk (hI.err (k := 0) (by decide))
theorem sim_sink : SimI (d + 16) m_CW_sink m_Mo_sink [.int x, .int y] := by
  intro σ lam ⟨s, nx, c, n, hI⟩
  have g := hI.1.1
  have mw := hI.2.1.1
  have te := hI.2.1.2.1
  have es : σ 1 8 = nI s := g.1.1
  have h8 : s ≤ 8 := g.1.2.1
  obtain ⟨⟨hnx, hc, h661, h662, h13⟩, hh⟩ := hI.2.2.2.1
  by_cases hsp : spot x y
  · by_cases hat : ff (atP σ 1 x y) s 0 = -1
    · by_cases hs8 : s < 8
      · have e149 : ∀ i, i < s → σ 149 i = σ 6 i := fun i hi => te.lo (i := 5) (by decide) (by decide) (by omega)
        have hno : ∀ i, i < s → σ 149 i ≠ nI s := fun i hi z => by
          obtain ⟨k, k1, k2⟩ := g.2.2.1 i hi
          rw [e149 i hi] at z
          have := nI_inj (by omega) (by omega) (k2.symm.trans z)
          omega
        refine zi (L := [some (.ref 0), some (.int x), some (.int y), none]) rfl rfl (fun K hK => ?_)
        refine st_go hK rfl rfl ?_
        refine st_go hK rfl rfl ?_
        refine cs2 hK rfl (Nat.le_of_ble_eq_true rfl) ?_
        refine z_onGrid (fun _ => ?_) (fun c => absurd hsp c)
        change K _ _ (_ :: _) _
        refine st_if hK rfl rfl (fun _ => ?_) (fun c => absurd (by decide) c)
        refine st_go hK rfl rfl ?_
        refine st_getr hK rfl qf_0_0 ?_
        refine st_go hK rfl rfl ?_
        refine st_go hK rfl rfl ?_
        refine cv2 hK rfl qc_1 (Nat.le_of_ble_eq_true rfl) ?_
        refine z_sinkAt hT1 es h8 ?_
        change K _ _ (_ :: _) _
        refine st_go hK rfl rfl ?_
        refine st_if hK rfl rfl (fun _ => ?_) (fun c => absurd hat c)
        refine st_go hK rfl rfl ?_
        refine st_getr hK rfl qf_0_0 ?_
        refine gi (v := nI s) hK rfl qf_1_8 es ?_
        refine st_go hK rfl rfl ?_
        refine st_ifn hK rfl rfl (nI_ltI (a := s) (b := 8) (by omega) (by omega)) (fun _ => ?_) (fun c => absurd (by omega) c)
        refine st_go hK rfl rfl ?_
        refine st_getr hK rfl qf_0_4 ?_
        refine st_go hK rfl rfl ?_
        refine st_getr hK rfl qf_0_0 ?_
        refine cv1 hK rfl qc_66 (Nat.le_of_ble_eq_true rfl) ?_
        refine z_save h661 hnx h662 hc (fun σ1 hS => ?_)
        change K _ _ _ _
        have s1 : ∀ p, p < 66 → σ1 p = σ p := fun p hp => hS.1 p (by omega) (by omega)
        have g1 : GT σ1 1 s := (te_of (fun j hj => s1 _ (by omega))).gt g
        have es1 : σ1 1 8 = nI s := g1.1.1
        refine st_go hK rfl rfl ?_
        refine st_getr hK rfl qf_0_0 ?_
        refine st_go hK rfl rfl ?_
        refine st_go hK rfl rfl ?_
        refine cv2 hK rfl qc_1 (Nat.le_of_ble_eq_true rfl) ?_
        refine z_addSink hT1 es1 hs8 ?_
        change K _ _ (_ :: _) _
        refine st_go hK rfl rfl ?_
        change K _ [some (.ref 0), some (.int x), some (.int y), some (.int (nI s))] _ _
        refine st_go hK rfl rfl ?_
        refine cv0 hK rfl qc_0 (Nat.le_of_ble_eq_true rfl) ?_
        have hf : ∀ p, (p < 1 ∨ 9 < p) → (addF σ1 1 s x y) p = σ1 p := fun p hp => ad_p (by omega)
        have hG : GT (addF σ1 1 s x y) 1 (s + 1) := gt_add g1 hs8 hsp
        refine z_cfin hS hnx hf hG (fun τ lam2 hC sr => ?_)
        change K _ _ _ _
        refine st_go hK rfl rfl ?_
        refine st_ret hK rfl rfl ?_
        obtain ⟨mw2, te2, l2, k2, mv2⟩ := hI.mf (τ := τ) (fun p hp => hC.1 p (by omega))
        refine zi (L := [some (.ref 146), some (.int x), some (.int y), none]) rfl rfl (fun K2 hK2 => ?_)
        refine st_go hK2 rfl rfl ?_
        refine st_go hK2 rfl rfl ?_
        refine cs2 hK2 rfl (Nat.le_of_ble_eq_true rfl) ?_
        refine z_misSpot (fun _ => ?_) (fun c => absurd hsp c)
        change K2 _ _ (_ :: _) _
        refine st_if hK2 rfl rfl (fun _ => ?_) (fun c => absurd (by decide) c)
        refine st_go hK2 rfl rfl ?_
        refine st_go hK2 rfl rfl ?_
        refine st_go hK2 rfl rfl ?_
        refine cv2 hK2 rfl qc_146 (Nat.le_of_ble_eq_true rfl) ?_
        refine z_misAt mw2.1 h8 ?_
        rw [at_eq te2 h8]
        change K2 _ _ (_ :: _) _
        refine st_go hK2 rfl rfl ?_
        refine st_if hK2 rfl rfl (fun _ => ?_) (fun c => absurd hat c)
        refine st_go hK2 rfl rfl ?_
        refine gi (v := nI s) hK2 rfl qf_146_1 mw2.1 ?_
        refine st_go hK2 rfl rfl ?_
        refine st_ifn hK2 rfl rfl (not_congr (nI_eq (a := s) (b := 8) (by omega) (by omega))) (fun _ => ?_) (fun c => absurd (by omega) c)
        refine st_go hK2 rfl rfl ?_
        refine cv0 hK2 rfl qc_146 (Nat.le_of_ble_eq_true rfl) ?_
        refine z_leaves k2 hc (fun υ hL => ?_)
        change K2 _ _ _ _
        obtain ⟨mw3, mv3⟩ := hL.mf mw2
        have te3 : TE (mv υ) 1 σ 1 := by rw [mv3]; exact te2
        have l3 : υ 146 6 = nI s := (hL.2.1 6 (by decide)).trans l2
        refine st_go hK2 rfl rfl ?_
        refine gi (v := nI s) hK2 rfl qf_146_1 mw3.1 ?_
        refine st_go hK2 rfl rfl ?_
        change K2 _ [some (.ref 146), some (.int x), some (.int y), some (.int (nI s))] _ _
        refine st_go hK2 rfl rfl ?_
        refine st_getr hK2 rfl qf_146_2 ?_
        refine st_go hK2 rfl rfl ?_
        refine st_go hK2 rfl rfl ?_
        refine bnv hK2 rfl (show _ = nI (4 * s) from nI_mul 4 s) ?_
        refine st_go hK2 rfl rfl ?_
        refine sa (e := 4 * s) hK2 rfl qa_148 rfl (by omega) rfl ?_
        refine st_go hK2 rfl rfl ?_
        refine st_getr hK2 rfl qf_146_2 ?_
        refine st_go hK2 rfl rfl ?_
        refine st_go hK2 rfl rfl ?_
        refine bnv hK2 rfl (show _ = nI (4 * s) from nI_mul 4 s) ?_
        refine st_go hK2 rfl rfl ?_
        refine bnv hK2 rfl (show _ = nI ((4 * s) + 1) from nI_add (4 * s) 1) ?_
        refine st_go hK2 rfl rfl ?_
        refine sa (e := (4 * s) + 1) hK2 rfl qa_148 rfl (by omega) rfl ?_
        refine st_go hK2 rfl rfl ?_
        refine st_getr hK2 rfl qf_146_2 ?_
        refine st_go hK2 rfl rfl ?_
        refine st_go hK2 rfl rfl ?_
        refine bnv hK2 rfl (show _ = nI (4 * s) from nI_mul 4 s) ?_
        refine st_go hK2 rfl rfl ?_
        refine bnv hK2 rfl (show _ = nI ((4 * s) + 2) from nI_add (4 * s) 2) ?_
        refine st_go hK2 rfl rfl ?_
        refine sa (e := (4 * s) + 2) hK2 rfl qa_148 rfl (by omega) rfl ?_
        refine st_go hK2 rfl rfl ?_
        refine st_getr hK2 rfl qf_146_2 ?_
        refine st_go hK2 rfl rfl ?_
        refine st_go hK2 rfl rfl ?_
        refine bnv hK2 rfl (show _ = nI (4 * s) from nI_mul 4 s) ?_
        refine st_go hK2 rfl rfl ?_
        refine bnv hK2 rfl (show _ = nI ((4 * s) + 3) from nI_add (4 * s) 3) ?_
        refine st_go hK2 rfl rfl ?_
        refine sa (e := (4 * s) + 3) hK2 rfl qa_148 rfl (by omega) rfl ?_
        refine st_go hK2 rfl rfl ?_
        refine st_getr hK2 rfl qf_146_8 ?_
        refine st_go hK2 rfl rfl ?_
        refine st_go hK2 rfl rfl ?_
        refine sa (e := s) hK2 rfl qa_150 rfl (by omega) rfl ?_
        refine st_go hK2 rfl rfl ?_
        refine st_getr hK2 rfl qf_146_11 ?_
        refine st_go hK2 rfl rfl ?_
        refine st_go hK2 rfl rfl ?_
        refine sa (e := s) hK2 rfl qa_153 rfl (by omega) rfl ?_
        refine st_go hK2 rfl rfl ?_
        refine st_go hK2 rfl rfl ?_
        refine gi (v := nI s) hK2 rfl qf_146_1 (by rw [up_ne (by decide), up_ne (by decide), up_ne (by decide), up_ne (by decide), up_ne (by decide), up_ne (by decide), mw3.1]) ?_
        refine st_go hK2 rfl rfl ?_
        refine bnv hK2 rfl (show _ = nI (s + 1) from nI_add s 1) ?_
        refine st_put hK2 rfl qf_146_1 rfl ?_
        refine st_go hK2 rfl rfl ?_
        refine st_go hK2 rfl rfl ?_
        refine cv1 hK2 rfl qc_146 (Nat.le_of_ble_eq_true rfl) ?_
        have t149 : (cw_up (cw_up (cw_up (cw_up (cw_up (cw_up (cw_up υ 148 (4 * s) x) 148 ((4 * s) + 1) y) 148 ((4 * s) + 2) (0 : Int32)) 148 ((4 * s) + 3) (1 : Int32)) 150 s (1 : Int32)) 153 s (-1 : Int32)) 146 1 (nI (s + 1))) 149 = υ 149 := by rw [up_ne (by decide), up_ne (by decide), up_ne (by decide), up_ne (by decide), up_ne (by decide), up_ne (by decide), up_ne (by decide)]
        refine z_touches (n := s) (a := s) (by rw [up_eq, upd_ne (by decide), up_ne (by decide), up_ne (by decide), up_ne (by decide), up_ne (by decide), up_ne (by decide), up_ne (by decide), l3]) h8 (by omega) (by omega) (fun i hi => by rw [t149]; exact fun z => hno i hi ((show υ 149 i = σ 149 i from (congrFun (hL.1 149 (by decide) (by decide)) _).trans (congrFun (hC.1 149 (by omega)) _)).symm.trans z)) (fun hi => by rw [t149]; exact absurd hi (Nat.lt_irrefl _)) ?_
        rw [t149]
        change K2 _ _ _ _
        refine st_go hK2 rfl rfl ?_
        refine st_ret hK2 rfl rfl ?_
        obtain ⟨υ2, hυ2⟩ : ∃ υ2, υ2 = (rowF (cw_up (cw_up (cw_up (cw_up (cw_up (cw_up (cw_up (cw_up υ 148 (4 * s) x) 148 ((4 * s) + 1) y) 148 ((4 * s) + 2) (0 : Int32)) 148 ((4 * s) + 3) (1 : Int32)) 150 s (1 : Int32)) 153 s (-1 : Int32)) 146 1 (nI (s + 1))) 146 6 (nI (if s = s then s + 1 else s))) 149 (tchF (υ 149) s (nI s))) := ⟨_, rfl⟩
        rw [← hυ2]
        have e148 : υ2 148 = upd (upd (upd (upd (υ 148) (4 * s) x) (4 * s + 1) y) (4 * s + 2) 0) (4 * s + 3) 1 := by rw [hυ2]; simp [rowF, cw_up]
        have e149' : υ2 149 = tchF (υ 149) s (nI s) := by rw [hυ2, row_eq]
        have e150 : υ2 150 = upd (υ 150) s 1 := by rw [hυ2]; simp [rowF, cw_up]
        have e151 : υ2 151 = υ 151 := by rw [hυ2]; simp [rowF, cw_up]
        have e152 : υ2 152 = υ 152 := by rw [hυ2]; simp [rowF, cw_up]
        have e153 : υ2 153 = upd (υ 153) s (-1) := by rw [hυ2]; simp [rowF, cw_up]
        have a1 : υ2 146 1 = nI (s + 1) := by rw [hυ2]; simp [rowF, cw_up, upd]
        have a6 : υ2 146 6 = nI (s + 1) := by rw [hυ2]; simp [rowF, cw_up, upd]
        have ak : ∀ k, k ≠ 1 → k ≠ 6 → υ2 146 k = υ 146 k := fun k h1 h2 => by rw [hυ2]; simp [rowF, cw_up, upd, h1, h2]
        have ap : ∀ p, (p < 146 ∨ p = 147 ∨ p = 155 ∨ p = 170) → υ2 p = υ p := fun p hp => by
          rw [hυ2, row_ne (by omega), up_ne (by omega), up_ne (by omega), up_ne (by omega), up_ne (by omega), up_ne (by omega), up_ne (by omega), up_ne (by omega), up_ne (by omega)]
        have t3 : TE (mv υ) 1 σ1 1 := te3.trans (te_of (fun j hj => s1 _ (by omega))).symm
        have nsp : υ 153 s = -1 := mw3.2.1.2.2.1 s (by omega) (by rintro (z | z) <;> omega)
        have hTE : TE (mv υ2) 1 (addF σ1 1 s x y) 1 := by
          refine te_mk (fun j hj => ?_) (fun j hj => ?_) (fun j hj => ?_) (fun j hj => ?_) (fun j hj => ?_) (fun j hj => ?_) (fun j hj => ?_) (fun j hj => ?_) ?_ ?_ ?_ ?_
          · show υ2 148 (4 * j) = addF σ1 1 s x y 2 j
            have t : υ 148 (4 * j) = σ1 2 j := t3.lo (i := 1) (by decide) (by decide) hj
            rw [e148, e4_0, ad_2, t]
          · show υ2 148 (4 * j + 1) = addF σ1 1 s x y 3 j
            have t : υ 148 (4 * j + 1) = σ1 3 j := t3.lo (i := 2) (by decide) (by decide) hj
            rw [e148, e4_1, ad_3, t]
          · show υ2 148 (4 * j + 2) = addF σ1 1 s x y 4 j
            have t : υ 148 (4 * j + 2) = σ1 4 j := t3.lo (i := 3) (by decide) (by decide) hj
            rw [e148, e4_2, ad_4, t]
          · show υ2 148 (4 * j + 3) = addF σ1 1 s x y 5 j
            have t : υ 148 (4 * j + 3) = σ1 5 j := t3.lo (i := 4) (by decide) (by decide) hj
            rw [e148, e4_3, ad_5, t]
          · show υ2 149 j = addF σ1 1 s x y 6 j
            rw [e149', ad_6, tch_upd (Or.inr (by omega)), tch_at, tch_at]
            have t : ∀ q, q < 8 → υ 149 q = σ1 6 q := fun q hq => t3.lo (i := 5) (by decide) (by decide) hq
            rw [t j hj, t (j - 1) (by omega)]
          · show υ2 151 j = addF σ1 1 s x y (1 + 6) j
            rw [e151, ad_p (by omega)]; exact t3.hi (i := 6) (by decide) (by decide) hj
          · show υ2 152 j = addF σ1 1 s x y (1 + 7) j
            rw [e152, ad_p (by omega)]; exact t3.hi (i := 7) (by decide) (by decide) hj
          · show υ2 153 j = addF σ1 1 s x y (1 + 8) j
            rw [e153, ad_p (by omega)]
            have t : υ 153 j = σ1 (1 + 8) j := t3.hi (i := 8) (by decide) (by decide) hj
            rw [← t]
            by_cases z : j = s
            · subst z; rw [upd_eq, nsp]
            · rw [upd_ne z]
          · exact a1.trans ad_1.symm
          · exact ((ak 3 (by decide) (by decide)).trans t3.e9).trans (ad_1k (by decide)).symm
          · exact ((ak 4 (by decide) (by decide)).trans (t3.2.2 10 (by decide) (by decide))).trans (ad_1k (by decide)).symm
          · exact ((ak 5 (by decide) (by decide)).trans (t3.2.2 11 (by decide) (by decide))).trans (ad_1k (by decide)).symm
        exact Res.mk (hI.chg hC (mch_of hL ap (ak 36 (by decide) (by decide)) (ak 13 (by decide) (by decide)) (mw_sink mw3 hs8 a1 e150 e151 e152 e153) a6) (hTE.trans sr.te.symm))
      · have hs8 : s = 8 := by omega
        refine zi (L := [some (.ref 0), some (.int x), some (.int y), none]) rfl rfl (fun K hK => ?_)
        refine st_go hK rfl rfl ?_
        refine st_go hK rfl rfl ?_
        refine cs2 hK rfl (Nat.le_of_ble_eq_true rfl) ?_
        refine z_onGrid (fun _ => ?_) (fun c => absurd hsp c)
        change K _ _ (_ :: _) _
        refine st_if hK rfl rfl (fun _ => ?_) (fun c => absurd (by decide) c)
        refine st_go hK rfl rfl ?_
        refine st_getr hK rfl qf_0_0 ?_
        refine st_go hK rfl rfl ?_
        refine st_go hK rfl rfl ?_
        refine cv2 hK rfl qc_1 (Nat.le_of_ble_eq_true rfl) ?_
        refine z_sinkAt hT1 es h8 ?_
        change K _ _ (_ :: _) _
        refine st_go hK rfl rfl ?_
        refine st_if hK rfl rfl (fun _ => ?_) (fun c => absurd hat c)
        refine st_go hK rfl rfl ?_
        refine st_getr hK rfl qf_0_0 ?_
        refine gi (v := nI s) hK rfl qf_1_8 es ?_
        refine st_go hK rfl rfl ?_
        refine st_ifn hK rfl rfl (nI_ltI (a := s) (b := 8) (by omega) (by omega)) (fun c => absurd c (by omega)) (fun _ => ?_)
        refine st_go hK rfl rfl ?_
        refine st_go hK rfl rfl ?_
        refine cv1 hK rfl qc_0 (Nat.le_of_ble_eq_true rfl) ?_
        refine z_rfull ?_
        change K _ _ (_ :: _) _
        refine st_ret hK rfl rfl ?_
        obtain ⟨mw2, te2, l2, k2, mv2⟩ := hI.mf (τ := (cw_up σ 0 8 (σ 0 8 + 1))) (fun p hp => up_ne (by omega))
        refine zi (L := [some (.ref 146), some (.int x), some (.int y), none]) rfl rfl (fun K2 hK2 => ?_)
        refine st_go hK2 rfl rfl ?_
        refine st_go hK2 rfl rfl ?_
        refine cs2 hK2 rfl (Nat.le_of_ble_eq_true rfl) ?_
        refine z_misSpot (fun _ => ?_) (fun c => absurd hsp c)
        change K2 _ _ (_ :: _) _
        refine st_if hK2 rfl rfl (fun _ => ?_) (fun c => absurd (by decide) c)
        refine st_go hK2 rfl rfl ?_
        refine st_go hK2 rfl rfl ?_
        refine st_go hK2 rfl rfl ?_
        refine cv2 hK2 rfl qc_146 (Nat.le_of_ble_eq_true rfl) ?_
        refine z_misAt mw2.1 h8 ?_
        rw [at_eq te2 h8]
        change K2 _ _ (_ :: _) _
        refine st_go hK2 rfl rfl ?_
        refine st_if hK2 rfl rfl (fun _ => ?_) (fun c => absurd hat c)
        refine st_go hK2 rfl rfl ?_
        refine gi (v := nI s) hK2 rfl qf_146_1 mw2.1 ?_
        refine st_go hK2 rfl rfl ?_
        refine st_ifn hK2 rfl rfl (not_congr (nI_eq (a := s) (b := 8) (by omega) (by omega))) (fun c => absurd c (fun z => z hs8)) (fun _ => ?_)
        refine st_go hK2 rfl rfl ?_
        refine cv0 hK2 rfl qc_146 (Nat.le_of_ble_eq_true rfl) ?_
        refine z_mfull ?_
        change K2 _ _ (_ :: _) _
        refine st_ret hK2 rfl rfl ?_
        exact Res.mk (hI.err (k := 2) (by decide))
    · skip
      refine zi (L := [some (.ref 0), some (.int x), some (.int y), none]) rfl rfl (fun K hK => ?_)
      refine st_go hK rfl rfl ?_
      refine st_go hK rfl rfl ?_
      refine cs2 hK rfl (Nat.le_of_ble_eq_true rfl) ?_
      refine z_onGrid (fun _ => ?_) (fun c => absurd hsp c)
      change K _ _ (_ :: _) _
      refine st_if hK rfl rfl (fun _ => ?_) (fun c => absurd (by decide) c)
      refine st_go hK rfl rfl ?_
      refine st_getr hK rfl qf_0_0 ?_
      refine st_go hK rfl rfl ?_
      refine st_go hK rfl rfl ?_
      refine cv2 hK rfl qc_1 (Nat.le_of_ble_eq_true rfl) ?_
      refine z_sinkAt hT1 es h8 ?_
      change K _ _ (_ :: _) _
      refine st_go hK rfl rfl ?_
      refine st_if hK rfl rfl (fun c => absurd c hat) (fun _ => ?_)
      refine st_go hK rfl rfl ?_
      refine st_go hK rfl rfl ?_
      refine cv1 hK rfl qc_0 (Nat.le_of_ble_eq_true rfl) ?_
      refine z_rno ?_
      change K _ _ (_ :: _) _
      refine st_ret hK rfl rfl ?_
      obtain ⟨mw2, te2, l2, k2, mv2⟩ := hI.mf (τ := (cw_up σ 0 7 (σ 0 7 + 1))) (fun p hp => up_ne (by omega))
      refine zi (L := [some (.ref 146), some (.int x), some (.int y), none]) rfl rfl (fun K2 hK2 => ?_)
      refine st_go hK2 rfl rfl ?_
      refine st_go hK2 rfl rfl ?_
      refine cs2 hK2 rfl (Nat.le_of_ble_eq_true rfl) ?_
      refine z_misSpot (fun _ => ?_) (fun c => absurd hsp c)
      change K2 _ _ (_ :: _) _
      refine st_if hK2 rfl rfl (fun _ => ?_) (fun c => absurd (by decide) c)
      refine st_go hK2 rfl rfl ?_
      refine st_go hK2 rfl rfl ?_
      refine st_go hK2 rfl rfl ?_
      refine cv2 hK2 rfl qc_146 (Nat.le_of_ble_eq_true rfl) ?_
      refine z_misAt mw2.1 h8 ?_
      rw [at_eq te2 h8]
      change K2 _ _ (_ :: _) _
      refine st_go hK2 rfl rfl ?_
      refine st_if hK2 rfl rfl (fun c => absurd c hat) (fun _ => ?_)
      refine st_go hK2 rfl rfl ?_
      refine cv0 hK2 rfl qc_146 (Nat.le_of_ble_eq_true rfl) ?_
      refine z_mno ?_
      change K2 _ _ (_ :: _) _
      refine st_ret hK2 rfl rfl ?_
      exact Res.mk (hI.err (k := 1) (by decide))
  · skip
    refine zi (L := [some (.ref 0), some (.int x), some (.int y), none]) rfl rfl (fun K hK => ?_)
    refine st_go hK rfl rfl ?_
    refine st_go hK rfl rfl ?_
    refine cs2 hK rfl (Nat.le_of_ble_eq_true rfl) ?_
    refine z_onGrid (fun c => absurd c hsp) (fun _ => ?_)
    change K _ _ (_ :: _) _
    refine st_if hK rfl rfl (fun c => absurd c (by decide)) (fun _ => ?_)
    refine st_go hK rfl rfl ?_
    refine st_go hK rfl rfl ?_
    refine cv1 hK rfl qc_0 (Nat.le_of_ble_eq_true rfl) ?_
    refine z_rbad ?_
    change K _ _ (_ :: _) _
    refine st_ret hK rfl rfl ?_
    obtain ⟨mw2, te2, l2, k2, mv2⟩ := hI.mf (τ := (cw_up σ 0 6 (σ 0 6 + 1))) (fun p hp => up_ne (by omega))
    refine zi (L := [some (.ref 146), some (.int x), some (.int y), none]) rfl rfl (fun K2 hK2 => ?_)
    refine st_go hK2 rfl rfl ?_
    refine st_go hK2 rfl rfl ?_
    refine cs2 hK2 rfl (Nat.le_of_ble_eq_true rfl) ?_
    refine z_misSpot (fun c => absurd c hsp) (fun _ => ?_)
    change K2 _ _ (_ :: _) _
    refine st_if hK2 rfl rfl (fun c => absurd c (by decide)) (fun _ => ?_)
    refine st_go hK2 rfl rfl ?_
    refine cv0 hK2 rfl qc_146 (Nat.le_of_ble_eq_true rfl) ?_
    refine z_mbad ?_
    change K2 _ _ (_ :: _) _
    refine st_ret hK2 rfl rfl ?_
    exact Res.mk (hI.err (k := 0) (by decide))
theorem sim_moves : SimI (d + 16) m_CW_moves m_Mo_moves [.int k, .int x, .int y] := by
  intro σ lam ⟨s, nx, c, n, hI⟩
  have g := hI.1.1
  have mw := hI.2.1.1
  have te := hI.2.1.2.1
  have es : σ 1 8 = nI s := g.1.1
  have h8 : s ≤ 8 := g.1.2.1
  obtain ⟨⟨hnx, hc, h661, h662, h13⟩, hh⟩ := hI.2.2.2.1
  by_cases hb : (∃ i, i < s ∧ k = nI i) ∧ spot x y
  · obtain ⟨⟨i, his, rfl⟩, hsp⟩ := hb
    have hk : ∃ j, j < s ∧ nI i = nI j := ⟨i, his, rfl⟩
    have hsk := hSink_nI es h8 his
    have r1 := rg_i hsp.1.1 hsp.1.2
    have r2 := rg_i hsp.2.1 hsp.2.2
    have q0 : (0 : Int32).toInt = 0 := by decide
    have q1 : (63 : Int32).toInt = 63 := by decide
    rw [q0, q1] at r1 r2
    have h149 : ∀ q, q < 8 → σ 149 q = σ 6 q := fun q hq => te.lo (i := 5) (by decide) (by decide) hq
    obtain ⟨a, has, ha⟩ := g.2.2.2.2 i his
    have hne : ∀ q, q < a → σ 149 q ≠ nI i := fun q hq z => by
      rw [h149 q (by omega), ← ha] at z
      have := g.2.2.2.1 q a (by omega) has z
      omega
    have heq : σ 149 a = nI i := (h149 a (by omega)).trans ha
    have ecl : (nI i).toNatClampNeg = i := nI_clamp (by omega)
    by_cases hat : ff (atP σ 1 x y) s 0 = -1 ∨ ff (atP σ 1 x y) s 0 = nI i
    · have at2 : ¬ ff (atP σ 1 x y) s 0 = -1 → ff (atP σ 1 x y) s 0 = nI i := fun z => hat.resolve_left z
      refine zi (L := [some (.ref 0), some (.int (nI i)), some (.int x), some (.int y), none, none]) rfl rfl (fun K hK => ?_)
      refine st_go hK rfl rfl ?_
      refine st_getr hK rfl qf_0_0 ?_
      refine st_go hK rfl rfl ?_
      refine cv1 hK rfl qc_1 (Nat.le_of_ble_eq_true rfl) ?_
      refine z_hasSink' hT1 es h8 (fun _ => ?_) (fun c => absurd hk c)
      change K _ _ (_ :: _) _
      refine st_if hK rfl rfl (fun c => absurd c (by decide)) (fun _ => ?_)
      refine st_go hK rfl rfl ?_
      refine st_go hK rfl rfl ?_
      refine cs2 hK rfl (Nat.le_of_ble_eq_true rfl) ?_
      refine z_onGrid (fun _ => ?_) (fun c => absurd hsp c)
      change K _ _ (_ :: _) _
      refine st_if hK rfl rfl (fun _ => ?_) (fun c => absurd (by decide) c)
      refine st_go hK rfl rfl ?_
      refine st_getr hK rfl qf_0_0 ?_
      refine st_go hK rfl rfl ?_
      refine st_go hK rfl rfl ?_
      refine cv2 hK rfl qc_1 (Nat.le_of_ble_eq_true rfl) ?_
      refine z_sinkAt hT1 es h8 ?_
      change K _ _ (_ :: _) _
      refine st_go hK rfl rfl ?_
      change K _ [some (.ref 0), some (.int (nI i)), some (.int x), some (.int y), some (.int (ff (atP σ 1 x y) s 0)), _] _ _
      refine st_go hK rfl rfl ?_
      refine st_go hK rfl rfl ?_
      refine st_if hK rfl rfl (fun c40 => ?_) (fun c40 => ?_)
      · refine st_go hK rfl rfl ?_
        refine st_getr hK rfl qf_0_0 ?_
        refine st_getr hK rfl qf_1_0 ?_
        refine st_go hK rfl rfl ?_
        refine ga (e := i) (v := σ 2 i) hK rfl qa_2 rfl (by omega) rfl rfl ?_
        refine st_go hK rfl rfl ?_
        refine st_getr hK rfl qf_0_0 ?_
        refine st_getr hK rfl qf_1_1 ?_
        refine st_go hK rfl rfl ?_
        refine ga (e := i) (v := σ 3 i) hK rfl qa_3 rfl (by omega) rfl rfl ?_
        refine st_go hK rfl rfl ?_
        refine st_go hK rfl rfl ?_
        refine cs4 hK rfl (Nat.le_of_ble_eq_true rfl) ?_
        refine z_gridDistance ?_
        change K _ _ (_ :: _) _
        refine st_go hK rfl rfl ?_
        change K _ [some (.ref 0), some (.int (nI i)), some (.int x), some (.int y), some (.int (ff (atP σ 1 x y) s 0)), some (.int (dsF (((σ 2 i) + (σ 3 i)) * 65536) (((σ 2 i) - (σ 3 i)) * 65536) ((x + y) * 65536) ((x - y) * 65536)))] _ _
        refine st_go hK rfl rfl ?_
        refine st_getr hK rfl qf_0_4 ?_
        refine st_go hK rfl rfl ?_
        refine st_getr hK rfl qf_0_0 ?_
        refine cv1 hK rfl qc_66 (Nat.le_of_ble_eq_true rfl) ?_
        refine z_save h661 hnx h662 hc (fun σ1 hS => ?_)
        change K _ _ _ _
        have s1 : ∀ p, p < 66 → σ1 p = σ p := fun p hp => hS.1 p (by omega) (by omega)
        have g1 : GT σ1 1 s := (te_of (fun j hj => s1 _ (by omega))).gt g
        have es1 : σ1 1 8 = nI s := g1.1.1
        refine st_go hK rfl rfl ?_
        refine st_getr hK rfl qf_0_0 ?_
        refine st_go hK rfl rfl ?_
        refine st_go hK rfl rfl ?_
        refine st_go hK rfl rfl ?_
        refine cv3 hK rfl qc_1 (Nat.le_of_ble_eq_true rfl) ?_
        have el : lastK (σ1 (1 + 5)) (nI i) s = a := by
          have := g1.2.2.last has
          rw [show σ1 (1 + 5) a = nI i from (congrFun (s1 6 (by decide)) a).trans ha] at this
          exact this
        refine z_moveSink hT1 es1 h8 (hSink_nI es1 h8 his) ?_
        rw [ecl, el]
        change K _ _ _ _
        refine st_go hK rfl rfl ?_
        refine cv0 hK rfl qc_0 (Nat.le_of_ble_eq_true rfl) ?_
        obtain ⟨σ2, hσ2⟩ : ∃ σ2, σ2 = (rowF (cw_up (cw_up σ1 2 i x) 3 i y) 6 (tchF (σ1 6) a (nI i))) := ⟨_, rfl⟩
        have b1 : σ2 1 = σ1 1 := by rw [hσ2]; simp [rowF, cw_up]
        have b2 : σ2 2 = upd (σ1 2) i x := by rw [hσ2]; simp [rowF, cw_up]
        have b3 : σ2 3 = upd (σ1 3) i y := by rw [hσ2]; simp [rowF, cw_up]
        have b4 : σ2 4 = σ1 4 := by rw [hσ2]; simp [rowF, cw_up]
        have b5 : σ2 5 = σ1 5 := by rw [hσ2]; simp [rowF, cw_up]
        have b6 : σ2 6 = tchF (σ1 6) a (nI i) := by rw [hσ2]; simp [rowF, cw_up]
        have b7 : σ2 7 = σ1 7 := by rw [hσ2]; simp [rowF, cw_up]
        have b8 : σ2 8 = σ1 8 := by rw [hσ2]; simp [rowF, cw_up]
        have b9 : σ2 9 = σ1 9 := by rw [hσ2]; simp [rowF, cw_up]
        have hf : ∀ p, (p < 1 ∨ 9 < p) → (rowF (cw_up (cw_up σ1 2 i x) 3 i y) 6 (tchF (σ1 6) a (nI i))) p = σ1 p := fun p hp => by rw [row_ne (by omega), up_ne (by omega), up_ne (by omega)]
        have hG : GT (rowF (cw_up (cw_up σ1 2 i x) 3 i y) 6 (tchF (σ1 6) a (nI i))) 1 s := gt_end g1 has (by rw [row_ne (by decide), up_ne (by decide), up_ne (by decide)]) (by rw [row_eq, s1 6 (by decide), ha]) (by rw [row_ne (by decide), up_ne (by decide), up_ne (by decide)]) (by rw [row_ne (by decide), up_ne (by decide), up_ne (by decide)]) (by rw [row_ne (by decide), up_ne (by decide), up_ne (by decide)]) (fun k hk => by
          obtain ⟨w1, w2, w3, w4⟩ := g1.2.1.1 k hk
          rw [row_ne (by decide), up_ne (by decide), up_eq, row_ne (by decide), up_eq, row_ne (by decide), up_ne (by decide), up_ne (by decide), row_ne (by decide), up_ne (by decide), up_ne (by decide)]
          exact ⟨upd_r (P := fun x => 0 ≤ x.toInt ∧ x.toInt ≤ 63) w1 r1, upd_r (P := fun x => 0 ≤ x.toInt ∧ x.toInt ≤ 63) w2 r2, w3, w4⟩)
        refine z_cfin hS hnx hf hG (fun τ lam2 hC sr => ?_)
        rw [← hσ2] at sr
        change K _ _ _ _
        refine st_go hK rfl rfl ?_
        refine st_ret hK rfl rfl ?_
        obtain ⟨mw2, te2, l2, k2, mv2⟩ := hI.mf (τ := τ) (fun p hp => hC.1 p (by omega))
        refine zi (L := [some (.ref 146), some (.int (nI i)), some (.int x), some (.int y), none, none]) rfl rfl (fun K2 hK2 => ?_)
        refine st_go hK2 rfl rfl ?_
        refine st_go hK2 rfl rfl ?_
        refine cv1 hK2 rfl qc_146 (Nat.le_of_ble_eq_true rfl) ?_
        refine z_misSink mw2.1 h8 (fun _ => ?_) (fun c => absurd hk c)
        change K2 _ _ (_ :: _) _
        refine st_if hK2 rfl rfl (fun c => absurd c (by decide)) (fun _ => ?_)
        refine st_go hK2 rfl rfl ?_
        refine st_go hK2 rfl rfl ?_
        refine cs2 hK2 rfl (Nat.le_of_ble_eq_true rfl) ?_
        refine z_misSpot (fun _ => ?_) (fun c => absurd hsp c)
        change K2 _ _ (_ :: _) _
        refine st_if hK2 rfl rfl (fun _ => ?_) (fun c => absurd (by decide) c)
        refine st_go hK2 rfl rfl ?_
        refine st_go hK2 rfl rfl ?_
        refine st_go hK2 rfl rfl ?_
        refine cv2 hK2 rfl qc_146 (Nat.le_of_ble_eq_true rfl) ?_
        refine z_misAt mw2.1 h8 ?_
        rw [at_eq te2 h8]
        change K2 _ _ (_ :: _) _
        refine st_go hK2 rfl rfl ?_
        change K2 _ [some (.ref 146), some (.int (nI i)), some (.int x), some (.int y), some (.int (ff (atP σ 1 x y) s 0)), _] _ _
        refine st_go hK2 rfl rfl ?_
        refine st_go hK2 rfl rfl ?_
        refine st_if hK2 rfl rfl (fun c32 => ?_) (fun c32 => ?_)
        · refine st_go hK2 rfl rfl ?_
          refine cv0 hK2 rfl qc_146 (Nat.le_of_ble_eq_true rfl) ?_
          refine z_leaves k2 hc (fun υ hL => ?_)
          change K2 _ _ _ _
          obtain ⟨mw3, mv3⟩ := hL.mf mw2
          have te3 : TE (mv υ) 1 σ 1 := by rw [mv3]; exact te2
          have l3 : υ 146 6 = nI s := (hL.2.1 6 (by decide)).trans l2
          refine st_go hK2 rfl rfl ?_
          refine st_go hK2 rfl rfl ?_
          refine st_go hK2 rfl rfl ?_
          refine st_getr hK2 rfl qf_146_2 ?_
          refine st_go hK2 rfl rfl ?_
          refine st_go hK2 rfl rfl ?_
          refine bnv hK2 rfl (show _ = nI (4 * i) from nI_mul 4 i) ?_
          refine ga (e := 4 * i) (v := υ 148 (4 * i)) hK2 rfl qa_148 rfl (by omega) rfl rfl ?_
          refine st_go hK2 rfl rfl ?_
          refine st_getr hK2 rfl qf_146_2 ?_
          refine st_go hK2 rfl rfl ?_
          refine st_go hK2 rfl rfl ?_
          refine bnv hK2 rfl (show _ = nI (4 * i) from nI_mul 4 i) ?_
          refine st_go hK2 rfl rfl ?_
          refine bnv hK2 rfl (show _ = nI ((4 * i) + 1) from nI_add (4 * i) 1) ?_
          refine ga (e := (4 * i) + 1) (v := υ 148 ((4 * i) + 1)) hK2 rfl qa_148 rfl (by omega) rfl rfl ?_
          refine cs4 hK2 rfl (Nat.le_of_ble_eq_true rfl) ?_
          refine z_apart ?_
          change K2 _ _ (_ :: _) _
          refine st_go hK2 rfl rfl ?_
          change K2 _ [some (.ref 146), some (.int (nI i)), some (.int x), some (.int y), some (.int (ff (atP σ 1 x y) s 0)), some (.int (mx (ab (x + y - (υ 148 (4 * i)) - (υ 148 ((4 * i) + 1)))) (ab (x - y - (υ 148 (4 * i)) + (υ 148 ((4 * i) + 1)))) * 65536))] _ _
          refine st_go hK2 rfl rfl ?_
          refine st_getr hK2 rfl qf_146_2 ?_
          refine st_go hK2 rfl rfl ?_
          refine st_go hK2 rfl rfl ?_
          refine bnv hK2 rfl (show _ = nI (4 * i) from nI_mul 4 i) ?_
          refine st_go hK2 rfl rfl ?_
          refine sa (e := 4 * i) hK2 rfl qa_148 rfl (by omega) rfl ?_
          refine st_go hK2 rfl rfl ?_
          refine st_getr hK2 rfl qf_146_2 ?_
          refine st_go hK2 rfl rfl ?_
          refine st_go hK2 rfl rfl ?_
          refine bnv hK2 rfl (show _ = nI (4 * i) from nI_mul 4 i) ?_
          refine st_go hK2 rfl rfl ?_
          refine bnv hK2 rfl (show _ = nI ((4 * i) + 1) from nI_add (4 * i) 1) ?_
          refine st_go hK2 rfl rfl ?_
          refine sa (e := (4 * i) + 1) hK2 rfl qa_148 rfl (by omega) rfl ?_
          refine st_go hK2 rfl rfl ?_
          refine st_go hK2 rfl rfl ?_
          refine cv1 hK2 rfl qc_146 (Nat.le_of_ble_eq_true rfl) ?_
          have t149 : (cw_up (cw_up υ 148 (4 * i) x) 148 ((4 * i) + 1) y) 149 = υ 149 := by rw [up_ne (by decide), up_ne (by decide)]
          refine z_touches (n := s) (a := a) (by rw [up_ne (by decide), up_ne (by decide), l3]) h8 (by omega) (by omega) (fun i hi => by rw [t149]; exact fun z => hne i hi ((show υ 149 i = σ 149 i from (congrFun (hL.1 149 (by decide) (by decide)) _).trans (congrFun (hC.1 149 (by omega)) _)).symm.trans z)) (fun hi => by rw [t149]; exact ((show υ 149 a = σ 149 a from (congrFun (hL.1 149 (by decide) (by decide)) _).trans (congrFun (hC.1 149 (by omega)) _))).trans heq) ?_
          rw [t149]
          change K2 _ _ _ _
          refine st_go hK2 rfl rfl ?_
          refine st_ret hK2 rfl rfl ?_
          obtain ⟨υ2, hυ2⟩ : ∃ υ2, υ2 = (rowF (cw_up (cw_up (cw_up υ 148 (4 * i) x) 148 ((4 * i) + 1) y) 146 6 (nI (if a = s then s + 1 else s))) 149 (tchF (υ 149) a (nI i))) := ⟨_, rfl⟩
          rw [← hυ2]
          have e148 : υ2 148 = upd (upd (υ 148) (4 * i) x) (4 * i + 1) y := by rw [hυ2]; simp [rowF, cw_up]
          have e149' : υ2 149 = tchF (υ 149) a (nI i) := by rw [hυ2, row_eq]
          have ak : ∀ k, υ2 146 k = υ 146 k := fun k => by
            rw [hυ2]
            have an : ¬ a = s := by omega
            by_cases z : k = 6
            · subst z; simp [rowF, cw_up, upd, an, l3]
            · simp [rowF, cw_up, upd, z]
          have ap : ∀ p, p ≠ 146 → p ≠ 148 → p ≠ 149 → υ2 p = υ p := fun p p0 p1 p2 => by
            rw [hυ2, row_ne p2, up_ne p0]
            repeat rw [up_ne p1]
          have t3 : TE (mv υ) 1 σ1 1 := te3.trans (te_of (fun j hj => s1 _ (by omega))).symm
          have hTE : TE (mv υ2) 1 σ2 1 := by
            refine te_mk (fun j hj => ?_) (fun j hj => ?_) (fun j hj => ?_) (fun j hj => ?_) (fun j hj => ?_) (fun j hj => ?_) (fun j hj => ?_) (fun j hj => ?_) ?_ ?_ ?_ ?_
            · show υ2 148 (4 * j) = σ2 2 j
              have t : υ 148 (4 * j) = σ1 2 j := t3.lo (i := 1) (by decide) (by decide) hj
              rw [e148, b2]
              unfold upd
              (repeat' split) <;> first | rfl | exact t | omega
            · show υ2 148 (4 * j + 1) = σ2 3 j
              have t : υ 148 (4 * j + 1) = σ1 3 j := t3.lo (i := 2) (by decide) (by decide) hj
              rw [e148, b3]
              unfold upd
              (repeat' split) <;> first | rfl | exact t | omega
            · show υ2 148 (4 * j + 2) = σ2 4 j
              have t : υ 148 (4 * j + 2) = σ1 4 j := t3.lo (i := 3) (by decide) (by decide) hj
              rw [e148, b4]
              unfold upd
              (repeat' split) <;> first | rfl | exact t | omega
            · show υ2 148 (4 * j + 3) = σ2 5 j
              have t : υ 148 (4 * j + 3) = σ1 5 j := t3.lo (i := 4) (by decide) (by decide) hj
              rw [e148, b5]
              unfold upd
              (repeat' split) <;> first | rfl | exact t | omega
            · show υ2 149 j = σ2 6 j
              rw [e149', b6, tch_at, tch_at]
              have t : ∀ q, q < 8 → υ 149 q = σ1 6 q := fun q hq => t3.lo (i := 5) (by decide) (by decide) hq
              rw [t j hj, t (j - 1) (by omega)]
            · show υ2 151 j = σ2 7 j
              rw [ap 151 (by decide) (by decide) (by decide), b7]; exact t3.hi (i := 6) (by decide) (by decide) hj
            · show υ2 152 j = σ2 8 j
              rw [ap 152 (by decide) (by decide) (by decide), b8]; exact t3.hi (i := 7) (by decide) (by decide) hj
            · show υ2 153 j = σ2 9 j
              rw [ap 153 (by decide) (by decide) (by decide), b9]; exact t3.hi (i := 8) (by decide) (by decide) hj
            · exact ((ak 1).trans t3.e8).trans (by rw [b1])
            · exact ((ak 3).trans t3.e9).trans (by rw [b1])
            · exact ((ak 4).trans (t3.2.2 10 (by decide) (by decide))).trans (by rw [b1])
            · exact ((ak 5).trans (t3.2.2 11 (by decide) (by decide))).trans (by rw [b1])
          have ev1 : υ 148 (4 * i) = σ 2 i := te3.lo (i := 1) (by decide) (by decide) (by omega)
          have ev2 : υ 148 (4 * i + 1) = σ 3 i := te3.lo (i := 2) (by decide) (by decide) (by omega)
          have vr := g.2.1.1 i his
          have eap := apart_eq vr.1 vr.2.1 r1 r2
          rw [ev1, ev2, eap]
          exact Res.mk (hI.chg hC (mch_of hL (fun p hp => ap p (by omega) (by omega) (by omega)) (ak 36) (ak 13) (mw3.cg (ak 1) (fun p h1 h2 => ap p (by omega) (by omega) (by omega))) ((ak 6).trans l3)) (hTE.trans sr.te.symm))
        · refine st_go hK2 rfl rfl ?_
          refine st_go hK2 rfl rfl ?_
          refine st_if hK2 rfl rfl (fun _ => ?_) (fun c => absurd (at2 c32) c)
          refine st_go hK2 rfl rfl ?_
          refine cv0 hK2 rfl qc_146 (Nat.le_of_ble_eq_true rfl) ?_
          refine z_leaves k2 hc (fun υ hL => ?_)
          change K2 _ _ _ _
          obtain ⟨mw3, mv3⟩ := hL.mf mw2
          have te3 : TE (mv υ) 1 σ 1 := by rw [mv3]; exact te2
          have l3 : υ 146 6 = nI s := (hL.2.1 6 (by decide)).trans l2
          refine st_go hK2 rfl rfl ?_
          refine st_go hK2 rfl rfl ?_
          refine st_go hK2 rfl rfl ?_
          refine st_getr hK2 rfl qf_146_2 ?_
          refine st_go hK2 rfl rfl ?_
          refine st_go hK2 rfl rfl ?_
          refine bnv hK2 rfl (show _ = nI (4 * i) from nI_mul 4 i) ?_
          refine ga (e := 4 * i) (v := υ 148 (4 * i)) hK2 rfl qa_148 rfl (by omega) rfl rfl ?_
          refine st_go hK2 rfl rfl ?_
          refine st_getr hK2 rfl qf_146_2 ?_
          refine st_go hK2 rfl rfl ?_
          refine st_go hK2 rfl rfl ?_
          refine bnv hK2 rfl (show _ = nI (4 * i) from nI_mul 4 i) ?_
          refine st_go hK2 rfl rfl ?_
          refine bnv hK2 rfl (show _ = nI ((4 * i) + 1) from nI_add (4 * i) 1) ?_
          refine ga (e := (4 * i) + 1) (v := υ 148 ((4 * i) + 1)) hK2 rfl qa_148 rfl (by omega) rfl rfl ?_
          refine cs4 hK2 rfl (Nat.le_of_ble_eq_true rfl) ?_
          refine z_apart ?_
          change K2 _ _ (_ :: _) _
          refine st_go hK2 rfl rfl ?_
          change K2 _ [some (.ref 146), some (.int (nI i)), some (.int x), some (.int y), some (.int (ff (atP σ 1 x y) s 0)), some (.int (mx (ab (x + y - (υ 148 (4 * i)) - (υ 148 ((4 * i) + 1)))) (ab (x - y - (υ 148 (4 * i)) + (υ 148 ((4 * i) + 1)))) * 65536))] _ _
          refine st_go hK2 rfl rfl ?_
          refine st_getr hK2 rfl qf_146_2 ?_
          refine st_go hK2 rfl rfl ?_
          refine st_go hK2 rfl rfl ?_
          refine bnv hK2 rfl (show _ = nI (4 * i) from nI_mul 4 i) ?_
          refine st_go hK2 rfl rfl ?_
          refine sa (e := 4 * i) hK2 rfl qa_148 rfl (by omega) rfl ?_
          refine st_go hK2 rfl rfl ?_
          refine st_getr hK2 rfl qf_146_2 ?_
          refine st_go hK2 rfl rfl ?_
          refine st_go hK2 rfl rfl ?_
          refine bnv hK2 rfl (show _ = nI (4 * i) from nI_mul 4 i) ?_
          refine st_go hK2 rfl rfl ?_
          refine bnv hK2 rfl (show _ = nI ((4 * i) + 1) from nI_add (4 * i) 1) ?_
          refine st_go hK2 rfl rfl ?_
          refine sa (e := (4 * i) + 1) hK2 rfl qa_148 rfl (by omega) rfl ?_
          refine st_go hK2 rfl rfl ?_
          refine st_go hK2 rfl rfl ?_
          refine cv1 hK2 rfl qc_146 (Nat.le_of_ble_eq_true rfl) ?_
          have t149 : (cw_up (cw_up υ 148 (4 * i) x) 148 ((4 * i) + 1) y) 149 = υ 149 := by rw [up_ne (by decide), up_ne (by decide)]
          refine z_touches (n := s) (a := a) (by rw [up_ne (by decide), up_ne (by decide), l3]) h8 (by omega) (by omega) (fun i hi => by rw [t149]; exact fun z => hne i hi ((show υ 149 i = σ 149 i from (congrFun (hL.1 149 (by decide) (by decide)) _).trans (congrFun (hC.1 149 (by omega)) _)).symm.trans z)) (fun hi => by rw [t149]; exact ((show υ 149 a = σ 149 a from (congrFun (hL.1 149 (by decide) (by decide)) _).trans (congrFun (hC.1 149 (by omega)) _))).trans heq) ?_
          rw [t149]
          change K2 _ _ _ _
          refine st_go hK2 rfl rfl ?_
          refine st_ret hK2 rfl rfl ?_
          obtain ⟨υ2, hυ2⟩ : ∃ υ2, υ2 = (rowF (cw_up (cw_up (cw_up υ 148 (4 * i) x) 148 ((4 * i) + 1) y) 146 6 (nI (if a = s then s + 1 else s))) 149 (tchF (υ 149) a (nI i))) := ⟨_, rfl⟩
          rw [← hυ2]
          have e148 : υ2 148 = upd (upd (υ 148) (4 * i) x) (4 * i + 1) y := by rw [hυ2]; simp [rowF, cw_up]
          have e149' : υ2 149 = tchF (υ 149) a (nI i) := by rw [hυ2, row_eq]
          have ak : ∀ k, υ2 146 k = υ 146 k := fun k => by
            rw [hυ2]
            have an : ¬ a = s := by omega
            by_cases z : k = 6
            · subst z; simp [rowF, cw_up, upd, an, l3]
            · simp [rowF, cw_up, upd, z]
          have ap : ∀ p, p ≠ 146 → p ≠ 148 → p ≠ 149 → υ2 p = υ p := fun p p0 p1 p2 => by
            rw [hυ2, row_ne p2, up_ne p0]
            repeat rw [up_ne p1]
          have t3 : TE (mv υ) 1 σ1 1 := te3.trans (te_of (fun j hj => s1 _ (by omega))).symm
          have hTE : TE (mv υ2) 1 σ2 1 := by
            refine te_mk (fun j hj => ?_) (fun j hj => ?_) (fun j hj => ?_) (fun j hj => ?_) (fun j hj => ?_) (fun j hj => ?_) (fun j hj => ?_) (fun j hj => ?_) ?_ ?_ ?_ ?_
            · show υ2 148 (4 * j) = σ2 2 j
              have t : υ 148 (4 * j) = σ1 2 j := t3.lo (i := 1) (by decide) (by decide) hj
              rw [e148, b2]
              unfold upd
              (repeat' split) <;> first | rfl | exact t | omega
            · show υ2 148 (4 * j + 1) = σ2 3 j
              have t : υ 148 (4 * j + 1) = σ1 3 j := t3.lo (i := 2) (by decide) (by decide) hj
              rw [e148, b3]
              unfold upd
              (repeat' split) <;> first | rfl | exact t | omega
            · show υ2 148 (4 * j + 2) = σ2 4 j
              have t : υ 148 (4 * j + 2) = σ1 4 j := t3.lo (i := 3) (by decide) (by decide) hj
              rw [e148, b4]
              unfold upd
              (repeat' split) <;> first | rfl | exact t | omega
            · show υ2 148 (4 * j + 3) = σ2 5 j
              have t : υ 148 (4 * j + 3) = σ1 5 j := t3.lo (i := 4) (by decide) (by decide) hj
              rw [e148, b5]
              unfold upd
              (repeat' split) <;> first | rfl | exact t | omega
            · show υ2 149 j = σ2 6 j
              rw [e149', b6, tch_at, tch_at]
              have t : ∀ q, q < 8 → υ 149 q = σ1 6 q := fun q hq => t3.lo (i := 5) (by decide) (by decide) hq
              rw [t j hj, t (j - 1) (by omega)]
            · show υ2 151 j = σ2 7 j
              rw [ap 151 (by decide) (by decide) (by decide), b7]; exact t3.hi (i := 6) (by decide) (by decide) hj
            · show υ2 152 j = σ2 8 j
              rw [ap 152 (by decide) (by decide) (by decide), b8]; exact t3.hi (i := 7) (by decide) (by decide) hj
            · show υ2 153 j = σ2 9 j
              rw [ap 153 (by decide) (by decide) (by decide), b9]; exact t3.hi (i := 8) (by decide) (by decide) hj
            · exact ((ak 1).trans t3.e8).trans (by rw [b1])
            · exact ((ak 3).trans t3.e9).trans (by rw [b1])
            · exact ((ak 4).trans (t3.2.2 10 (by decide) (by decide))).trans (by rw [b1])
            · exact ((ak 5).trans (t3.2.2 11 (by decide) (by decide))).trans (by rw [b1])
          have ev1 : υ 148 (4 * i) = σ 2 i := te3.lo (i := 1) (by decide) (by decide) (by omega)
          have ev2 : υ 148 (4 * i + 1) = σ 3 i := te3.lo (i := 2) (by decide) (by decide) (by omega)
          have vr := g.2.1.1 i his
          have eap := apart_eq vr.1 vr.2.1 r1 r2
          rw [ev1, ev2, eap]
          exact Res.mk (hI.chg hC (mch_of hL (fun p hp => ap p (by omega) (by omega) (by omega)) (ak 36) (ak 13) (mw3.cg (ak 1) (fun p h1 h2 => ap p (by omega) (by omega) (by omega))) ((ak 6).trans l3)) (hTE.trans sr.te.symm))
      · refine st_go hK rfl rfl ?_
        refine st_go hK rfl rfl ?_
        refine st_if hK rfl rfl (fun _ => ?_) (fun c => absurd (at2 c40) c)
        refine st_go hK rfl rfl ?_
        refine st_getr hK rfl qf_0_0 ?_
        refine st_getr hK rfl qf_1_0 ?_
        refine st_go hK rfl rfl ?_
        refine ga (e := i) (v := σ 2 i) hK rfl qa_2 rfl (by omega) rfl rfl ?_
        refine st_go hK rfl rfl ?_
        refine st_getr hK rfl qf_0_0 ?_
        refine st_getr hK rfl qf_1_1 ?_
        refine st_go hK rfl rfl ?_
        refine ga (e := i) (v := σ 3 i) hK rfl qa_3 rfl (by omega) rfl rfl ?_
        refine st_go hK rfl rfl ?_
        refine st_go hK rfl rfl ?_
        refine cs4 hK rfl (Nat.le_of_ble_eq_true rfl) ?_
        refine z_gridDistance ?_
        change K _ _ (_ :: _) _
        refine st_go hK rfl rfl ?_
        change K _ [some (.ref 0), some (.int (nI i)), some (.int x), some (.int y), some (.int (ff (atP σ 1 x y) s 0)), some (.int (dsF (((σ 2 i) + (σ 3 i)) * 65536) (((σ 2 i) - (σ 3 i)) * 65536) ((x + y) * 65536) ((x - y) * 65536)))] _ _
        refine st_go hK rfl rfl ?_
        refine st_getr hK rfl qf_0_4 ?_
        refine st_go hK rfl rfl ?_
        refine st_getr hK rfl qf_0_0 ?_
        refine cv1 hK rfl qc_66 (Nat.le_of_ble_eq_true rfl) ?_
        refine z_save h661 hnx h662 hc (fun σ1 hS => ?_)
        change K _ _ _ _
        have s1 : ∀ p, p < 66 → σ1 p = σ p := fun p hp => hS.1 p (by omega) (by omega)
        have g1 : GT σ1 1 s := (te_of (fun j hj => s1 _ (by omega))).gt g
        have es1 : σ1 1 8 = nI s := g1.1.1
        refine st_go hK rfl rfl ?_
        refine st_getr hK rfl qf_0_0 ?_
        refine st_go hK rfl rfl ?_
        refine st_go hK rfl rfl ?_
        refine st_go hK rfl rfl ?_
        refine cv3 hK rfl qc_1 (Nat.le_of_ble_eq_true rfl) ?_
        have el : lastK (σ1 (1 + 5)) (nI i) s = a := by
          have := g1.2.2.last has
          rw [show σ1 (1 + 5) a = nI i from (congrFun (s1 6 (by decide)) a).trans ha] at this
          exact this
        refine z_moveSink hT1 es1 h8 (hSink_nI es1 h8 his) ?_
        rw [ecl, el]
        change K _ _ _ _
        refine st_go hK rfl rfl ?_
        refine cv0 hK rfl qc_0 (Nat.le_of_ble_eq_true rfl) ?_
        obtain ⟨σ2, hσ2⟩ : ∃ σ2, σ2 = (rowF (cw_up (cw_up σ1 2 i x) 3 i y) 6 (tchF (σ1 6) a (nI i))) := ⟨_, rfl⟩
        have b1 : σ2 1 = σ1 1 := by rw [hσ2]; simp [rowF, cw_up]
        have b2 : σ2 2 = upd (σ1 2) i x := by rw [hσ2]; simp [rowF, cw_up]
        have b3 : σ2 3 = upd (σ1 3) i y := by rw [hσ2]; simp [rowF, cw_up]
        have b4 : σ2 4 = σ1 4 := by rw [hσ2]; simp [rowF, cw_up]
        have b5 : σ2 5 = σ1 5 := by rw [hσ2]; simp [rowF, cw_up]
        have b6 : σ2 6 = tchF (σ1 6) a (nI i) := by rw [hσ2]; simp [rowF, cw_up]
        have b7 : σ2 7 = σ1 7 := by rw [hσ2]; simp [rowF, cw_up]
        have b8 : σ2 8 = σ1 8 := by rw [hσ2]; simp [rowF, cw_up]
        have b9 : σ2 9 = σ1 9 := by rw [hσ2]; simp [rowF, cw_up]
        have hf : ∀ p, (p < 1 ∨ 9 < p) → (rowF (cw_up (cw_up σ1 2 i x) 3 i y) 6 (tchF (σ1 6) a (nI i))) p = σ1 p := fun p hp => by rw [row_ne (by omega), up_ne (by omega), up_ne (by omega)]
        have hG : GT (rowF (cw_up (cw_up σ1 2 i x) 3 i y) 6 (tchF (σ1 6) a (nI i))) 1 s := gt_end g1 has (by rw [row_ne (by decide), up_ne (by decide), up_ne (by decide)]) (by rw [row_eq, s1 6 (by decide), ha]) (by rw [row_ne (by decide), up_ne (by decide), up_ne (by decide)]) (by rw [row_ne (by decide), up_ne (by decide), up_ne (by decide)]) (by rw [row_ne (by decide), up_ne (by decide), up_ne (by decide)]) (fun k hk => by
          obtain ⟨w1, w2, w3, w4⟩ := g1.2.1.1 k hk
          rw [row_ne (by decide), up_ne (by decide), up_eq, row_ne (by decide), up_eq, row_ne (by decide), up_ne (by decide), up_ne (by decide), row_ne (by decide), up_ne (by decide), up_ne (by decide)]
          exact ⟨upd_r (P := fun x => 0 ≤ x.toInt ∧ x.toInt ≤ 63) w1 r1, upd_r (P := fun x => 0 ≤ x.toInt ∧ x.toInt ≤ 63) w2 r2, w3, w4⟩)
        refine z_cfin hS hnx hf hG (fun τ lam2 hC sr => ?_)
        rw [← hσ2] at sr
        change K _ _ _ _
        refine st_go hK rfl rfl ?_
        refine st_ret hK rfl rfl ?_
        obtain ⟨mw2, te2, l2, k2, mv2⟩ := hI.mf (τ := τ) (fun p hp => hC.1 p (by omega))
        refine zi (L := [some (.ref 146), some (.int (nI i)), some (.int x), some (.int y), none, none]) rfl rfl (fun K2 hK2 => ?_)
        refine st_go hK2 rfl rfl ?_
        refine st_go hK2 rfl rfl ?_
        refine cv1 hK2 rfl qc_146 (Nat.le_of_ble_eq_true rfl) ?_
        refine z_misSink mw2.1 h8 (fun _ => ?_) (fun c => absurd hk c)
        change K2 _ _ (_ :: _) _
        refine st_if hK2 rfl rfl (fun c => absurd c (by decide)) (fun _ => ?_)
        refine st_go hK2 rfl rfl ?_
        refine st_go hK2 rfl rfl ?_
        refine cs2 hK2 rfl (Nat.le_of_ble_eq_true rfl) ?_
        refine z_misSpot (fun _ => ?_) (fun c => absurd hsp c)
        change K2 _ _ (_ :: _) _
        refine st_if hK2 rfl rfl (fun _ => ?_) (fun c => absurd (by decide) c)
        refine st_go hK2 rfl rfl ?_
        refine st_go hK2 rfl rfl ?_
        refine st_go hK2 rfl rfl ?_
        refine cv2 hK2 rfl qc_146 (Nat.le_of_ble_eq_true rfl) ?_
        refine z_misAt mw2.1 h8 ?_
        rw [at_eq te2 h8]
        change K2 _ _ (_ :: _) _
        refine st_go hK2 rfl rfl ?_
        change K2 _ [some (.ref 146), some (.int (nI i)), some (.int x), some (.int y), some (.int (ff (atP σ 1 x y) s 0)), _] _ _
        refine st_go hK2 rfl rfl ?_
        refine st_go hK2 rfl rfl ?_
        refine st_if hK2 rfl rfl (fun c32 => ?_) (fun c32 => ?_)
        · refine st_go hK2 rfl rfl ?_
          refine cv0 hK2 rfl qc_146 (Nat.le_of_ble_eq_true rfl) ?_
          refine z_leaves k2 hc (fun υ hL => ?_)
          change K2 _ _ _ _
          obtain ⟨mw3, mv3⟩ := hL.mf mw2
          have te3 : TE (mv υ) 1 σ 1 := by rw [mv3]; exact te2
          have l3 : υ 146 6 = nI s := (hL.2.1 6 (by decide)).trans l2
          refine st_go hK2 rfl rfl ?_
          refine st_go hK2 rfl rfl ?_
          refine st_go hK2 rfl rfl ?_
          refine st_getr hK2 rfl qf_146_2 ?_
          refine st_go hK2 rfl rfl ?_
          refine st_go hK2 rfl rfl ?_
          refine bnv hK2 rfl (show _ = nI (4 * i) from nI_mul 4 i) ?_
          refine ga (e := 4 * i) (v := υ 148 (4 * i)) hK2 rfl qa_148 rfl (by omega) rfl rfl ?_
          refine st_go hK2 rfl rfl ?_
          refine st_getr hK2 rfl qf_146_2 ?_
          refine st_go hK2 rfl rfl ?_
          refine st_go hK2 rfl rfl ?_
          refine bnv hK2 rfl (show _ = nI (4 * i) from nI_mul 4 i) ?_
          refine st_go hK2 rfl rfl ?_
          refine bnv hK2 rfl (show _ = nI ((4 * i) + 1) from nI_add (4 * i) 1) ?_
          refine ga (e := (4 * i) + 1) (v := υ 148 ((4 * i) + 1)) hK2 rfl qa_148 rfl (by omega) rfl rfl ?_
          refine cs4 hK2 rfl (Nat.le_of_ble_eq_true rfl) ?_
          refine z_apart ?_
          change K2 _ _ (_ :: _) _
          refine st_go hK2 rfl rfl ?_
          change K2 _ [some (.ref 146), some (.int (nI i)), some (.int x), some (.int y), some (.int (ff (atP σ 1 x y) s 0)), some (.int (mx (ab (x + y - (υ 148 (4 * i)) - (υ 148 ((4 * i) + 1)))) (ab (x - y - (υ 148 (4 * i)) + (υ 148 ((4 * i) + 1)))) * 65536))] _ _
          refine st_go hK2 rfl rfl ?_
          refine st_getr hK2 rfl qf_146_2 ?_
          refine st_go hK2 rfl rfl ?_
          refine st_go hK2 rfl rfl ?_
          refine bnv hK2 rfl (show _ = nI (4 * i) from nI_mul 4 i) ?_
          refine st_go hK2 rfl rfl ?_
          refine sa (e := 4 * i) hK2 rfl qa_148 rfl (by omega) rfl ?_
          refine st_go hK2 rfl rfl ?_
          refine st_getr hK2 rfl qf_146_2 ?_
          refine st_go hK2 rfl rfl ?_
          refine st_go hK2 rfl rfl ?_
          refine bnv hK2 rfl (show _ = nI (4 * i) from nI_mul 4 i) ?_
          refine st_go hK2 rfl rfl ?_
          refine bnv hK2 rfl (show _ = nI ((4 * i) + 1) from nI_add (4 * i) 1) ?_
          refine st_go hK2 rfl rfl ?_
          refine sa (e := (4 * i) + 1) hK2 rfl qa_148 rfl (by omega) rfl ?_
          refine st_go hK2 rfl rfl ?_
          refine st_go hK2 rfl rfl ?_
          refine cv1 hK2 rfl qc_146 (Nat.le_of_ble_eq_true rfl) ?_
          have t149 : (cw_up (cw_up υ 148 (4 * i) x) 148 ((4 * i) + 1) y) 149 = υ 149 := by rw [up_ne (by decide), up_ne (by decide)]
          refine z_touches (n := s) (a := a) (by rw [up_ne (by decide), up_ne (by decide), l3]) h8 (by omega) (by omega) (fun i hi => by rw [t149]; exact fun z => hne i hi ((show υ 149 i = σ 149 i from (congrFun (hL.1 149 (by decide) (by decide)) _).trans (congrFun (hC.1 149 (by omega)) _)).symm.trans z)) (fun hi => by rw [t149]; exact ((show υ 149 a = σ 149 a from (congrFun (hL.1 149 (by decide) (by decide)) _).trans (congrFun (hC.1 149 (by omega)) _))).trans heq) ?_
          rw [t149]
          change K2 _ _ _ _
          refine st_go hK2 rfl rfl ?_
          refine st_ret hK2 rfl rfl ?_
          obtain ⟨υ2, hυ2⟩ : ∃ υ2, υ2 = (rowF (cw_up (cw_up (cw_up υ 148 (4 * i) x) 148 ((4 * i) + 1) y) 146 6 (nI (if a = s then s + 1 else s))) 149 (tchF (υ 149) a (nI i))) := ⟨_, rfl⟩
          rw [← hυ2]
          have e148 : υ2 148 = upd (upd (υ 148) (4 * i) x) (4 * i + 1) y := by rw [hυ2]; simp [rowF, cw_up]
          have e149' : υ2 149 = tchF (υ 149) a (nI i) := by rw [hυ2, row_eq]
          have ak : ∀ k, υ2 146 k = υ 146 k := fun k => by
            rw [hυ2]
            have an : ¬ a = s := by omega
            by_cases z : k = 6
            · subst z; simp [rowF, cw_up, upd, an, l3]
            · simp [rowF, cw_up, upd, z]
          have ap : ∀ p, p ≠ 146 → p ≠ 148 → p ≠ 149 → υ2 p = υ p := fun p p0 p1 p2 => by
            rw [hυ2, row_ne p2, up_ne p0]
            repeat rw [up_ne p1]
          have t3 : TE (mv υ) 1 σ1 1 := te3.trans (te_of (fun j hj => s1 _ (by omega))).symm
          have hTE : TE (mv υ2) 1 σ2 1 := by
            refine te_mk (fun j hj => ?_) (fun j hj => ?_) (fun j hj => ?_) (fun j hj => ?_) (fun j hj => ?_) (fun j hj => ?_) (fun j hj => ?_) (fun j hj => ?_) ?_ ?_ ?_ ?_
            · show υ2 148 (4 * j) = σ2 2 j
              have t : υ 148 (4 * j) = σ1 2 j := t3.lo (i := 1) (by decide) (by decide) hj
              rw [e148, b2]
              unfold upd
              (repeat' split) <;> first | rfl | exact t | omega
            · show υ2 148 (4 * j + 1) = σ2 3 j
              have t : υ 148 (4 * j + 1) = σ1 3 j := t3.lo (i := 2) (by decide) (by decide) hj
              rw [e148, b3]
              unfold upd
              (repeat' split) <;> first | rfl | exact t | omega
            · show υ2 148 (4 * j + 2) = σ2 4 j
              have t : υ 148 (4 * j + 2) = σ1 4 j := t3.lo (i := 3) (by decide) (by decide) hj
              rw [e148, b4]
              unfold upd
              (repeat' split) <;> first | rfl | exact t | omega
            · show υ2 148 (4 * j + 3) = σ2 5 j
              have t : υ 148 (4 * j + 3) = σ1 5 j := t3.lo (i := 4) (by decide) (by decide) hj
              rw [e148, b5]
              unfold upd
              (repeat' split) <;> first | rfl | exact t | omega
            · show υ2 149 j = σ2 6 j
              rw [e149', b6, tch_at, tch_at]
              have t : ∀ q, q < 8 → υ 149 q = σ1 6 q := fun q hq => t3.lo (i := 5) (by decide) (by decide) hq
              rw [t j hj, t (j - 1) (by omega)]
            · show υ2 151 j = σ2 7 j
              rw [ap 151 (by decide) (by decide) (by decide), b7]; exact t3.hi (i := 6) (by decide) (by decide) hj
            · show υ2 152 j = σ2 8 j
              rw [ap 152 (by decide) (by decide) (by decide), b8]; exact t3.hi (i := 7) (by decide) (by decide) hj
            · show υ2 153 j = σ2 9 j
              rw [ap 153 (by decide) (by decide) (by decide), b9]; exact t3.hi (i := 8) (by decide) (by decide) hj
            · exact ((ak 1).trans t3.e8).trans (by rw [b1])
            · exact ((ak 3).trans t3.e9).trans (by rw [b1])
            · exact ((ak 4).trans (t3.2.2 10 (by decide) (by decide))).trans (by rw [b1])
            · exact ((ak 5).trans (t3.2.2 11 (by decide) (by decide))).trans (by rw [b1])
          have ev1 : υ 148 (4 * i) = σ 2 i := te3.lo (i := 1) (by decide) (by decide) (by omega)
          have ev2 : υ 148 (4 * i + 1) = σ 3 i := te3.lo (i := 2) (by decide) (by decide) (by omega)
          have vr := g.2.1.1 i his
          have eap := apart_eq vr.1 vr.2.1 r1 r2
          rw [ev1, ev2, eap]
          exact Res.mk (hI.chg hC (mch_of hL (fun p hp => ap p (by omega) (by omega) (by omega)) (ak 36) (ak 13) (mw3.cg (ak 1) (fun p h1 h2 => ap p (by omega) (by omega) (by omega))) ((ak 6).trans l3)) (hTE.trans sr.te.symm))
        · refine st_go hK2 rfl rfl ?_
          refine st_go hK2 rfl rfl ?_
          refine st_if hK2 rfl rfl (fun _ => ?_) (fun c => absurd (at2 c32) c)
          refine st_go hK2 rfl rfl ?_
          refine cv0 hK2 rfl qc_146 (Nat.le_of_ble_eq_true rfl) ?_
          refine z_leaves k2 hc (fun υ hL => ?_)
          change K2 _ _ _ _
          obtain ⟨mw3, mv3⟩ := hL.mf mw2
          have te3 : TE (mv υ) 1 σ 1 := by rw [mv3]; exact te2
          have l3 : υ 146 6 = nI s := (hL.2.1 6 (by decide)).trans l2
          refine st_go hK2 rfl rfl ?_
          refine st_go hK2 rfl rfl ?_
          refine st_go hK2 rfl rfl ?_
          refine st_getr hK2 rfl qf_146_2 ?_
          refine st_go hK2 rfl rfl ?_
          refine st_go hK2 rfl rfl ?_
          refine bnv hK2 rfl (show _ = nI (4 * i) from nI_mul 4 i) ?_
          refine ga (e := 4 * i) (v := υ 148 (4 * i)) hK2 rfl qa_148 rfl (by omega) rfl rfl ?_
          refine st_go hK2 rfl rfl ?_
          refine st_getr hK2 rfl qf_146_2 ?_
          refine st_go hK2 rfl rfl ?_
          refine st_go hK2 rfl rfl ?_
          refine bnv hK2 rfl (show _ = nI (4 * i) from nI_mul 4 i) ?_
          refine st_go hK2 rfl rfl ?_
          refine bnv hK2 rfl (show _ = nI ((4 * i) + 1) from nI_add (4 * i) 1) ?_
          refine ga (e := (4 * i) + 1) (v := υ 148 ((4 * i) + 1)) hK2 rfl qa_148 rfl (by omega) rfl rfl ?_
          refine cs4 hK2 rfl (Nat.le_of_ble_eq_true rfl) ?_
          refine z_apart ?_
          change K2 _ _ (_ :: _) _
          refine st_go hK2 rfl rfl ?_
          change K2 _ [some (.ref 146), some (.int (nI i)), some (.int x), some (.int y), some (.int (ff (atP σ 1 x y) s 0)), some (.int (mx (ab (x + y - (υ 148 (4 * i)) - (υ 148 ((4 * i) + 1)))) (ab (x - y - (υ 148 (4 * i)) + (υ 148 ((4 * i) + 1)))) * 65536))] _ _
          refine st_go hK2 rfl rfl ?_
          refine st_getr hK2 rfl qf_146_2 ?_
          refine st_go hK2 rfl rfl ?_
          refine st_go hK2 rfl rfl ?_
          refine bnv hK2 rfl (show _ = nI (4 * i) from nI_mul 4 i) ?_
          refine st_go hK2 rfl rfl ?_
          refine sa (e := 4 * i) hK2 rfl qa_148 rfl (by omega) rfl ?_
          refine st_go hK2 rfl rfl ?_
          refine st_getr hK2 rfl qf_146_2 ?_
          refine st_go hK2 rfl rfl ?_
          refine st_go hK2 rfl rfl ?_
          refine bnv hK2 rfl (show _ = nI (4 * i) from nI_mul 4 i) ?_
          refine st_go hK2 rfl rfl ?_
          refine bnv hK2 rfl (show _ = nI ((4 * i) + 1) from nI_add (4 * i) 1) ?_
          refine st_go hK2 rfl rfl ?_
          refine sa (e := (4 * i) + 1) hK2 rfl qa_148 rfl (by omega) rfl ?_
          refine st_go hK2 rfl rfl ?_
          refine st_go hK2 rfl rfl ?_
          refine cv1 hK2 rfl qc_146 (Nat.le_of_ble_eq_true rfl) ?_
          have t149 : (cw_up (cw_up υ 148 (4 * i) x) 148 ((4 * i) + 1) y) 149 = υ 149 := by rw [up_ne (by decide), up_ne (by decide)]
          refine z_touches (n := s) (a := a) (by rw [up_ne (by decide), up_ne (by decide), l3]) h8 (by omega) (by omega) (fun i hi => by rw [t149]; exact fun z => hne i hi ((show υ 149 i = σ 149 i from (congrFun (hL.1 149 (by decide) (by decide)) _).trans (congrFun (hC.1 149 (by omega)) _)).symm.trans z)) (fun hi => by rw [t149]; exact ((show υ 149 a = σ 149 a from (congrFun (hL.1 149 (by decide) (by decide)) _).trans (congrFun (hC.1 149 (by omega)) _))).trans heq) ?_
          rw [t149]
          change K2 _ _ _ _
          refine st_go hK2 rfl rfl ?_
          refine st_ret hK2 rfl rfl ?_
          obtain ⟨υ2, hυ2⟩ : ∃ υ2, υ2 = (rowF (cw_up (cw_up (cw_up υ 148 (4 * i) x) 148 ((4 * i) + 1) y) 146 6 (nI (if a = s then s + 1 else s))) 149 (tchF (υ 149) a (nI i))) := ⟨_, rfl⟩
          rw [← hυ2]
          have e148 : υ2 148 = upd (upd (υ 148) (4 * i) x) (4 * i + 1) y := by rw [hυ2]; simp [rowF, cw_up]
          have e149' : υ2 149 = tchF (υ 149) a (nI i) := by rw [hυ2, row_eq]
          have ak : ∀ k, υ2 146 k = υ 146 k := fun k => by
            rw [hυ2]
            have an : ¬ a = s := by omega
            by_cases z : k = 6
            · subst z; simp [rowF, cw_up, upd, an, l3]
            · simp [rowF, cw_up, upd, z]
          have ap : ∀ p, p ≠ 146 → p ≠ 148 → p ≠ 149 → υ2 p = υ p := fun p p0 p1 p2 => by
            rw [hυ2, row_ne p2, up_ne p0]
            repeat rw [up_ne p1]
          have t3 : TE (mv υ) 1 σ1 1 := te3.trans (te_of (fun j hj => s1 _ (by omega))).symm
          have hTE : TE (mv υ2) 1 σ2 1 := by
            refine te_mk (fun j hj => ?_) (fun j hj => ?_) (fun j hj => ?_) (fun j hj => ?_) (fun j hj => ?_) (fun j hj => ?_) (fun j hj => ?_) (fun j hj => ?_) ?_ ?_ ?_ ?_
            · show υ2 148 (4 * j) = σ2 2 j
              have t : υ 148 (4 * j) = σ1 2 j := t3.lo (i := 1) (by decide) (by decide) hj
              rw [e148, b2]
              unfold upd
              (repeat' split) <;> first | rfl | exact t | omega
            · show υ2 148 (4 * j + 1) = σ2 3 j
              have t : υ 148 (4 * j + 1) = σ1 3 j := t3.lo (i := 2) (by decide) (by decide) hj
              rw [e148, b3]
              unfold upd
              (repeat' split) <;> first | rfl | exact t | omega
            · show υ2 148 (4 * j + 2) = σ2 4 j
              have t : υ 148 (4 * j + 2) = σ1 4 j := t3.lo (i := 3) (by decide) (by decide) hj
              rw [e148, b4]
              unfold upd
              (repeat' split) <;> first | rfl | exact t | omega
            · show υ2 148 (4 * j + 3) = σ2 5 j
              have t : υ 148 (4 * j + 3) = σ1 5 j := t3.lo (i := 4) (by decide) (by decide) hj
              rw [e148, b5]
              unfold upd
              (repeat' split) <;> first | rfl | exact t | omega
            · show υ2 149 j = σ2 6 j
              rw [e149', b6, tch_at, tch_at]
              have t : ∀ q, q < 8 → υ 149 q = σ1 6 q := fun q hq => t3.lo (i := 5) (by decide) (by decide) hq
              rw [t j hj, t (j - 1) (by omega)]
            · show υ2 151 j = σ2 7 j
              rw [ap 151 (by decide) (by decide) (by decide), b7]; exact t3.hi (i := 6) (by decide) (by decide) hj
            · show υ2 152 j = σ2 8 j
              rw [ap 152 (by decide) (by decide) (by decide), b8]; exact t3.hi (i := 7) (by decide) (by decide) hj
            · show υ2 153 j = σ2 9 j
              rw [ap 153 (by decide) (by decide) (by decide), b9]; exact t3.hi (i := 8) (by decide) (by decide) hj
            · exact ((ak 1).trans t3.e8).trans (by rw [b1])
            · exact ((ak 3).trans t3.e9).trans (by rw [b1])
            · exact ((ak 4).trans (t3.2.2 10 (by decide) (by decide))).trans (by rw [b1])
            · exact ((ak 5).trans (t3.2.2 11 (by decide) (by decide))).trans (by rw [b1])
          have ev1 : υ 148 (4 * i) = σ 2 i := te3.lo (i := 1) (by decide) (by decide) (by omega)
          have ev2 : υ 148 (4 * i + 1) = σ 3 i := te3.lo (i := 2) (by decide) (by decide) (by omega)
          have vr := g.2.1.1 i his
          have eap := apart_eq vr.1 vr.2.1 r1 r2
          rw [ev1, ev2, eap]
          exact Res.mk (hI.chg hC (mch_of hL (fun p hp => ap p (by omega) (by omega) (by omega)) (ak 36) (ak 13) (mw3.cg (ak 1) (fun p h1 h2 => ap p (by omega) (by omega) (by omega))) ((ak 6).trans l3)) (hTE.trans sr.te.symm))
    · have at0 : ¬ ff (atP σ 1 x y) s 0 = -1 := fun z => hat (Or.inl z)
      have at1 : ¬ ff (atP σ 1 x y) s 0 = nI i := fun z => hat (Or.inr z)
      refine zi (L := [some (.ref 0), some (.int (nI i)), some (.int x), some (.int y), none, none]) rfl rfl (fun K hK => ?_)
      refine st_go hK rfl rfl ?_
      refine st_getr hK rfl qf_0_0 ?_
      refine st_go hK rfl rfl ?_
      refine cv1 hK rfl qc_1 (Nat.le_of_ble_eq_true rfl) ?_
      refine z_hasSink' hT1 es h8 (fun _ => ?_) (fun c => absurd hk c)
      change K _ _ (_ :: _) _
      refine st_if hK rfl rfl (fun c => absurd c (by decide)) (fun _ => ?_)
      refine st_go hK rfl rfl ?_
      refine st_go hK rfl rfl ?_
      refine cs2 hK rfl (Nat.le_of_ble_eq_true rfl) ?_
      refine z_onGrid (fun _ => ?_) (fun c => absurd hsp c)
      change K _ _ (_ :: _) _
      refine st_if hK rfl rfl (fun _ => ?_) (fun c => absurd (by decide) c)
      refine st_go hK rfl rfl ?_
      refine st_getr hK rfl qf_0_0 ?_
      refine st_go hK rfl rfl ?_
      refine st_go hK rfl rfl ?_
      refine cv2 hK rfl qc_1 (Nat.le_of_ble_eq_true rfl) ?_
      refine z_sinkAt hT1 es h8 ?_
      change K _ _ (_ :: _) _
      refine st_go hK rfl rfl ?_
      change K _ [some (.ref 0), some (.int (nI i)), some (.int x), some (.int y), some (.int (ff (atP σ 1 x y) s 0)), _] _ _
      refine st_go hK rfl rfl ?_
      refine st_go hK rfl rfl ?_
      refine st_if hK rfl rfl (fun c => absurd c at0) (fun _ => ?_)
      refine st_go hK rfl rfl ?_
      refine st_go hK rfl rfl ?_
      refine st_if hK rfl rfl (fun c => absurd c at1) (fun _ => ?_)
      refine st_go hK rfl rfl ?_
      refine st_go hK rfl rfl ?_
      refine cv1 hK rfl qc_0 (Nat.le_of_ble_eq_true rfl) ?_
      refine z_rno ?_
      change K _ _ (_ :: _) _
      refine st_ret hK rfl rfl ?_
      obtain ⟨mw2, te2, l2, k2, mv2⟩ := hI.mf (τ := (cw_up σ 0 7 (σ 0 7 + 1))) (fun p hp => up_ne (by omega))
      refine zi (L := [some (.ref 146), some (.int (nI i)), some (.int x), some (.int y), none, none]) rfl rfl (fun K2 hK2 => ?_)
      refine st_go hK2 rfl rfl ?_
      refine st_go hK2 rfl rfl ?_
      refine cv1 hK2 rfl qc_146 (Nat.le_of_ble_eq_true rfl) ?_
      refine z_misSink mw2.1 h8 (fun _ => ?_) (fun c => absurd hk c)
      change K2 _ _ (_ :: _) _
      refine st_if hK2 rfl rfl (fun c => absurd c (by decide)) (fun _ => ?_)
      refine st_go hK2 rfl rfl ?_
      refine st_go hK2 rfl rfl ?_
      refine cs2 hK2 rfl (Nat.le_of_ble_eq_true rfl) ?_
      refine z_misSpot (fun _ => ?_) (fun c => absurd hsp c)
      change K2 _ _ (_ :: _) _
      refine st_if hK2 rfl rfl (fun _ => ?_) (fun c => absurd (by decide) c)
      refine st_go hK2 rfl rfl ?_
      refine st_go hK2 rfl rfl ?_
      refine st_go hK2 rfl rfl ?_
      refine cv2 hK2 rfl qc_146 (Nat.le_of_ble_eq_true rfl) ?_
      refine z_misAt mw2.1 h8 ?_
      rw [at_eq te2 h8]
      change K2 _ _ (_ :: _) _
      refine st_go hK2 rfl rfl ?_
      change K2 _ [some (.ref 146), some (.int (nI i)), some (.int x), some (.int y), some (.int (ff (atP σ 1 x y) s 0)), _] _ _
      refine st_go hK2 rfl rfl ?_
      refine st_go hK2 rfl rfl ?_
      refine st_if hK2 rfl rfl (fun c => absurd c at0) (fun _ => ?_)
      refine st_go hK2 rfl rfl ?_
      refine st_go hK2 rfl rfl ?_
      refine st_if hK2 rfl rfl (fun c => absurd c at1) (fun _ => ?_)
      refine st_go hK2 rfl rfl ?_
      refine cv0 hK2 rfl qc_146 (Nat.le_of_ble_eq_true rfl) ?_
      refine z_mno ?_
      change K2 _ _ (_ :: _) _
      refine st_ret hK2 rfl rfl ?_
      exact Res.mk (hI.err (k := 1) (by decide))
  · skip
    refine zi (L := [some (.ref 0), some (.int k), some (.int x), some (.int y), none, none]) rfl rfl (fun K hK => ?_)
    refine st_go hK rfl rfl ?_
    refine st_getr hK rfl qf_0_0 ?_
    refine st_go hK rfl rfl ?_
    refine cv1 hK rfl qc_1 (Nat.le_of_ble_eq_true rfl) ?_
    refine z_hasSink' hT1 es h8 (fun hk => ?_) (fun hk => ?_)
    · change K _ _ (_ :: _) _
      refine st_if hK rfl rfl (fun c => absurd c (by decide)) (fun _ => ?_)
      refine st_go hK rfl rfl ?_
      refine st_go hK rfl rfl ?_
      refine cs2 hK rfl (Nat.le_of_ble_eq_true rfl) ?_
      refine z_onGrid (fun c => absurd ⟨hk, c⟩ hb) (fun _ => ?_)
      change K _ _ (_ :: _) _
      refine st_if hK rfl rfl (fun c => absurd c (by decide)) (fun _ => ?_)
      refine st_go hK rfl rfl ?_
      refine st_go hK rfl rfl ?_
      refine cv1 hK rfl qc_0 (Nat.le_of_ble_eq_true rfl) ?_
      refine z_rbad ?_
      change K _ _ (_ :: _) _
      refine st_ret hK rfl rfl ?_
      obtain ⟨mw2, te2, l2, k2, mv2⟩ := hI.mf (τ := (cw_up σ 0 6 (σ 0 6 + 1))) (fun p hp => up_ne (by omega))
      refine zi (L := [some (.ref 146), some (.int k), some (.int x), some (.int y), none, none]) rfl rfl (fun K2 hK2 => ?_)
      refine st_go hK2 rfl rfl ?_
      refine st_go hK2 rfl rfl ?_
      refine cv1 hK2 rfl qc_146 (Nat.le_of_ble_eq_true rfl) ?_
      refine z_misSink mw2.1 h8 (fun hk2 => ?_) (fun hk2 => ?_)
      · change K2 _ _ (_ :: _) _
        refine st_if hK2 rfl rfl (fun c => absurd c (by decide)) (fun _ => ?_)
        refine st_go hK2 rfl rfl ?_
        refine st_go hK2 rfl rfl ?_
        refine cs2 hK2 rfl (Nat.le_of_ble_eq_true rfl) ?_
        refine z_misSpot (fun c => absurd ⟨hk2, c⟩ hb) (fun _ => ?_)
        change K2 _ _ (_ :: _) _
        refine st_if hK2 rfl rfl (fun c => absurd c (by decide)) (fun _ => ?_)
        refine st_go hK2 rfl rfl ?_
        refine cv0 hK2 rfl qc_146 (Nat.le_of_ble_eq_true rfl) ?_
        refine z_mbad ?_
        change K2 _ _ (_ :: _) _
        refine st_ret hK2 rfl rfl ?_
        exact Res.mk (hI.err (k := 0) (by decide))
      · change K2 _ _ (_ :: _) _
        refine st_if hK2 rfl rfl (fun _ => ?_) (fun c => absurd (by decide) c)
        refine st_go hK2 rfl rfl ?_
        refine cv0 hK2 rfl qc_146 (Nat.le_of_ble_eq_true rfl) ?_
        refine z_mbad ?_
        change K2 _ _ (_ :: _) _
        refine st_ret hK2 rfl rfl ?_
        exact Res.mk (hI.err (k := 0) (by decide))
    · change K _ _ (_ :: _) _
      refine st_if hK rfl rfl (fun _ => ?_) (fun c => absurd (by decide) c)
      refine st_go hK rfl rfl ?_
      refine st_go hK rfl rfl ?_
      refine cv1 hK rfl qc_0 (Nat.le_of_ble_eq_true rfl) ?_
      refine z_rbad ?_
      change K _ _ (_ :: _) _
      refine st_ret hK rfl rfl ?_
      obtain ⟨mw2, te2, l2, k2, mv2⟩ := hI.mf (τ := (cw_up σ 0 6 (σ 0 6 + 1))) (fun p hp => up_ne (by omega))
      refine zi (L := [some (.ref 146), some (.int k), some (.int x), some (.int y), none, none]) rfl rfl (fun K2 hK2 => ?_)
      refine st_go hK2 rfl rfl ?_
      refine st_go hK2 rfl rfl ?_
      refine cv1 hK2 rfl qc_146 (Nat.le_of_ble_eq_true rfl) ?_
      refine z_misSink mw2.1 h8 (fun hk2 => ?_) (fun hk2 => ?_)
      · change K2 _ _ (_ :: _) _
        refine st_if hK2 rfl rfl (fun c => absurd c (by decide)) (fun _ => ?_)
        refine st_go hK2 rfl rfl ?_
        refine st_go hK2 rfl rfl ?_
        refine cs2 hK2 rfl (Nat.le_of_ble_eq_true rfl) ?_
        refine z_misSpot (fun c => absurd ⟨hk2, c⟩ hb) (fun _ => ?_)
        change K2 _ _ (_ :: _) _
        refine st_if hK2 rfl rfl (fun c => absurd c (by decide)) (fun _ => ?_)
        refine st_go hK2 rfl rfl ?_
        refine cv0 hK2 rfl qc_146 (Nat.le_of_ble_eq_true rfl) ?_
        refine z_mbad ?_
        change K2 _ _ (_ :: _) _
        refine st_ret hK2 rfl rfl ?_
        exact Res.mk (hI.err (k := 0) (by decide))
      · change K2 _ _ (_ :: _) _
        refine st_if hK2 rfl rfl (fun _ => ?_) (fun c => absurd (by decide) c)
        refine st_go hK2 rfl rfl ?_
        refine cv0 hK2 rfl qc_146 (Nat.le_of_ble_eq_true rfl) ?_
        refine z_mbad ?_
        change K2 _ _ (_ :: _) _
        refine st_ret hK2 rfl rfl ?_
        exact Res.mk (hI.err (k := 0) (by decide))
theorem sim_sets : SimI (d + 16) m_CW_sets m_Mo_sets [.int k, .int w, .int v] := by
  intro σ lam ⟨s, nx, c, n, hI⟩
  have g := hI.1.1
  have mw := hI.2.1.1
  have te := hI.2.1.2.1
  have es : σ 1 8 = nI s := g.1.1
  have h8 : s ≤ 8 := g.1.2.1
  obtain ⟨⟨hnx, hc, h661, h662, h13⟩, hh⟩ := hI.2.2.2.1
  by_cases hb : (∃ i, i < s ∧ k = nI i) ∧ okSet w v
  · obtain ⟨⟨i, his, rfl⟩, hok⟩ := hb
    have hk : ∃ j, j < s ∧ nI i = nI j := ⟨i, his, rfl⟩
    have h149 : ∀ q, q < 8 → σ 149 q = σ 6 q := fun q hq => te.lo (i := 5) (by decide) (by decide) hq
    obtain ⟨a, has, ha⟩ := g.2.2.2.2 i his
    have hne : ∀ q, q < a → σ 149 q ≠ nI i := fun q hq z => by
      rw [h149 q (by omega), ← ha] at z
      have := g.2.2.2.1 q a (by omega) has z
      omega
    have heq : σ 149 a = nI i := (h149 a (by omega)).trans ha
    have ecl : (nI i).toNatClampNeg = i := nI_clamp (by omega)
    rcases hok with ⟨rfl, hv⟩ | ⟨rfl, hv⟩
    · have hok : okSet 0 v := Or.inl ⟨rfl, hv⟩
      have rv := rg_i hv.1 hv.2
      have q0 : (0 : Int32).toInt = 0 := by decide
      have q1 : (99 : Int32).toInt = 99 := by decide
      rw [q0, q1] at rv
      have hw01 : (0 : Int32) ≤ 0 ∧ (0 : Int32) ≤ 1 := by decide
      refine zi (L := [some (.ref 0), some (.int (nI i)), some (.int (0 : Int32)), some (.int v), none]) rfl rfl (fun K hK => ?_)
      refine st_go hK rfl rfl ?_
      refine st_getr hK rfl qf_0_0 ?_
      refine st_go hK rfl rfl ?_
      refine cv1 hK rfl qc_1 (Nat.le_of_ble_eq_true rfl) ?_
      refine z_hasSink' hT1 es h8 (fun _ => ?_) (fun c => absurd hk c)
      change K _ _ (_ :: _) _
      refine st_if hK rfl rfl (fun c => absurd c (by decide)) (fun _ => ?_)
      refine st_go hK rfl rfl ?_
      refine st_go hK rfl rfl ?_
      refine cs2 hK rfl (Nat.le_of_ble_eq_true rfl) ?_
      refine z_isSetting (fun _ => ?_) (fun c => absurd hok c)
      change K _ _ (_ :: _) _
      refine st_if hK rfl rfl (fun _ => ?_) (fun c => absurd (by decide) c)
      refine st_go hK rfl rfl ?_
      refine st_getr hK rfl qf_0_4 ?_
      refine st_go hK rfl rfl ?_
      refine st_getr hK rfl qf_0_0 ?_
      refine cv1 hK rfl qc_66 (Nat.le_of_ble_eq_true rfl) ?_
      refine z_save h661 hnx h662 hc (fun σ1 hS => ?_)
      change K _ _ _ _
      have s1 : ∀ p, p < 66 → σ1 p = σ p := fun p hp => hS.1 p (by omega) (by omega)
      have g1 : GT σ1 1 s := (te_of (fun j hj => s1 _ (by omega))).gt g
      have es1 : σ1 1 8 = nI s := g1.1.1
      refine st_go hK rfl rfl ?_
      refine st_if hK rfl rfl (fun c => absurd c (by decide)) (fun _ => ?_)
      refine st_go hK rfl rfl ?_
      refine st_getr hK rfl qf_0_0 ?_
      refine st_getr hK rfl qf_1_2 ?_
      refine st_go hK rfl rfl ?_
      refine ga (e := i) (v := σ1 4 i) hK rfl qa_4 rfl (by omega) rfl rfl ?_
      refine st_go hK rfl rfl ?_
      change K _ [some (.ref 0), some (.int (nI i)), some (.int (0 : Int32)), some (.int v), some (.int (σ1 4 i))] _ _
      refine st_go hK rfl rfl ?_
      refine st_getr hK rfl qf_0_0 ?_
      refine st_getr hK rfl qf_1_2 ?_
      refine st_go hK rfl rfl ?_
      refine st_go hK rfl rfl ?_
      refine sa (e := i) hK rfl qa_4 rfl (by omega) rfl ?_
      refine st_go hK rfl rfl ?_
      refine st_go hK rfl rfl ?_
      refine st_getr hK rfl qf_0_0 ?_
      refine st_go hK rfl rfl ?_
      refine cv1 hK rfl qc_1 (Nat.le_of_ble_eq_true rfl) ?_
      have el : lastK ((cw_up σ1 4 i v) (1 + 5)) (nI i) s = a := by
        have := g1.2.2.last has
        rw [show σ1 (1 + 5) a = nI i from (congrFun (s1 6 (by decide)) a).trans ha] at this
        rw [up_ne (by decide)]
        exact this
      refine z_touch hT1 (by rw [up_ne (by decide)]; exact es1) h8 ?_
      rw [el, up_ne (show (1 + 5 : Nat) ≠ 4 by decide)]
      change K _ _ _ _
      refine st_go hK rfl rfl ?_
      refine cv0 hK rfl qc_0 (Nat.le_of_ble_eq_true rfl) ?_
      obtain ⟨σ2, hσ2⟩ : ∃ σ2, σ2 = (rowF (cw_up σ1 4 i v) 6 (tchF (σ1 6) a (nI i))) := ⟨_, rfl⟩
      have b1 : σ2 1 = σ1 1 := by rw [hσ2]; simp [rowF, cw_up]
      have b2 : σ2 2 = σ1 2 := by rw [hσ2]; simp [rowF, cw_up]
      have b3 : σ2 3 = σ1 3 := by rw [hσ2]; simp [rowF, cw_up]
      have b4 : σ2 4 = upd (σ1 4) i v := by rw [hσ2]; simp [rowF, cw_up]
      have b5 : σ2 5 = σ1 5 := by rw [hσ2]; simp [rowF, cw_up]
      have b6 : σ2 6 = tchF (σ1 6) a (nI i) := by rw [hσ2]; simp [rowF, cw_up]
      have b7 : σ2 7 = σ1 7 := by rw [hσ2]; simp [rowF, cw_up]
      have b8 : σ2 8 = σ1 8 := by rw [hσ2]; simp [rowF, cw_up]
      have b9 : σ2 9 = σ1 9 := by rw [hσ2]; simp [rowF, cw_up]
      have hf : ∀ p, (p < 1 ∨ 9 < p) → (rowF (cw_up σ1 4 i v) 6 (tchF (σ1 6) a (nI i))) p = σ1 p := fun p hp => by rw [row_ne (by omega), up_ne (by omega)]
      have hG : GT (rowF (cw_up σ1 4 i v) 6 (tchF (σ1 6) a (nI i))) 1 s := gt_end g1 has (by rw [row_ne (by decide), up_ne (by decide)]) (by rw [row_eq, s1 6 (by decide), ha]) (by rw [row_ne (by decide), up_ne (by decide)]) (by rw [row_ne (by decide), up_ne (by decide)]) (by rw [row_ne (by decide), up_ne (by decide)]) (fun k hk => by
        obtain ⟨w1, w2, w3, w4⟩ := g1.2.1.1 k hk
        rw [row_ne (by decide), up_ne (by decide), row_ne (by decide), up_ne (by decide), row_ne (by decide), up_eq, row_ne (by decide), up_ne (by decide)]
        exact ⟨w1, w2, upd_r (P := fun x => 0 ≤ x.toInt ∧ x.toInt ≤ 99) w3 rv, w4⟩)
      refine z_cfin hS hnx hf hG (fun τ lam2 hC sr => ?_)
      rw [← hσ2] at sr
      change K _ _ _ _
      refine st_go hK rfl rfl ?_
      refine st_ret hK rfl rfl ?_
      obtain ⟨mw2, te2, l2, k2, mv2⟩ := hI.mf (τ := τ) (fun p hp => hC.1 p (by omega))
      refine zi (L := [some (.ref 146), some (.int (nI i)), some (.int (0 : Int32)), some (.int v), none]) rfl rfl (fun K2 hK2 => ?_)
      refine st_go hK2 rfl rfl ?_
      refine st_go hK2 rfl rfl ?_
      refine cv1 hK2 rfl qc_146 (Nat.le_of_ble_eq_true rfl) ?_
      refine z_misSink mw2.1 h8 (fun _ => ?_) (fun c => absurd hk c)
      change K2 _ _ (_ :: _) _
      refine st_if hK2 rfl rfl (fun c => absurd c (by decide)) (fun _ => ?_)
      refine st_go hK2 rfl rfl ?_
      refine st_go hK2 rfl rfl ?_
      refine st_go hK2 rfl rfl ?_
      refine cs3 hK2 rfl (Nat.le_of_ble_eq_true rfl) ?_
      refine z_min (fun _ => ?_) (fun c => absurd hw01 c)
      change K2 _ _ (_ :: _) _
      refine st_if hK2 rfl rfl (fun c => absurd c (by decide)) (fun _ => ?_)
      refine st_go hK2 rfl rfl ?_
      refine st_go hK2 rfl rfl ?_
      refine st_go hK2 rfl rfl ?_
      refine st_if hK2 rfl rfl (fun c => absurd c (by decide)) (fun _ => ?_)
      refine st_go hK2 rfl rfl ?_
      refine st_go hK2 rfl rfl ?_
      refine cs3 hK2 rfl (Nat.le_of_ble_eq_true rfl) ?_
      refine z_min (fun _ => ?_) (fun c => absurd hv c)
      change K2 _ _ (_ :: _) _
      refine st_if hK2 rfl rfl (fun _ => ?_) (fun c => absurd (by decide) c)
      refine st_go hK2 rfl rfl ?_
      refine cv0 hK2 rfl qc_146 (Nat.le_of_ble_eq_true rfl) ?_
      refine z_leaves k2 hc (fun υ hL => ?_)
      change K2 _ _ _ _
      obtain ⟨mw3, mv3⟩ := hL.mf mw2
      have te3 : TE (mv υ) 1 σ 1 := by rw [mv3]; exact te2
      have l3 : υ 146 6 = nI s := (hL.2.1 6 (by decide)).trans l2
      refine st_go hK2 rfl rfl ?_
      refine st_getr hK2 rfl qf_146_2 ?_
      refine st_go hK2 rfl rfl ?_
      refine st_go hK2 rfl rfl ?_
      refine bnv hK2 rfl (show _ = nI (4 * i) from nI_mul 4 i) ?_
      refine st_go hK2 rfl rfl ?_
      refine bnv hK2 rfl (show _ = nI ((4 * i) + 2) from nI_add (4 * i) 2) ?_
      refine st_go hK2 rfl rfl ?_
      refine bnv (v := nI (4 * i + 2)) hK2 rfl (show nI ((4 * i) + 2) + (0 : Int32) = nI (4 * i + 2) from nI_add (4 * i + 2) 0) ?_
      refine ga (e := 4 * i + 2) (v := υ 148 (4 * i + 2)) hK2 rfl qa_148 rfl (by omega) rfl rfl ?_
      refine st_go hK2 rfl rfl ?_
      change K2 _ [some (.ref 146), some (.int (nI i)), some (.int (0 : Int32)), some (.int v), some (.int (υ 148 (4 * i + 2)))] _ _
      refine st_go hK2 rfl rfl ?_
      refine st_getr hK2 rfl qf_146_2 ?_
      refine st_go hK2 rfl rfl ?_
      refine st_go hK2 rfl rfl ?_
      refine bnv hK2 rfl (show _ = nI (4 * i) from nI_mul 4 i) ?_
      refine st_go hK2 rfl rfl ?_
      refine bnv hK2 rfl (show _ = nI ((4 * i) + 2) from nI_add (4 * i) 2) ?_
      refine st_go hK2 rfl rfl ?_
      refine bnv (v := nI (4 * i + 2)) hK2 rfl (show nI ((4 * i) + 2) + (0 : Int32) = nI (4 * i + 2) from nI_add (4 * i + 2) 0) ?_
      refine st_go hK2 rfl rfl ?_
      refine sa (e := 4 * i + 2) hK2 rfl qa_148 rfl (by omega) rfl ?_
      refine st_go hK2 rfl rfl ?_
      refine st_go hK2 rfl rfl ?_
      refine cv1 hK2 rfl qc_146 (Nat.le_of_ble_eq_true rfl) ?_
      have t149 : (cw_up υ 148 (4 * i + 2) v) 149 = υ 149 := by rw [up_ne (by decide)]
      refine z_touches (n := s) (a := a) (by rw [up_ne (by decide), l3]) h8 (by omega) (by omega) (fun i hi => by rw [t149]; exact fun z => hne i hi ((show υ 149 i = σ 149 i from (congrFun (hL.1 149 (by decide) (by decide)) _).trans (congrFun (hC.1 149 (by omega)) _)).symm.trans z)) (fun hi => by rw [t149]; exact ((show υ 149 a = σ 149 a from (congrFun (hL.1 149 (by decide) (by decide)) _).trans (congrFun (hC.1 149 (by omega)) _))).trans heq) ?_
      rw [t149]
      change K2 _ _ _ _
      refine st_go hK2 rfl rfl ?_
      refine st_ret hK2 rfl rfl ?_
      obtain ⟨υ2, hυ2⟩ : ∃ υ2, υ2 = (rowF (cw_up (cw_up υ 148 (4 * i + 2) v) 146 6 (nI (if a = s then s + 1 else s))) 149 (tchF (υ 149) a (nI i))) := ⟨_, rfl⟩
      rw [← hυ2]
      have e148 : υ2 148 = upd (υ 148) (4 * i + 2) v := by rw [hυ2]; simp [rowF, cw_up]
      have e149' : υ2 149 = tchF (υ 149) a (nI i) := by rw [hυ2, row_eq]
      have ak : ∀ k, υ2 146 k = υ 146 k := fun k => by
        rw [hυ2]
        have an : ¬ a = s := by omega
        by_cases z : k = 6
        · subst z; simp [rowF, cw_up, upd, an, l3]
        · simp [rowF, cw_up, upd, z]
      have ap : ∀ p, p ≠ 146 → p ≠ 148 → p ≠ 149 → υ2 p = υ p := fun p p0 p1 p2 => by
        rw [hυ2, row_ne p2, up_ne p0]
        repeat rw [up_ne p1]
      have t3 : TE (mv υ) 1 σ1 1 := te3.trans (te_of (fun j hj => s1 _ (by omega))).symm
      have hTE : TE (mv υ2) 1 σ2 1 := by
        refine te_mk (fun j hj => ?_) (fun j hj => ?_) (fun j hj => ?_) (fun j hj => ?_) (fun j hj => ?_) (fun j hj => ?_) (fun j hj => ?_) (fun j hj => ?_) ?_ ?_ ?_ ?_
        · show υ2 148 (4 * j) = σ2 2 j
          have t : υ 148 (4 * j) = σ1 2 j := t3.lo (i := 1) (by decide) (by decide) hj
          rw [e148, b2]
          unfold upd
          (repeat' split) <;> first | rfl | exact t | omega
        · show υ2 148 (4 * j + 1) = σ2 3 j
          have t : υ 148 (4 * j + 1) = σ1 3 j := t3.lo (i := 2) (by decide) (by decide) hj
          rw [e148, b3]
          unfold upd
          (repeat' split) <;> first | rfl | exact t | omega
        · show υ2 148 (4 * j + 2) = σ2 4 j
          have t : υ 148 (4 * j + 2) = σ1 4 j := t3.lo (i := 3) (by decide) (by decide) hj
          rw [e148, b4]
          unfold upd
          (repeat' split) <;> first | rfl | exact t | omega
        · show υ2 148 (4 * j + 3) = σ2 5 j
          have t : υ 148 (4 * j + 3) = σ1 5 j := t3.lo (i := 4) (by decide) (by decide) hj
          rw [e148, b5]
          unfold upd
          (repeat' split) <;> first | rfl | exact t | omega
        · show υ2 149 j = σ2 6 j
          rw [e149', b6, tch_at, tch_at]
          have t : ∀ q, q < 8 → υ 149 q = σ1 6 q := fun q hq => t3.lo (i := 5) (by decide) (by decide) hq
          rw [t j hj, t (j - 1) (by omega)]
        · show υ2 151 j = σ2 7 j
          rw [ap 151 (by decide) (by decide) (by decide), b7]; exact t3.hi (i := 6) (by decide) (by decide) hj
        · show υ2 152 j = σ2 8 j
          rw [ap 152 (by decide) (by decide) (by decide), b8]; exact t3.hi (i := 7) (by decide) (by decide) hj
        · show υ2 153 j = σ2 9 j
          rw [ap 153 (by decide) (by decide) (by decide), b9]; exact t3.hi (i := 8) (by decide) (by decide) hj
        · exact ((ak 1).trans t3.e8).trans (by rw [b1])
        · exact ((ak 3).trans t3.e9).trans (by rw [b1])
        · exact ((ak 4).trans (t3.2.2 10 (by decide) (by decide))).trans (by rw [b1])
        · exact ((ak 5).trans (t3.2.2 11 (by decide) (by decide))).trans (by rw [b1])
      have ev1 : υ 148 (4 * i + 2) = σ 4 i := te3.lo (i := 3) (by decide) (by decide) (by omega)
      have ev2 : σ1 4 i = σ 4 i := congrFun (s1 4 (by decide)) i
      rw [ev2, show υ 148 (4 * i + 2) = σ 4 i from ev1]
      exact Res.mk (hI.chg hC (mch_of hL (fun p hp => ap p (by omega) (by omega) (by omega)) (ak 36) (ak 13) (mw3.cg (ak 1) (fun p h1 h2 => ap p (by omega) (by omega) (by omega))) ((ak 6).trans l3)) (hTE.trans sr.te.symm))
    · have hok : okSet 1 v := Or.inr ⟨rfl, hv⟩
      have rv := rg_i hv.1 hv.2
      have q0 : (1 : Int32).toInt = 1 := by decide
      have q1 : (9 : Int32).toInt = 9 := by decide
      rw [q0, q1] at rv
      have hw01 : (0 : Int32) ≤ 1 ∧ (1 : Int32) ≤ 1 := by decide
      refine zi (L := [some (.ref 0), some (.int (nI i)), some (.int (1 : Int32)), some (.int v), none]) rfl rfl (fun K hK => ?_)
      refine st_go hK rfl rfl ?_
      refine st_getr hK rfl qf_0_0 ?_
      refine st_go hK rfl rfl ?_
      refine cv1 hK rfl qc_1 (Nat.le_of_ble_eq_true rfl) ?_
      refine z_hasSink' hT1 es h8 (fun _ => ?_) (fun c => absurd hk c)
      change K _ _ (_ :: _) _
      refine st_if hK rfl rfl (fun c => absurd c (by decide)) (fun _ => ?_)
      refine st_go hK rfl rfl ?_
      refine st_go hK rfl rfl ?_
      refine cs2 hK rfl (Nat.le_of_ble_eq_true rfl) ?_
      refine z_isSetting (fun _ => ?_) (fun c => absurd hok c)
      change K _ _ (_ :: _) _
      refine st_if hK rfl rfl (fun _ => ?_) (fun c => absurd (by decide) c)
      refine st_go hK rfl rfl ?_
      refine st_getr hK rfl qf_0_4 ?_
      refine st_go hK rfl rfl ?_
      refine st_getr hK rfl qf_0_0 ?_
      refine cv1 hK rfl qc_66 (Nat.le_of_ble_eq_true rfl) ?_
      refine z_save h661 hnx h662 hc (fun σ1 hS => ?_)
      change K _ _ _ _
      have s1 : ∀ p, p < 66 → σ1 p = σ p := fun p hp => hS.1 p (by omega) (by omega)
      have g1 : GT σ1 1 s := (te_of (fun j hj => s1 _ (by omega))).gt g
      have es1 : σ1 1 8 = nI s := g1.1.1
      refine st_go hK rfl rfl ?_
      refine st_if hK rfl rfl (fun _ => ?_) (fun c => absurd (by decide) c)
      refine st_go hK rfl rfl ?_
      refine st_getr hK rfl qf_0_0 ?_
      refine st_getr hK rfl qf_1_3 ?_
      refine st_go hK rfl rfl ?_
      refine ga (e := i) (v := σ1 5 i) hK rfl qa_5 rfl (by omega) rfl rfl ?_
      refine st_go hK rfl rfl ?_
      change K _ [some (.ref 0), some (.int (nI i)), some (.int (1 : Int32)), some (.int v), some (.int (σ1 5 i))] _ _
      refine st_go hK rfl rfl ?_
      refine st_getr hK rfl qf_0_0 ?_
      refine st_getr hK rfl qf_1_3 ?_
      refine st_go hK rfl rfl ?_
      refine st_go hK rfl rfl ?_
      refine sa (e := i) hK rfl qa_5 rfl (by omega) rfl ?_
      refine st_go hK rfl rfl ?_
      refine st_getr hK rfl qf_0_0 ?_
      refine st_go hK rfl rfl ?_
      refine cv1 hK rfl qc_1 (Nat.le_of_ble_eq_true rfl) ?_
      have el : lastK ((cw_up σ1 5 i v) (1 + 5)) (nI i) s = a := by
        have := g1.2.2.last has
        rw [show σ1 (1 + 5) a = nI i from (congrFun (s1 6 (by decide)) a).trans ha] at this
        rw [up_ne (by decide)]
        exact this
      refine z_touch hT1 (by rw [up_ne (by decide)]; exact es1) h8 ?_
      rw [el, up_ne (show (1 + 5 : Nat) ≠ 5 by decide)]
      change K _ _ _ _
      refine st_go hK rfl rfl ?_
      refine cv0 hK rfl qc_0 (Nat.le_of_ble_eq_true rfl) ?_
      obtain ⟨σ2, hσ2⟩ : ∃ σ2, σ2 = (rowF (cw_up σ1 5 i v) 6 (tchF (σ1 6) a (nI i))) := ⟨_, rfl⟩
      have b1 : σ2 1 = σ1 1 := by rw [hσ2]; simp [rowF, cw_up]
      have b2 : σ2 2 = σ1 2 := by rw [hσ2]; simp [rowF, cw_up]
      have b3 : σ2 3 = σ1 3 := by rw [hσ2]; simp [rowF, cw_up]
      have b4 : σ2 4 = σ1 4 := by rw [hσ2]; simp [rowF, cw_up]
      have b5 : σ2 5 = upd (σ1 5) i v := by rw [hσ2]; simp [rowF, cw_up]
      have b6 : σ2 6 = tchF (σ1 6) a (nI i) := by rw [hσ2]; simp [rowF, cw_up]
      have b7 : σ2 7 = σ1 7 := by rw [hσ2]; simp [rowF, cw_up]
      have b8 : σ2 8 = σ1 8 := by rw [hσ2]; simp [rowF, cw_up]
      have b9 : σ2 9 = σ1 9 := by rw [hσ2]; simp [rowF, cw_up]
      have hf : ∀ p, (p < 1 ∨ 9 < p) → (rowF (cw_up σ1 5 i v) 6 (tchF (σ1 6) a (nI i))) p = σ1 p := fun p hp => by rw [row_ne (by omega), up_ne (by omega)]
      have hG : GT (rowF (cw_up σ1 5 i v) 6 (tchF (σ1 6) a (nI i))) 1 s := gt_end g1 has (by rw [row_ne (by decide), up_ne (by decide)]) (by rw [row_eq, s1 6 (by decide), ha]) (by rw [row_ne (by decide), up_ne (by decide)]) (by rw [row_ne (by decide), up_ne (by decide)]) (by rw [row_ne (by decide), up_ne (by decide)]) (fun k hk => by
        obtain ⟨w1, w2, w3, w4⟩ := g1.2.1.1 k hk
        rw [row_ne (by decide), up_ne (by decide), row_ne (by decide), up_ne (by decide), row_ne (by decide), up_ne (by decide), row_ne (by decide), up_eq]
        exact ⟨w1, w2, w3, upd_r (P := fun x => 1 ≤ x.toInt ∧ x.toInt ≤ 9) w4 rv⟩)
      refine z_cfin hS hnx hf hG (fun τ lam2 hC sr => ?_)
      rw [← hσ2] at sr
      change K _ _ _ _
      refine st_go hK rfl rfl ?_
      refine st_ret hK rfl rfl ?_
      obtain ⟨mw2, te2, l2, k2, mv2⟩ := hI.mf (τ := τ) (fun p hp => hC.1 p (by omega))
      refine zi (L := [some (.ref 146), some (.int (nI i)), some (.int (1 : Int32)), some (.int v), none]) rfl rfl (fun K2 hK2 => ?_)
      refine st_go hK2 rfl rfl ?_
      refine st_go hK2 rfl rfl ?_
      refine cv1 hK2 rfl qc_146 (Nat.le_of_ble_eq_true rfl) ?_
      refine z_misSink mw2.1 h8 (fun _ => ?_) (fun c => absurd hk c)
      change K2 _ _ (_ :: _) _
      refine st_if hK2 rfl rfl (fun c => absurd c (by decide)) (fun _ => ?_)
      refine st_go hK2 rfl rfl ?_
      refine st_go hK2 rfl rfl ?_
      refine st_go hK2 rfl rfl ?_
      refine cs3 hK2 rfl (Nat.le_of_ble_eq_true rfl) ?_
      refine z_min (fun _ => ?_) (fun c => absurd hw01 c)
      change K2 _ _ (_ :: _) _
      refine st_if hK2 rfl rfl (fun c => absurd c (by decide)) (fun _ => ?_)
      refine st_go hK2 rfl rfl ?_
      refine st_go hK2 rfl rfl ?_
      refine st_go hK2 rfl rfl ?_
      refine st_if hK2 rfl rfl (fun _ => ?_) (fun c => absurd (by decide) c)
      refine st_go hK2 rfl rfl ?_
      refine cs3 hK2 rfl (Nat.le_of_ble_eq_true rfl) ?_
      refine z_min (fun _ => ?_) (fun c => absurd hv c)
      change K2 _ _ (_ :: _) _
      refine st_if hK2 rfl rfl (fun _ => ?_) (fun c => absurd (by decide) c)
      refine st_go hK2 rfl rfl ?_
      refine cv0 hK2 rfl qc_146 (Nat.le_of_ble_eq_true rfl) ?_
      refine z_leaves k2 hc (fun υ hL => ?_)
      change K2 _ _ _ _
      obtain ⟨mw3, mv3⟩ := hL.mf mw2
      have te3 : TE (mv υ) 1 σ 1 := by rw [mv3]; exact te2
      have l3 : υ 146 6 = nI s := (hL.2.1 6 (by decide)).trans l2
      refine st_go hK2 rfl rfl ?_
      refine st_getr hK2 rfl qf_146_2 ?_
      refine st_go hK2 rfl rfl ?_
      refine st_go hK2 rfl rfl ?_
      refine bnv hK2 rfl (show _ = nI (4 * i) from nI_mul 4 i) ?_
      refine st_go hK2 rfl rfl ?_
      refine bnv hK2 rfl (show _ = nI ((4 * i) + 2) from nI_add (4 * i) 2) ?_
      refine st_go hK2 rfl rfl ?_
      refine bnv (v := nI (4 * i + 3)) hK2 rfl (show nI ((4 * i) + 2) + (1 : Int32) = nI (4 * i + 3) from nI_add (4 * i + 2) 1) ?_
      refine ga (e := 4 * i + 3) (v := υ 148 (4 * i + 3)) hK2 rfl qa_148 rfl (by omega) rfl rfl ?_
      refine st_go hK2 rfl rfl ?_
      change K2 _ [some (.ref 146), some (.int (nI i)), some (.int (1 : Int32)), some (.int v), some (.int (υ 148 (4 * i + 3)))] _ _
      refine st_go hK2 rfl rfl ?_
      refine st_getr hK2 rfl qf_146_2 ?_
      refine st_go hK2 rfl rfl ?_
      refine st_go hK2 rfl rfl ?_
      refine bnv hK2 rfl (show _ = nI (4 * i) from nI_mul 4 i) ?_
      refine st_go hK2 rfl rfl ?_
      refine bnv hK2 rfl (show _ = nI ((4 * i) + 2) from nI_add (4 * i) 2) ?_
      refine st_go hK2 rfl rfl ?_
      refine bnv (v := nI (4 * i + 3)) hK2 rfl (show nI ((4 * i) + 2) + (1 : Int32) = nI (4 * i + 3) from nI_add (4 * i + 2) 1) ?_
      refine st_go hK2 rfl rfl ?_
      refine sa (e := 4 * i + 3) hK2 rfl qa_148 rfl (by omega) rfl ?_
      refine st_go hK2 rfl rfl ?_
      refine st_go hK2 rfl rfl ?_
      refine cv1 hK2 rfl qc_146 (Nat.le_of_ble_eq_true rfl) ?_
      have t149 : (cw_up υ 148 (4 * i + 3) v) 149 = υ 149 := by rw [up_ne (by decide)]
      refine z_touches (n := s) (a := a) (by rw [up_ne (by decide), l3]) h8 (by omega) (by omega) (fun i hi => by rw [t149]; exact fun z => hne i hi ((show υ 149 i = σ 149 i from (congrFun (hL.1 149 (by decide) (by decide)) _).trans (congrFun (hC.1 149 (by omega)) _)).symm.trans z)) (fun hi => by rw [t149]; exact ((show υ 149 a = σ 149 a from (congrFun (hL.1 149 (by decide) (by decide)) _).trans (congrFun (hC.1 149 (by omega)) _))).trans heq) ?_
      rw [t149]
      change K2 _ _ _ _
      refine st_go hK2 rfl rfl ?_
      refine st_ret hK2 rfl rfl ?_
      obtain ⟨υ2, hυ2⟩ : ∃ υ2, υ2 = (rowF (cw_up (cw_up υ 148 (4 * i + 3) v) 146 6 (nI (if a = s then s + 1 else s))) 149 (tchF (υ 149) a (nI i))) := ⟨_, rfl⟩
      rw [← hυ2]
      have e148 : υ2 148 = upd (υ 148) (4 * i + 3) v := by rw [hυ2]; simp [rowF, cw_up]
      have e149' : υ2 149 = tchF (υ 149) a (nI i) := by rw [hυ2, row_eq]
      have ak : ∀ k, υ2 146 k = υ 146 k := fun k => by
        rw [hυ2]
        have an : ¬ a = s := by omega
        by_cases z : k = 6
        · subst z; simp [rowF, cw_up, upd, an, l3]
        · simp [rowF, cw_up, upd, z]
      have ap : ∀ p, p ≠ 146 → p ≠ 148 → p ≠ 149 → υ2 p = υ p := fun p p0 p1 p2 => by
        rw [hυ2, row_ne p2, up_ne p0]
        repeat rw [up_ne p1]
      have t3 : TE (mv υ) 1 σ1 1 := te3.trans (te_of (fun j hj => s1 _ (by omega))).symm
      have hTE : TE (mv υ2) 1 σ2 1 := by
        refine te_mk (fun j hj => ?_) (fun j hj => ?_) (fun j hj => ?_) (fun j hj => ?_) (fun j hj => ?_) (fun j hj => ?_) (fun j hj => ?_) (fun j hj => ?_) ?_ ?_ ?_ ?_
        · show υ2 148 (4 * j) = σ2 2 j
          have t : υ 148 (4 * j) = σ1 2 j := t3.lo (i := 1) (by decide) (by decide) hj
          rw [e148, b2]
          unfold upd
          (repeat' split) <;> first | rfl | exact t | omega
        · show υ2 148 (4 * j + 1) = σ2 3 j
          have t : υ 148 (4 * j + 1) = σ1 3 j := t3.lo (i := 2) (by decide) (by decide) hj
          rw [e148, b3]
          unfold upd
          (repeat' split) <;> first | rfl | exact t | omega
        · show υ2 148 (4 * j + 2) = σ2 4 j
          have t : υ 148 (4 * j + 2) = σ1 4 j := t3.lo (i := 3) (by decide) (by decide) hj
          rw [e148, b4]
          unfold upd
          (repeat' split) <;> first | rfl | exact t | omega
        · show υ2 148 (4 * j + 3) = σ2 5 j
          have t : υ 148 (4 * j + 3) = σ1 5 j := t3.lo (i := 4) (by decide) (by decide) hj
          rw [e148, b5]
          unfold upd
          (repeat' split) <;> first | rfl | exact t | omega
        · show υ2 149 j = σ2 6 j
          rw [e149', b6, tch_at, tch_at]
          have t : ∀ q, q < 8 → υ 149 q = σ1 6 q := fun q hq => t3.lo (i := 5) (by decide) (by decide) hq
          rw [t j hj, t (j - 1) (by omega)]
        · show υ2 151 j = σ2 7 j
          rw [ap 151 (by decide) (by decide) (by decide), b7]; exact t3.hi (i := 6) (by decide) (by decide) hj
        · show υ2 152 j = σ2 8 j
          rw [ap 152 (by decide) (by decide) (by decide), b8]; exact t3.hi (i := 7) (by decide) (by decide) hj
        · show υ2 153 j = σ2 9 j
          rw [ap 153 (by decide) (by decide) (by decide), b9]; exact t3.hi (i := 8) (by decide) (by decide) hj
        · exact ((ak 1).trans t3.e8).trans (by rw [b1])
        · exact ((ak 3).trans t3.e9).trans (by rw [b1])
        · exact ((ak 4).trans (t3.2.2 10 (by decide) (by decide))).trans (by rw [b1])
        · exact ((ak 5).trans (t3.2.2 11 (by decide) (by decide))).trans (by rw [b1])
      have ev1 : υ 148 (4 * i + 3) = σ 5 i := te3.lo (i := 4) (by decide) (by decide) (by omega)
      have ev2 : σ1 5 i = σ 5 i := congrFun (s1 5 (by decide)) i
      rw [ev2, show υ 148 (4 * i + 3) = σ 5 i from ev1]
      exact Res.mk (hI.chg hC (mch_of hL (fun p hp => ap p (by omega) (by omega) (by omega)) (ak 36) (ak 13) (mw3.cg (ak 1) (fun p h1 h2 => ap p (by omega) (by omega) (by omega))) ((ak 6).trans l3)) (hTE.trans sr.te.symm))
  · skip
    have w1 : (0 ≤ w ∧ w ≤ 1) → ¬ w = 0 → w = 1 := fun h1 h2 => by
      obtain ⟨j, j1, rfl⟩ := (nI_rg (M := 1) (n := 1) rfl (by decide)).mp h1
      have : j ≠ 0 := fun z => h2 (by rw [z]; rfl)
      obtain rfl : j = 1 := by omega
      rfl
    refine zi (L := [some (.ref 0), some (.int k), some (.int w), some (.int v), none]) rfl rfl (fun K hK => ?_)
    refine st_go hK rfl rfl ?_
    refine st_getr hK rfl qf_0_0 ?_
    refine st_go hK rfl rfl ?_
    refine cv1 hK rfl qc_1 (Nat.le_of_ble_eq_true rfl) ?_
    refine z_hasSink' hT1 es h8 (fun hk => ?_) (fun hk => ?_)
    · change K _ _ (_ :: _) _
      refine st_if hK rfl rfl (fun c => absurd c (by decide)) (fun _ => ?_)
      refine st_go hK rfl rfl ?_
      refine st_go hK rfl rfl ?_
      refine cs2 hK rfl (Nat.le_of_ble_eq_true rfl) ?_
      refine z_isSetting (fun c => absurd ⟨hk, c⟩ hb) (fun _ => ?_)
      change K _ _ (_ :: _) _
      refine st_if hK rfl rfl (fun c => absurd c (by decide)) (fun _ => ?_)
      refine st_go hK rfl rfl ?_
      refine st_go hK rfl rfl ?_
      refine cv1 hK rfl qc_0 (Nat.le_of_ble_eq_true rfl) ?_
      refine z_rbad ?_
      change K _ _ (_ :: _) _
      refine st_ret hK rfl rfl ?_
      obtain ⟨mw2, te2, l2, k2, mv2⟩ := hI.mf (τ := (cw_up σ 0 6 (σ 0 6 + 1))) (fun p hp => up_ne (by omega))
      refine zi (L := [some (.ref 146), some (.int k), some (.int w), some (.int v), none]) rfl rfl (fun K2 hK2 => ?_)
      refine st_go hK2 rfl rfl ?_
      refine st_go hK2 rfl rfl ?_
      refine cv1 hK2 rfl qc_146 (Nat.le_of_ble_eq_true rfl) ?_
      refine z_misSink mw2.1 h8 (fun hk2 => ?_) (fun hk2 => ?_)
      · change K2 _ _ (_ :: _) _
        refine st_if hK2 rfl rfl (fun c => absurd c (by decide)) (fun _ => ?_)
        refine st_go hK2 rfl rfl ?_
        refine st_go hK2 rfl rfl ?_
        refine st_go hK2 rfl rfl ?_
        refine cs3 hK2 rfl (Nat.le_of_ble_eq_true rfl) ?_
        refine z_min (fun hw => ?_) (fun hw => ?_)
        · change K2 _ _ (_ :: _) _
          refine st_if hK2 rfl rfl (fun c => absurd c (by decide)) (fun _ => ?_)
          refine st_go hK2 rfl rfl ?_
          refine st_go hK2 rfl rfl ?_
          refine st_go hK2 rfl rfl ?_
          refine st_if hK2 rfl rfl (fun c20 => ?_) (fun c20 => ?_)
          · refine st_go hK2 rfl rfl ?_
            refine cs3 hK2 rfl (Nat.le_of_ble_eq_true rfl) ?_
            refine z_min (fun c => absurd ⟨hk2, Or.inr ⟨w1 hw c20, (w1 hw c20) ▸ c.1, c.2⟩⟩ hb) (fun _ => ?_)
            change K2 _ _ (_ :: _) _
            refine st_if hK2 rfl rfl (fun c => absurd c (by decide)) (fun _ => ?_)
            refine st_go hK2 rfl rfl ?_
            refine cv0 hK2 rfl qc_146 (Nat.le_of_ble_eq_true rfl) ?_
            refine z_mbad ?_
            change K2 _ _ (_ :: _) _
            refine st_ret hK2 rfl rfl ?_
            exact Res.mk (hI.err (k := 0) (by decide))
          · refine st_go hK2 rfl rfl ?_
            refine st_go hK2 rfl rfl ?_
            refine cs3 hK2 rfl (Nat.le_of_ble_eq_true rfl) ?_
            refine z_min (fun c => absurd ⟨hk2, Or.inl ⟨Decidable.not_not.mp c20, (Decidable.not_not.mp c20) ▸ c.1, c.2⟩⟩ hb) (fun _ => ?_)
            change K2 _ _ (_ :: _) _
            refine st_if hK2 rfl rfl (fun c => absurd c (by decide)) (fun _ => ?_)
            refine st_go hK2 rfl rfl ?_
            refine cv0 hK2 rfl qc_146 (Nat.le_of_ble_eq_true rfl) ?_
            refine z_mbad ?_
            change K2 _ _ (_ :: _) _
            refine st_ret hK2 rfl rfl ?_
            exact Res.mk (hI.err (k := 0) (by decide))
        · change K2 _ _ (_ :: _) _
          refine st_if hK2 rfl rfl (fun _ => ?_) (fun c => absurd (by decide) c)
          refine st_go hK2 rfl rfl ?_
          refine cv0 hK2 rfl qc_146 (Nat.le_of_ble_eq_true rfl) ?_
          refine z_mbad ?_
          change K2 _ _ (_ :: _) _
          refine st_ret hK2 rfl rfl ?_
          exact Res.mk (hI.err (k := 0) (by decide))
      · change K2 _ _ (_ :: _) _
        refine st_if hK2 rfl rfl (fun _ => ?_) (fun c => absurd (by decide) c)
        refine st_go hK2 rfl rfl ?_
        refine cv0 hK2 rfl qc_146 (Nat.le_of_ble_eq_true rfl) ?_
        refine z_mbad ?_
        change K2 _ _ (_ :: _) _
        refine st_ret hK2 rfl rfl ?_
        exact Res.mk (hI.err (k := 0) (by decide))
    · change K _ _ (_ :: _) _
      refine st_if hK rfl rfl (fun _ => ?_) (fun c => absurd (by decide) c)
      refine st_go hK rfl rfl ?_
      refine st_go hK rfl rfl ?_
      refine cv1 hK rfl qc_0 (Nat.le_of_ble_eq_true rfl) ?_
      refine z_rbad ?_
      change K _ _ (_ :: _) _
      refine st_ret hK rfl rfl ?_
      obtain ⟨mw2, te2, l2, k2, mv2⟩ := hI.mf (τ := (cw_up σ 0 6 (σ 0 6 + 1))) (fun p hp => up_ne (by omega))
      refine zi (L := [some (.ref 146), some (.int k), some (.int w), some (.int v), none]) rfl rfl (fun K2 hK2 => ?_)
      refine st_go hK2 rfl rfl ?_
      refine st_go hK2 rfl rfl ?_
      refine cv1 hK2 rfl qc_146 (Nat.le_of_ble_eq_true rfl) ?_
      refine z_misSink mw2.1 h8 (fun hk2 => ?_) (fun hk2 => ?_)
      · change K2 _ _ (_ :: _) _
        refine st_if hK2 rfl rfl (fun c => absurd c (by decide)) (fun _ => ?_)
        refine st_go hK2 rfl rfl ?_
        refine st_go hK2 rfl rfl ?_
        refine st_go hK2 rfl rfl ?_
        refine cs3 hK2 rfl (Nat.le_of_ble_eq_true rfl) ?_
        refine z_min (fun hw => ?_) (fun hw => ?_)
        · change K2 _ _ (_ :: _) _
          refine st_if hK2 rfl rfl (fun c => absurd c (by decide)) (fun _ => ?_)
          refine st_go hK2 rfl rfl ?_
          refine st_go hK2 rfl rfl ?_
          refine st_go hK2 rfl rfl ?_
          refine st_if hK2 rfl rfl (fun c20 => ?_) (fun c20 => ?_)
          · refine st_go hK2 rfl rfl ?_
            refine cs3 hK2 rfl (Nat.le_of_ble_eq_true rfl) ?_
            refine z_min (fun c => absurd ⟨hk2, Or.inr ⟨w1 hw c20, (w1 hw c20) ▸ c.1, c.2⟩⟩ hb) (fun _ => ?_)
            change K2 _ _ (_ :: _) _
            refine st_if hK2 rfl rfl (fun c => absurd c (by decide)) (fun _ => ?_)
            refine st_go hK2 rfl rfl ?_
            refine cv0 hK2 rfl qc_146 (Nat.le_of_ble_eq_true rfl) ?_
            refine z_mbad ?_
            change K2 _ _ (_ :: _) _
            refine st_ret hK2 rfl rfl ?_
            exact Res.mk (hI.err (k := 0) (by decide))
          · refine st_go hK2 rfl rfl ?_
            refine st_go hK2 rfl rfl ?_
            refine cs3 hK2 rfl (Nat.le_of_ble_eq_true rfl) ?_
            refine z_min (fun c => absurd ⟨hk2, Or.inl ⟨Decidable.not_not.mp c20, (Decidable.not_not.mp c20) ▸ c.1, c.2⟩⟩ hb) (fun _ => ?_)
            change K2 _ _ (_ :: _) _
            refine st_if hK2 rfl rfl (fun c => absurd c (by decide)) (fun _ => ?_)
            refine st_go hK2 rfl rfl ?_
            refine cv0 hK2 rfl qc_146 (Nat.le_of_ble_eq_true rfl) ?_
            refine z_mbad ?_
            change K2 _ _ (_ :: _) _
            refine st_ret hK2 rfl rfl ?_
            exact Res.mk (hI.err (k := 0) (by decide))
        · change K2 _ _ (_ :: _) _
          refine st_if hK2 rfl rfl (fun _ => ?_) (fun c => absurd (by decide) c)
          refine st_go hK2 rfl rfl ?_
          refine cv0 hK2 rfl qc_146 (Nat.le_of_ble_eq_true rfl) ?_
          refine z_mbad ?_
          change K2 _ _ (_ :: _) _
          refine st_ret hK2 rfl rfl ?_
          exact Res.mk (hI.err (k := 0) (by decide))
      · change K2 _ _ (_ :: _) _
        refine st_if hK2 rfl rfl (fun _ => ?_) (fun c => absurd (by decide) c)
        refine st_go hK2 rfl rfl ?_
        refine cv0 hK2 rfl qc_146 (Nat.le_of_ble_eq_true rfl) ?_
        refine z_mbad ?_
        change K2 _ _ (_ :: _) _
        refine st_ret hK2 rfl rfl ?_
        exact Res.mk (hI.err (k := 0) (by decide))
end
