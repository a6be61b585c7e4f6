/-! THE CLASS: small things -/
section
variable {d s : Nat} {σ τ : cw_V} {lam : Nat → Int64} {Q : cw_Q}
theorem z_rbad (kk : Q (some (.int (-2))) (cw_B (cw_up σ 0 6 (σ 0 6 + 1)) lam)) : cw_Z (d + 1) m_CW_refuse [.ref 0, .int (-2)] (cw_B σ lam) Q := by
  refine zi (L := [some (.ref 0), some (.int (-2))]) rfl rfl (fun K hK => ?_)
  refine st_go hK rfl rfl ?_
  refine st_go hK rfl rfl ?_
  refine st_if hK rfl rfl (fun c => absurd c (by decide)) (fun _ => ?_)
  refine st_go hK rfl rfl ?_
  refine st_go hK rfl rfl ?_
  refine gi (v := σ 0 6) hK rfl qf_0_6 rfl ?_
  refine st_go hK rfl rfl ?_
  refine st_bin hK rfl ?_
  refine st_put hK rfl qf_0_6 rfl ?_
  refine st_go hK rfl rfl ?_
  refine st_go hK rfl rfl ?_
  refine st_ret hK rfl rfl ?_
  exact kk
theorem z_rno (kk : Q (some (.int (-3))) (cw_B (cw_up σ 0 7 (σ 0 7 + 1)) lam)) : cw_Z (d + 1) m_CW_refuse [.ref 0, .int (-3)] (cw_B σ lam) Q := by
  refine zi (L := [some (.ref 0), some (.int (-3))]) rfl rfl (fun K hK => ?_)
  refine st_go hK rfl rfl ?_
  refine st_go hK rfl rfl ?_
  refine st_if hK rfl rfl (fun _ => ?_) (fun c => absurd (by decide) c)
  refine st_go hK rfl rfl ?_
  refine st_go hK rfl rfl ?_
  refine st_if hK rfl rfl (fun c => absurd c (by decide)) (fun _ => ?_)
  refine st_go hK rfl rfl ?_
  refine st_go hK rfl rfl ?_
  refine gi (v := σ 0 7) hK rfl qf_0_7 rfl ?_
  refine st_go hK rfl rfl ?_
  refine st_bin hK rfl ?_
  refine st_put hK rfl qf_0_7 rfl ?_
  refine st_go hK rfl rfl ?_
  refine st_go hK rfl rfl ?_
  refine st_ret hK rfl rfl ?_
  exact kk
theorem z_rfull (kk : Q (some (.int (-4))) (cw_B (cw_up σ 0 8 (σ 0 8 + 1)) lam)) : cw_Z (d + 1) m_CW_refuse [.ref 0, .int (-4)] (cw_B σ lam) Q := by
  refine zi (L := [some (.ref 0), some (.int (-4))]) rfl rfl (fun K hK => ?_)
  refine st_go hK rfl rfl ?_
  refine st_go hK rfl rfl ?_
  refine st_if hK rfl rfl (fun _ => ?_) (fun c => absurd (by decide) c)
  refine st_go hK rfl rfl ?_
  refine st_go hK rfl rfl ?_
  refine st_if hK rfl rfl (fun _ => ?_) (fun c => absurd (by decide) c)
  refine st_go hK rfl rfl ?_
  refine st_go hK rfl rfl ?_
  refine gi (v := σ 0 8) hK rfl qf_0_8 rfl ?_
  refine st_go hK rfl rfl ?_
  refine st_bin hK rfl ?_
  refine st_put hK rfl qf_0_8 rfl ?_
  refine st_go hK rfl rfl ?_
  refine st_ret hK rfl rfl ?_
  exact kk
theorem z_onGrid {x y : Int32} {h : cw_H} (k1 : spot x y → Q (some (.int 1)) h) (k0 : ¬ spot x y → Q (some (.int 0)) h) : cw_Z (d + 1) m_CW_isOnGrid [.int x, .int y] h Q := by
  refine zi (L := [some (.int x), some (.int y)]) rfl rfl (fun K hK => ?_)
  refine st_go hK rfl rfl ?_
  refine st_if hK rfl rfl (fun c1 => ?_) (fun c1 => ?_)
  · refine st_go hK rfl rfl ?_
    refine st_zret hK rfl (Or.inl rfl) ?_
    exact k0 (fun z => by first | exact absurd c1 (Int32.not_lt.mpr z.1.1) | exact absurd c7 (Int32.not_lt.mpr z.1.2) | exact absurd c11 (Int32.not_lt.mpr z.2.1) | exact absurd c17 (Int32.not_lt.mpr z.2.2))
  · refine st_go hK rfl rfl ?_
    refine st_go hK rfl rfl ?_
    refine st_if hK rfl rfl (fun c7 => ?_) (fun c7 => ?_)
    · refine st_go hK rfl rfl ?_
      refine st_zret hK rfl (Or.inl rfl) ?_
      exact k0 (fun z => by first | exact absurd c1 (Int32.not_lt.mpr z.1.1) | exact absurd c7 (Int32.not_lt.mpr z.1.2) | exact absurd c11 (Int32.not_lt.mpr z.2.1) | exact absurd c17 (Int32.not_lt.mpr z.2.2))
    · refine st_go hK rfl rfl ?_
      refine st_if hK rfl rfl (fun c11 => ?_) (fun c11 => ?_)
      · refine st_go hK rfl rfl ?_
        refine st_zret hK rfl (Or.inl rfl) ?_
        exact k0 (fun z => by first | exact absurd c1 (Int32.not_lt.mpr z.1.1) | exact absurd c7 (Int32.not_lt.mpr z.1.2) | exact absurd c11 (Int32.not_lt.mpr z.2.1) | exact absurd c17 (Int32.not_lt.mpr z.2.2))
      · refine st_go hK rfl rfl ?_
        refine st_go hK rfl rfl ?_
        refine st_if hK rfl rfl (fun c17 => ?_) (fun c17 => ?_)
        · refine st_go hK rfl rfl ?_
          refine st_zret hK rfl (Or.inl rfl) ?_
          exact k0 (fun z => by first | exact absurd c1 (Int32.not_lt.mpr z.1.1) | exact absurd c7 (Int32.not_lt.mpr z.1.2) | exact absurd c11 (Int32.not_lt.mpr z.2.1) | exact absurd c17 (Int32.not_lt.mpr z.2.2))
        · refine st_go hK rfl rfl ?_
          refine st_go hK rfl rfl ?_
          refine st_zret hK rfl (Or.inr rfl) ?_
          exact k1 ⟨⟨Int32.not_lt.mp c1, Int32.not_lt.mp c7⟩, Int32.not_lt.mp c11, Int32.not_lt.mp c17⟩
def okSet (w v : Int32) : Prop := (w = 0 ∧ 0 ≤ v ∧ v ≤ 99) ∨ (w = 1 ∧ 1 ≤ v ∧ v ≤ 9)
theorem z_isSetting {w v : Int32} {h : cw_H} (k1 : okSet w v → Q (some (.int 1)) h) (k0 : ¬ okSet w v → Q (some (.int 0)) h) : cw_Z (d + 1) m_CW_isSetting [.int w, .int v] h Q := by
  refine zi (L := [some (.int w), some (.int v)]) rfl rfl (fun K hK => ?_)
  refine st_go hK rfl rfl ?_
  refine st_if hK rfl rfl (fun c1 => ?_) (fun c1 => ?_)
  · refine st_go hK rfl rfl ?_
    refine st_go hK rfl rfl ?_
    refine st_if hK rfl rfl (fun c22 => ?_) (fun c22 => ?_)
    · refine st_go hK rfl rfl ?_
      refine st_zret hK rfl (Or.inl rfl) ?_
      refine k0 (fun z => ?_)
      rcases z with ⟨z1, z2, z3⟩ | ⟨z1, z2, z3⟩
      · first | exact absurd c5 (Int32.not_lt.mpr z2) | exact absurd c11 (Int32.not_lt.mpr z3) | exact absurd z1 c1
      · first | exact absurd z1 c22 | exact absurd c27 (Int32.not_lt.mpr z2) | exact absurd c33 (Int32.not_lt.mpr z3) | exact absurd (z1.symm.trans (Decidable.not_not.mp c1)) (by decide)
    · refine st_go hK rfl rfl ?_
      refine st_go hK rfl rfl ?_
      refine st_if hK rfl rfl (fun c27 => ?_) (fun c27 => ?_)
      · refine st_go hK rfl rfl ?_
        refine st_zret hK rfl (Or.inl rfl) ?_
        refine k0 (fun z => ?_)
        rcases z with ⟨z1, z2, z3⟩ | ⟨z1, z2, z3⟩
        · first | exact absurd c5 (Int32.not_lt.mpr z2) | exact absurd c11 (Int32.not_lt.mpr z3) | exact absurd z1 c1
        · first | exact absurd z1 c22 | exact absurd c27 (Int32.not_lt.mpr z2) | exact absurd c33 (Int32.not_lt.mpr z3) | exact absurd (z1.symm.trans (Decidable.not_not.mp c1)) (by decide)
      · refine st_go hK rfl rfl ?_
        refine st_go hK rfl rfl ?_
        refine st_if hK rfl rfl (fun c33 => ?_) (fun c33 => ?_)
        · refine st_go hK rfl rfl ?_
          refine st_zret hK rfl (Or.inl rfl) ?_
          refine k0 (fun z => ?_)
          rcases z with ⟨z1, z2, z3⟩ | ⟨z1, z2, z3⟩
          · first | exact absurd c5 (Int32.not_lt.mpr z2) | exact absurd c11 (Int32.not_lt.mpr z3) | exact absurd z1 c1
          · first | exact absurd z1 c22 | exact absurd c27 (Int32.not_lt.mpr z2) | exact absurd c33 (Int32.not_lt.mpr z3) | exact absurd (z1.symm.trans (Decidable.not_not.mp c1)) (by decide)
        · refine st_go hK rfl rfl ?_
          refine st_go hK rfl rfl ?_
          refine st_zret hK rfl (Or.inr rfl) ?_
          first | exact k1 (Or.inl ⟨Decidable.not_not.mp c1, Int32.not_lt.mp c5, Int32.not_lt.mp c11⟩) | exact k1 (Or.inr ⟨Decidable.not_not.mp c22, Int32.not_lt.mp c27, Int32.not_lt.mp c33⟩)
  · refine st_go hK rfl rfl ?_
    refine st_if hK rfl rfl (fun c5 => ?_) (fun c5 => ?_)
    · refine st_go hK rfl rfl ?_
      refine st_zret hK rfl (Or.inl rfl) ?_
      refine k0 (fun z => ?_)
      rcases z with ⟨z1, z2, z3⟩ | ⟨z1, z2, z3⟩
      · first | exact absurd c5 (Int32.not_lt.mpr z2) | exact absurd c11 (Int32.not_lt.mpr z3) | exact absurd z1 c1
      · first | exact absurd z1 c22 | exact absurd c27 (Int32.not_lt.mpr z2) | exact absurd c33 (Int32.not_lt.mpr z3) | exact absurd (z1.symm.trans (Decidable.not_not.mp c1)) (by decide)
    · refine st_go hK rfl rfl ?_
      refine st_go hK rfl rfl ?_
      refine st_if hK rfl rfl (fun c11 => ?_) (fun c11 => ?_)
      · refine st_go hK rfl rfl ?_
        refine st_zret hK rfl (Or.inl rfl) ?_
        refine k0 (fun z => ?_)
        rcases z with ⟨z1, z2, z3⟩ | ⟨z1, z2, z3⟩
        · first | exact absurd c5 (Int32.not_lt.mpr z2) | exact absurd c11 (Int32.not_lt.mpr z3) | exact absurd z1 c1
        · first | exact absurd z1 c22 | exact absurd c27 (Int32.not_lt.mpr z2) | exact absurd c33 (Int32.not_lt.mpr z3) | exact absurd (z1.symm.trans (Decidable.not_not.mp c1)) (by decide)
      · refine st_go hK rfl rfl ?_
        refine st_go hK rfl rfl ?_
        refine st_zret hK rfl (Or.inr rfl) ?_
        first | exact k1 (Or.inl ⟨Decidable.not_not.mp c1, Int32.not_lt.mp c5, Int32.not_lt.mp c11⟩) | exact k1 (Or.inr ⟨Decidable.not_not.mp c22, Int32.not_lt.mp c27, Int32.not_lt.mp c33⟩)
theorem hSink_N {t : Nat} (hs : σ t 8 = nI s) (h8 : s ≤ 8) {k : Int32} : hSink σ t k ↔ ∃ i, i < s ∧ k = nI i := by
  refine ⟨fun h => ?_, fun ⟨i, hi, e⟩ => e ▸ hSink_nI hs h8 hi⟩
  obtain ⟨j, j1, rfl⟩ := nI_of (Int32.not_lt.mpr h.1)
  have h2 := h.2.1
  rw [hs] at h2
  exact ⟨j, (nI_ltI j1 (by omega)).mp h2, rfl⟩
theorem z_hasSink' {t : Nat} {k : Int32} (ht : isT t) (hs : σ t 8 = nI s) (h8 : s ≤ 8) (k1 : (∃ i, i < s ∧ k = nI i) → Q (some (.int 1)) (cw_B σ lam)) (k0 : ¬ (∃ i, i < s ∧ k = nI i) → Q (some (.int 0)) (cw_B σ lam)) : cw_Z (d + 1) m_Tree_hasSink [.ref t, .int k] (cw_B σ lam) Q := z_hasSink ht (fun h => k1 ((hSink_N hs h8).mp h)) (fun h => k0 (fun z => h ((hSink_N hs h8).mpr z)))
theorem z_hasNode' {t : Nat} {m : Int32} (ht : isT t) (hW : WF σ t s) (k1 : (∃ n, n < 15 ∧ m = nI n ∧ nodeN s (σ (t + 6)) n) → Q (some (.int 1)) (cw_B σ lam)) (k0 : ¬ (∃ n, n < 15 ∧ m = nI n ∧ nodeN s (σ (t + 6)) n) → Q (some (.int 0)) (cw_B σ lam)) : cw_Z (d + 1) m_Tree_hasNode [.ref t, .int m] (cw_B σ lam) Q := z_hasNode ht (fun h => k1 ((hNode_N hW.1 hW.2.1).mp h)) (fun h => k0 (fun z => h ((hNode_N hW.1 hW.2.1).mpr z)))
theorem z_refresh (hW : WF σ 1 s) (kk : ∀ τ lam', SR σ τ 1 → (∀ p, (p < 10 ∨ 36 < p) → τ p = σ p) → MD τ 10 1 → PD τ lam' s → τ 36 2 = 0 → Q none (cw_B τ lam')) : cw_Z (d + 5) m_CW_refresh [.ref 0] (cw_B σ lam) Q := by
  refine zi (L := [some (.ref 0)]) rfl rfl (fun K hK => ?_)
  refine st_go hK rfl rfl ?_
  refine st_getr hK rfl qf_0_1 ?_
  refine st_go hK rfl rfl ?_
  refine st_getr hK rfl qf_0_0 ?_
  refine cv1 hK rfl qc_10 (Nat.le_of_ble_eq_true rfl) ?_
  refine z_measure' hW hW10 hT1 (fun τ sr1 md1 fr1 => ?_)
  change K _ _ _ _
  refine st_go hK rfl rfl ?_
  refine st_getr hK rfl qf_0_2 ?_
  refine st_go hK rfl rfl ?_
  refine st_getr hK rfl qf_0_0 ?_
  refine st_go hK rfl rfl ?_
  refine st_getr hK rfl qf_0_1 ?_
  refine cv2 hK rfl qc_30 (Nat.le_of_ble_eq_true rfl) ?_
  refine z_embed (sr1.wf hW) md1 (fun υ lam' sr2 fr2 pd2 => ?_)
  change K _ _ _ _
  refine st_go hK rfl rfl ?_
  refine st_getr hK rfl qf_0_3 ?_
  refine st_go hK rfl rfl ?_
  refine st_put hK rfl qf_36_2 (by first | rfl | decide) ?_
  refine st_ret hK rfl rfl ?_
  have srf : SR υ (cw_up υ 36 2 0) 1 := fun i hi => up_ne (by omega)
  have sr : SR σ (cw_up υ 36 2 0) 1 := fun i hi => ((srf i hi).trans (sr2 i hi)).trans (sr1 i hi)
  have sw : SR τ (cw_up υ 36 2 0) 1 := fun i hi => (srf i hi).trans (sr2 i hi)
  refine kk _ lam' sr (fun p hp => ?_) (md1.cg (sr1.wf hW) sw (fun p h1 h2 h3 => by rw [up_ne (by omega), fr2 p (by omega)])) (pd2.cg srf (fun p h1 h2 => up_ne (by omega))) (by rw [up_eq, upd_eq])
  rw [up_ne (by omega), fr2 p (by omega), fr1 p (by omega)]
end
section
variable {d s s' nx c n : Nat} {σ σ1 σ2 τ υ υ2 : cw_V} {lam : Nat → Int64} {Q : cw_Q}
theorem z_cfin (hS : SV σ σ1 nx c) (hn : nx < 8) (hf : ∀ p, (p < 1 ∨ 9 < p) → σ2 p = σ1 p) (hG : GT σ2 1 s') (kk : ∀ τ lam', CHG σ τ lam' s' nx c → SR σ2 τ 1 → Q none (cw_B τ lam')) : cw_Z (d + 5) m_CW_refresh [.ref 0] (cw_B σ2 lam) Q := by
  refine z_refresh hG.1 (fun τ lam' sr fr md pd h0 => kk τ lam' ⟨fun p hp => ?_, ⟨fun p h1 h2 h3 => ?_, ?_, ?_, ?_⟩, sr.te.gt hG, md, pd, Or.inl h0⟩ sr)
  · rw [fr p (by omega), hf p (by omega), hS.1 p (by omega) (by omega)]
  · rw [fr p (by omega), hf p (by omega), hS.1 p (by omega) h3]
  · exact (te_of (fun j hj => by rw [fr _ (by omega), hf _ (by omega)])).trans hS.2.1
  · rw [fr 66 (by omega), hf 66 (by omega)]; exact hS.2.2.1
  · rw [fr 66 (by omega), hf 66 (by omega)]; exact hS.2.2.2
theorem mch_of (hL : LV τ υ c) (hf : ∀ p, (p < 146 ∨ p = 147 ∨ p = 155 ∨ p = 170) → υ2 p = υ p) (h36 : υ2 146 36 = υ 146 36) (h13 : υ2 146 13 = υ 146 13) (hM : MW υ2 s') (h6 : υ2 146 6 = nI s') : MCH τ υ2 s' c := by
  obtain ⟨l1, l2, l3, l4, l5⟩ := hL
  refine ⟨fun p hp => by rw [hf p (by omega), l1 p (by omega) (by omega)], by rw [hf 147 (by omega), l1 147 (by omega) (by omega)], by rw [hf 170 (by omega), l1 170 (by omega) (by omega)], by rw [h36, l2 36 (by decide)], by rw [h13, l3], ⟨fun j hj => by rw [hf 155 (by omega), l4 j hj], fun k hk => by rw [hf 155 (by omega), l5 k hk]⟩, hM, h6⟩
theorem te_mk {t u : Nat} (h1 : ∀ j, j < 8 → τ (t + 1) j = σ (u + 1) j) (h2 : ∀ j, j < 8 → τ (t + 2) j = σ (u + 2) j) (h3 : ∀ j, j < 8 → τ (t + 3) j = σ (u + 3) j) (h4 : ∀ j, j < 8 → τ (t + 4) j = σ (u + 4) j) (h5 : ∀ j, j < 8 → τ (t + 5) j = σ (u + 5) j) (h6 : ∀ j, j < 15 → τ (t + 6) j = σ (u + 6) j) (h7 : ∀ j, j < 15 → τ (t + 7) j = σ (u + 7) j) (h8 : ∀ j, j < 15 → τ (t + 8) j = σ (u + 8) j) (k8 : τ t 8 = σ u 8) (k9 : τ t 9 = σ u 9) (k10 : τ t 10 = σ u 10) (k11 : τ t 11 = σ u 11) : TE τ t σ u := by
  refine ⟨fun i a b j hj => ?_, fun i a b j hj => ?_, fun k a b => ?_⟩
  · rcases (show i = 1 ∨ i = 2 ∨ i = 3 ∨ i = 4 ∨ i = 5 by omega) with rfl | rfl | rfl | rfl | rfl
    · exact h1 j hj
    · exact h2 j hj
    · exact h3 j hj
    · exact h4 j hj
    · exact h5 j hj
  · rcases (show i = 6 ∨ i = 7 ∨ i = 8 by omega) with rfl | rfl | rfl
    · exact h6 j hj
    · exact h7 j hj
    · exact h8 j hj
  · rcases (show k = 8 ∨ k = 9 ∨ k = 10 ∨ k = 11 by omega) with rfl | rfl | rfl | rfl
    · exact k8
    · exact k9
    · exact k10
    · exact k11
/-- behind the class's call the model stands as before -/
theorem INV.mf (hI : INV σ lam s nx c n) (hm : ∀ p, 145 < p → τ p = σ p) : MW τ s ∧ TE (mv τ) 1 σ 1 ∧ τ 146 6 = nI s ∧ τ 146 13 = nI c ∧ mv τ = mv σ := by
  have e : mv τ = mv σ := mv_cg (fun k _ => by rw [hm 146 (by decide)]) (fun p h1 h2 => hm p (by omega))
  exact ⟨hI.2.1.1.cg (by rw [hm 146 (by decide)]) (fun p h1 h2 => hm p (by omega)), by rw [e]; exact hI.2.1.2.1, by rw [hm 146 (by decide)]; exact hI.2.1.2.2, by rw [hm 146 (by decide)]; exact hI.2.2.2.1.1.2.2.2.2, e⟩
theorem LV.mf (hL : LV τ υ c) (hM : MW τ s) : MW υ s ∧ mv υ = mv τ := ⟨hM.cg (hL.2.1 1 (by decide)) (fun p h1 h2 => hL.1 p (by omega) (by omega)), mv_cg (fun k hk => hL.2.1 k (by omega)) (fun p h1 h2 => hL.1 p (by omega) (by omega))⟩
theorem at_eq {t : Nat} (h : TE τ t σ 1) (h8 : s ≤ 8) {x y : Int32} : ff (atP τ t x y) s 0 = ff (atP σ 1 x y) s 0 := by
  have key : ∀ m i, i + m ≤ 8 → ff (atP τ t x y) m i = ff (atP σ 1 x y) m i := by
    intro m
    induction m with
    | zero => intro i _; rfl
    | succ m ih =>
      intro i hi
      have e : atP τ t x y i = atP σ 1 x y i := by
        unfold atP
        rw [h.lo (i := 1) (by decide) (by decide) (by omega), h.lo (i := 2) (by decide) (by decide) (by omega)]
      by_cases z : atP σ 1 x y i = true
      · rw [ff_pos z, ff_pos (e.trans z)]
      · rw [ff_neg z, ff_neg (fun q => z (e.symm.trans q)), ih (i + 1) (by omega)]
  exact key s 0 (by omega)
theorem ff_val {P : Nat → Bool} : ∀ m i, ff P m i = -1 ∨ ∃ k, i ≤ k ∧ k < i + m ∧ ff P m i = nI k := by
  intro m
  induction m with
  | zero => intro i; exact Or.inl rfl
  | succ m ih =>
    intro i
    by_cases z : P i = true
    · exact Or.inr ⟨i, by omega, by omega, ff_pos z⟩
    · rw [ff_neg z]
      rcases ih (i + 1) with q | ⟨k, h1, h2, h3⟩
      · exact Or.inl q
      · exact Or.inr ⟨k, by omega, by omega, h3⟩
/-! touching -/
theorem tch_at {f : Nat → Int32} {a i : Nat} {k : Int32} : tchF f a k i = if i = 0 then k else if i ≤ a then f (i - 1) else f i := by
  unfold tchF upd shF
  by_cases z : i = 0
  · rw [if_pos z, if_pos z]
  · rw [if_neg z, if_neg z]
    by_cases q : i ≤ a
    · rw [if_pos q, if_pos ⟨by omega, q⟩]
    · rw [if_neg q, if_neg (fun w => q w.2)]
theorem PM.touch {f : Nat → Int32} {a : Nat} (h : PM f s) (ha : a < s) : PM (tchF f a (f a)) s := by
  have e : ∀ i, tchF f a (f a) i = f (if i = 0 then a else if i ≤ a then i - 1 else i) := fun i => by
    rw [tch_at]
    by_cases z : i = 0
    · rw [if_pos z, if_pos z]
    · rw [if_neg z, if_neg z]
      by_cases q : i ≤ a
      · rw [if_pos q, if_pos q]
      · rw [if_neg q, if_neg q]
  have lt : ∀ i, i < s → (if i = 0 then a else if i ≤ a then i - 1 else i) < s := fun i hi => by
    split
    · exact ha
    · split <;> omega
  refine ⟨fun i hi => ?_, fun i j hi hj z => ?_, fun k hk => ?_⟩
  · rw [e]; exact h.1 _ (lt i hi)
  · rw [e, e] at z
    have := h.2.1 _ _ (lt i hi) (lt j hj) z
    split at this <;> split at this <;> (try split at this) <;> (try split at this) <;> omega
  · obtain ⟨i, hi, q⟩ := h.2.2 k hk
    refine ⟨if i = a then 0 else if i < a then i + 1 else i, ?_, ?_⟩
    · split
      · omega
      · split <;> omega
    · rw [e, ← q]
      congr 1
      by_cases z : i = a
      · rw [if_pos z, if_pos rfl, z]
      · rw [if_neg z]
        by_cases w : i < a
        · rw [if_pos w, if_neg (by omega), if_pos (by omega)]; omega
        · rw [if_neg w, if_neg (by omega), if_neg (by omega)]
theorem PM.last {f : Nat → Int32} {a : Nat} (h : PM f s) (ha : a < s) : lastK f (f a) s = a := by
  have key : ∀ m, m ≤ s → a < m → lastK f (f a) m = a := by
    intro m
    induction m with
    | zero => intro _ z; omega
    | succ m ih =>
      intro hm hlt
      by_cases z : f m = f a
      · rw [lastK_hit z]
        exact h.2.1 m a (by omega) ha z
      · have : lastK f (f a) (m + 1) = lastK f (f a) m := if_neg z
        rw [this]
        exact ih (by omega) (by
          rcases Nat.lt_or_ge a m with q | q
          · exact q
          · obtain rfl : a = m := by omega
            exact absurd rfl z)
  exact key s (Nat.le_refl s) ha
theorem PM.add {f : Nat → Int32} (h : PM f s) (h8 : s < 8) : PM (upd f s (nI s)) (s + 1) := by
  refine ⟨fun i hi => ?_, fun i j hi hj z => ?_, fun k hk => ?_⟩
  · by_cases z : i = s
    · subst z; rw [upd_eq]; exact ⟨i, by omega, rfl⟩
    · rw [upd_ne z]
      obtain ⟨k, k1, k2⟩ := h.1 i (by omega)
      exact ⟨k, by omega, k2⟩
  · by_cases p : i = s
    · by_cases q : j = s
      · omega
      · subst p
        rw [upd_eq, upd_ne q] at z
        obtain ⟨k, k1, k2⟩ := h.1 j (by omega)
        rw [k2] at z
        have := nI_inj (by omega) (by omega) z
        omega
    · by_cases q : j = s
      · subst q
        rw [upd_eq, upd_ne p] at z
        obtain ⟨k, k1, k2⟩ := h.1 i (by omega)
        rw [k2] at z
        have := nI_inj (by omega) (by omega) z
        omega
      · rw [upd_ne p, upd_ne q] at z
        exact h.2.1 i j (by omega) (by omega) z
  · by_cases z : k = s
    · subst z; exact ⟨k, by omega, upd_eq⟩
    · obtain ⟨i, hi, q⟩ := h.2.2 k (by omega)
      exact ⟨i, by omega, by rw [upd_ne (by omega), q]⟩
theorem tch_upd {f : Nat → Int32} {a i : Nat} {k x : Int32} (h : f a = k ∨ 0 < a ∨ a = 0) : tchF (upd f a x) a k i = tchF f a k i := by
  rw [tch_at, tch_at]
  by_cases z : i = 0
  · rw [if_pos z, if_pos z]
  · rw [if_neg z, if_neg z]
    by_cases q : i ≤ a
    · rw [if_pos q, if_pos q, upd_ne (by omega)]
    · rw [if_neg q, if_neg q, upd_ne (by omega)]
end

