/-! THE CALLS: least -/
section
variable {d s : Nat} {σ : cw_V} {lam : Nat → Int64} {Q : cw_Q}
theorem z_countTree {τ : cw_V} {c : Int32} (kk : ∀ τ', (∀ p, p ≠ 36 → τ' p = τ p) → τ' 36 2 = τ 36 2 → (τ' 36 3, τ' 36 4) = cnt (τ 36 3, τ 36 4) c → Q none (cw_B τ' lam)) : cw_Z (d + 1) m_Search_countTree [.ref 36, .int c] (cw_B τ lam) Q := by
  refine zi (L := [some (.ref 36), some (.int c)]) rfl rfl (fun K hK => ?_)
  refine st_go hK rfl rfl ?_
  refine gi (v := τ 36 4) hK rfl qf_36_4 rfl ?_
  refine st_if hK rfl rfl (fun c4 => ?_) (fun c4 => ?_)
  · refine st_go hK rfl rfl ?_
    refine st_go hK rfl rfl ?_
    refine st_put hK rfl qf_36_3 rfl ?_
    refine st_go hK rfl rfl ?_
    refine st_go hK rfl rfl ?_
    refine st_put hK rfl qf_36_4 rfl ?_
    refine st_go hK rfl rfl ?_
    refine st_ret hK rfl rfl ?_
    refine kk _ (fun p hp => by rw [up_ne hp, up_ne hp]) ?_ ?_
    · simp [cw_up, upd]
    · show _ = (if τ 36 4 = 0 ∨ c < τ 36 3 then (c, 1) else if c = τ 36 3 then (τ 36 3, τ 36 4 + 1) else (τ 36 3, τ 36 4))
      first
        | (rw [if_pos (Or.inl c4)]; simp [cw_up, upd])
        | (rw [if_pos (Or.inr (Int32.not_le.mp c12))]; simp [cw_up, upd])
        | (rw [if_neg (fun z => z.elim c4 (fun w => absurd w (Int32.not_lt.mpr c12))), if_neg c33])
        | (rw [if_neg (fun z => z.elim c4 (fun w => absurd w (Int32.not_lt.mpr c12))), if_pos (Decidable.not_not.mp c33)]; simp [cw_up, upd])
  · refine st_go hK rfl rfl ?_
    refine st_go hK rfl rfl ?_
    refine gi (v := τ 36 3) hK rfl qf_36_3 rfl ?_
    refine st_if hK rfl rfl (fun c12 => ?_) (fun c12 => ?_)
    · refine st_go hK rfl rfl ?_
      refine st_go hK rfl rfl ?_
      refine gi (v := τ 36 3) hK rfl qf_36_3 rfl ?_
      refine st_if hK rfl rfl (fun c33 => ?_) (fun c33 => ?_)
      · refine st_ret hK rfl rfl ?_
        refine kk _ (fun p hp => rfl) ?_ ?_
        · rfl
        · show _ = (if τ 36 4 = 0 ∨ c < τ 36 3 then (c, 1) else if c = τ 36 3 then (τ 36 3, τ 36 4 + 1) else (τ 36 3, τ 36 4))
          first
            | (rw [if_pos (Or.inl c4)]; simp [cw_up, upd])
            | (rw [if_pos (Or.inr (Int32.not_le.mp c12))]; simp [cw_up, upd])
            | (rw [if_neg (fun z => z.elim c4 (fun w => absurd w (Int32.not_lt.mpr c12))), if_neg c33])
            | (rw [if_neg (fun z => z.elim c4 (fun w => absurd w (Int32.not_lt.mpr c12))), if_pos (Decidable.not_not.mp c33)]; simp [cw_up, upd])
      · refine st_go hK rfl rfl ?_
        refine st_go hK rfl rfl ?_
        refine gi (v := τ 36 4) hK rfl qf_36_4 rfl ?_
        refine st_go hK rfl rfl ?_
        refine st_bin hK rfl ?_
        refine st_put hK rfl qf_36_4 rfl ?_
        refine st_ret hK rfl rfl ?_
        refine kk _ (fun p hp => up_ne hp) ?_ ?_
        · simp [cw_up, upd]
        · show _ = (if τ 36 4 = 0 ∨ c < τ 36 3 then (c, 1) else if c = τ 36 3 then (τ 36 3, τ 36 4 + 1) else (τ 36 3, τ 36 4))
          first
            | (rw [if_pos (Or.inl c4)]; simp [cw_up, upd])
            | (rw [if_pos (Or.inr (Int32.not_le.mp c12))]; simp [cw_up, upd])
            | (rw [if_neg (fun z => z.elim c4 (fun w => absurd w (Int32.not_lt.mpr c12))), if_neg c33])
            | (rw [if_neg (fun z => z.elim c4 (fun w => absurd w (Int32.not_lt.mpr c12))), if_pos (Decidable.not_not.mp c33)]; simp [cw_up, upd])
    · refine st_go hK rfl rfl ?_
      refine st_go hK rfl rfl ?_
      refine st_put hK rfl qf_36_3 rfl ?_
      refine st_go hK rfl rfl ?_
      refine st_go hK rfl rfl ?_
      refine st_put hK rfl qf_36_4 rfl ?_
      refine st_go hK rfl rfl ?_
      refine st_ret hK rfl rfl ?_
      refine kk _ (fun p hp => by rw [up_ne hp, up_ne hp]) ?_ ?_
      · simp [cw_up, upd]
      · show _ = (if τ 36 4 = 0 ∨ c < τ 36 3 then (c, 1) else if c = τ 36 3 then (τ 36 3, τ 36 4 + 1) else (τ 36 3, τ 36 4))
        first
          | (rw [if_pos (Or.inl c4)]; simp [cw_up, upd])
          | (rw [if_pos (Or.inr (Int32.not_le.mp c12))]; simp [cw_up, upd])
          | (rw [if_neg (fun z => z.elim c4 (fun w => absurd w (Int32.not_lt.mpr c12))), if_neg c33])
          | (rw [if_neg (fun z => z.elim c4 (fun w => absurd w (Int32.not_lt.mpr c12))), if_pos (Decidable.not_not.mp c33)]; simp [cw_up, upd])
def cL (σ : cw_V) (T : TT) : Int32 := costOf (vT σ T) 1
theorem z_grow (hW : WF σ 1 s) (h6 : s ≤ 6) : ∀ (r k : Nat) (T : TT) (τ : cw_V) (Q : cw_Q), k + r = s → 1 ≤ k → SH s k T → TE τ 37 (vT σ T) 1 → (∀ τ', TE τ' 37 (vT σ T) 1 → (∀ p, (p < 36 ∨ 65 < p) → τ' p = τ p) → τ' 36 2 = τ 36 2 → (τ' 36 3, τ' 36 4) = gw (cL σ) r k T (τ 36 3, τ 36 4) → Q none (cw_B τ' lam)) → cw_Z (d + r + 5) m_Search_growTrees [.ref 36, .int (nI k)] (cw_B τ lam) Q := by
  intro r
  induction r with
  | zero =>
    intro k T τ Q hk h1 hSH te kk
    have hWV : WF (vT σ T) 1 s := vT_wf hW hSH.1
    have e8 : τ 37 8 = nI s := (te.wf hWV).1
    refine zi (L := [some (.ref 36), some (.int (nI k)), none]) rfl rfl (fun K hK => ?_)
    refine st_go hK rfl rfl ?_
    refine st_go hK rfl rfl ?_
    refine st_getr hK rfl qf_36_0 ?_
    refine gi (v := nI s) hK rfl qf_37_8 e8 ?_
    refine st_ifn hK rfl rfl (nI_leI (a := s) (b := k) (by omega) (by omega)) (fun _ => ?_) (fun c => absurd (by omega) c)
    refine st_go hK rfl rfl ?_
    refine st_getr hK rfl qf_36_1 ?_
    refine st_go hK rfl rfl ?_
    refine st_getr hK rfl qf_36_0 ?_
    refine cv1 hK rfl qc_46 (Nat.le_of_ble_eq_true rfl) ?_
    refine z_measure' (te.wf hWV) hW46 hT37 (fun τ1 sr1 md1 fr1 => ?_)
    have te1 : TE τ1 37 (vT σ T) 1 := sr1.te.trans te
    have ec : τ1 46 6 = cL σ T := (md1.2.2.2.2.trans dn_cost).trans (te1.cost hWV)
    change K _ _ _ _
    refine st_go hK rfl rfl ?_
    refine st_go hK rfl rfl ?_
    refine st_getr hK rfl qf_36_1 ?_
    refine gi (v := cL σ T) hK rfl qf_46_6 ec ?_
    refine cv1 hK rfl qc_36 (Nat.le_of_ble_eq_true rfl) ?_
    refine z_countTree (fun τ2 hf2 h22 h34 => ?_)
    change K _ _ _ _
    refine st_ret hK rfl rfl ?_
    have e36 : τ1 36 = τ 36 := fr1 36 (by omega)
    refine kk τ2 ((te_of (fun j hj => hf2 _ (by omega))).trans te1) (fun p hp => by rw [hf2 p (by omega), fr1 p (by omega)]) (by rw [h22, e36]) ?_
    rw [h34, e36]
    rfl
  | succ r ih =>
    intro k T τ Q hk h1 hSH te kk
    have hWV : WF (vT σ T) 1 s := vT_wf hW hSH.1
    have e8 : τ 37 8 = nI s := (te.wf hWV).1
    have hj := hSH.free h1 (by omega)
    have jn : ¬ nodeN s T.1 (7 + k) := by
      rintro (z | z)
      · omega
      · exact z.2.2 hj.2.1
    have nk : nodeN s T.1 k := Or.inl (by omega)
    have tk : T.2.2 k = -1 := hSH.2.2 k (by omega) (by omega)
    have paj : T.2.2 (7 + k) = -1 := hSH.1.2.2.1 _ (by omega) jn
    have rtj : T.2.1 (7 + k) = -1 := (hSH.1.2.1 _ (by omega) (Or.inr hj.2.1)).2
    refine zi (L := [some (.ref 36), some (.int (nI k)), none]) rfl rfl (fun K hK => ?_)
    have loop : ∀ m i ξ, i + m = 15 → TE ξ 37 (vT σ T) 1 → (∀ p, (p < 36 ∨ 65 < p) → ξ p = τ p) → ξ 36 2 = τ 36 2 → (av k m i).foldl (fun a n => gw (cL σ) r (k + 1) (insT k n T) a) (ξ 36 3, ξ 36 4) = gw (cL σ) (r + 1) k T (τ 36 3, τ 36 4) → K 42 [some (.ref 36), some (.int (nI k)), some (.int (nI i))] [] (cw_B ξ lam) := by
      intro m
      induction m with
      | zero =>
        intro i ξ hi te hfr h2 e
        obtain rfl : i = 15 := by omega
        refine st_go hK rfl rfl ?_
        refine st_go hK rfl rfl ?_
        refine st_ifn hK rfl rfl (nI_leI (a := 15) (b := 15) (by omega) (by omega)) (fun _ => ?_) (fun c => absurd (by omega) c)
        refine st_ret hK rfl rfl ?_
        exact kk ξ te hfr h2 e
      | succ m ih2 =>
        intro i ξ hi te hfr h2 e
        have hWt := te.wf hWV
        have w1 : ∀ x, x < 15 → ξ (37 + 6) x = T.1 x := fun x hx => te.hi (i := 6) (by decide) (by decide) hx
        have w2 : ∀ x, x < 15 → ξ (37 + 7) x = T.2.1 x := fun x hx => te.hi (i := 7) (by decide) (by decide) hx
        have w3 : ∀ x, x < 15 → ξ (37 + 8) x = T.2.2 x := fun x hx => te.hi (i := 8) (by decide) (by decide) hx
        have jiff : hJoint ξ 37 (nI i) ↔ (8 ≤ i ∧ i < 7 + k) := by
          by_cases z : 8 ≤ i
          · rw [hJoint_nI z (by omega), w1 i (by omega), hSH.2.1 i z (by omega)]
            exact ⟨fun q => ⟨z, q⟩, fun q => q.2⟩
          · exact ⟨fun q => absurd ((nI_leI (a := 8) (b := i) (by omega) (by omega)).mp q.1) z, fun q => absurd q.1 z⟩
        by_cases hok : i < k ∨ (8 ≤ i ∧ i < 7 + k)
        · have e' : (av k m (i + 1)).foldl (fun a n => gw (cL σ) r (k + 1) (insT k n T) a) (gw (cL σ) r (k + 1) (insT k i T) (ξ 36 3, ξ 36 4)) = gw (cL σ) (r + 1) k T (τ 36 3, τ 36 4) := by
            have : av k (m + 1) i = i :: av k m (i + 1) := if_pos hok
            rw [this, List.foldl_cons] at e
            exact e
          have ni := hSH.node (by omega) hok (by omega)
          have i_k : i ≠ k := by omega
          have j_i : 7 + k ≠ i := by omega
          have hSH2 := hSH.ins h1 (by omega) hok (by omega)
          have hWV2 : WF (vT σ (insT k i T)) 1 s := vT_wf hW hSH2.1
          have body : K 64 [some (.ref 36), some (.int (nI k)), some (.int (nI i))] [] (cw_B ξ lam) := by
            refine st_go hK rfl rfl ?_
            refine st_getr hK rfl qf_36_0 ?_
            refine st_go hK rfl rfl ?_
            refine st_go hK rfl rfl ?_
            refine cv2 hK rfl qc_37 (Nat.le_of_ble_eq_true rfl) ?_
            refine z_graftT hT37 hWt (j := 7 + k) (isF_cg (fun x hx => (w1 x hx).symm) hj) ((nodeN_congr w1).mpr ni) ((nodeN_congr w1).mpr nk) i_k (fun ξ1 hTR => ?_)
            have te1 : TE ξ1 37 (vT σ (insT k i T)) 1 := te_step te hTR (fun p hp => (vT_lo p hp).trans (vT_lo p hp).symm) (fun x hx => gL_cg (w1 x hx)) (fun x hx => gR_cg (w2 x hx)) (fun x hx => gP_cg (w3 x hx) (w3 i (by omega)))
            have e136 : ξ1 36 = ξ 36 := hTR.1 36 (by decide) (by decide) (by decide)
            change K _ _ (_ :: _) _
            refine st_go hK rfl rfl ?_
            refine st_go hK rfl rfl ?_
            refine st_go hK rfl rfl ?_
            refine st_go hK rfl rfl ?_
            refine bnv hK rfl (show _ = nI (k + 1) from nI_add k 1) ?_
            refine cv1 hK rfl qc_36 (Nat.le_of_ble_eq_true rfl) ?_
            rw [show d + (r + 1) + 4 = d + r + 5 by omega]
            refine ih (k + 1) (insT k i T) ξ1 _ (by omega) (by omega) hSH2 te1 (fun ξ2 te2 fr2 h22 h34 => ?_)
            have v1 : ∀ x, x < 15 → ξ2 (37 + 6) x = gL T.1 (7 + k) i x := fun x hx => te2.hi (i := 6) (by decide) (by decide) hx
            have v2 : ∀ x, x < 15 → ξ2 (37 + 7) x = gR T.2.1 (7 + k) i k x := fun x hx => te2.hi (i := 7) (by decide) (by decide) hx
            have v3 : ∀ x, x < 15 → ξ2 (37 + 8) x = gP T.2.2 (7 + k) i k x := fun x hx => te2.hi (i := 8) (by decide) (by decide) hx
            have nn2 : ∀ x, nodeN s (ξ2 (37 + 6)) x ↔ (nodeN s T.1 x ∨ x = 7 + k) := fun x => (nodeN_congr v1).trans (nodeN_g (by omega) (by omega) (by omega))
            change K _ _ _ _
            refine st_go hK rfl rfl ?_
            refine st_getr hK rfl qf_36_0 ?_
            refine st_go hK rfl rfl ?_
            refine cv1 hK rfl qc_37 (Nat.le_of_ble_eq_true rfl) ?_
            refine z_cutT hT37 (te2.wf hWV2) (n := k) (p := 7 + k) (o := i) ((nn2 k).mpr (Or.inl nk)) (by omega) (by omega) ((v3 k (by omega)).trans (by unfold gP; rw [if_neg (by omega), if_pos (Or.inr rfl)])) ((nn2 _).mpr (Or.inr rfl)) ((nn2 i).mpr (Or.inl ni)) (Ne.symm i_k) ((v3 i (by omega)).trans (by unfold gP; rw [if_neg (Ne.symm j_i), if_pos (Or.inl rfl)])) (Or.inr ⟨(v1 _ (by omega)).trans (by unfold gL; rw [if_pos rfl]), (v2 _ (by omega)).trans (by unfold gR; rw [if_pos rfl])⟩) (fun ξ3 hTC => ?_)
            have te3 : TE ξ3 37 (vT σ T) 1 := te_step te2 hTC (fun p hp => (vT_lo p hp).trans (vT_lo p hp).symm) (fun x hx => (cF_cg (v1 x hx)).trans (gL_inv hj.2.1 (hSH.1.noj (by omega) jn hx).1)) (fun x hx => (cF_cg (v2 x hx)).trans (gR_inv rtj (hSH.1.noj (by omega) jn hx).2)) (fun x hx => (cP_cg (v3 x hx) (v3 _ (by omega))).trans (gP_inv paj tk j_i i_k))
            have e336 : ξ3 36 = ξ2 36 := hTC.1 36 (by decide) (by decide) (by decide)
            change K _ _ (_ :: _) _
            refine st_go hK rfl rfl ?_
            refine st_go hK rfl rfl ?_
            rw [nI_1]
            refine st_go hK rfl rfl ?_
            refine ih2 (i + 1) ξ3 (by omega) te3 (fun p hp => by rw [hTC.1 p (by omega) (by omega) (by omega), fr2 p hp, hTR.1 p (by omega) (by omega) (by omega), hfr p hp]) (by rw [e336, h22, e136, h2]) ?_
            rw [e336, h34, e136]
            exact e'
          by_cases hik : i < k
          · skip
            refine st_go hK rfl rfl ?_
            refine st_go hK rfl rfl ?_
            refine st_ifn hK rfl rfl (nI_leI (a := 15) (b := i) (by omega) (by omega)) (fun c => absurd c (by omega)) (fun _ => ?_)
            refine st_go hK rfl rfl ?_
            refine st_go hK rfl rfl ?_
            refine st_ifn hK rfl rfl (nI_ltI (a := i) (b := k) (by omega) (by omega)) (fun _ => ?_) (fun c => absurd (by omega) c)
            exact body
          · have hjt := jiff.mpr (hok.resolve_left hik)
            refine st_go hK rfl rfl ?_
            refine st_go hK rfl rfl ?_
            refine st_ifn hK rfl rfl (nI_leI (a := 15) (b := i) (by omega) (by omega)) (fun c => absurd c (by omega)) (fun _ => ?_)
            refine st_go hK rfl rfl ?_
            refine st_go hK rfl rfl ?_
            refine st_ifn hK rfl rfl (nI_ltI (a := i) (b := k) (by omega) (by omega)) (fun c => absurd c (by omega)) (fun _ => ?_)
            refine st_go hK rfl rfl ?_
            refine st_getr hK rfl qf_36_0 ?_
            refine st_go hK rfl rfl ?_
            refine cv1 hK rfl qc_37 (Nat.le_of_ble_eq_true rfl) ?_
            refine z_isJoint hT37 (fun _ => ?_) (fun c => absurd hjt c)
            change K _ _ (_ :: _) _
            refine st_if hK rfl rfl (fun c => absurd c (by decide)) (fun _ => ?_)
            exact body
        · have e' : (av k m (i + 1)).foldl (fun a n => gw (cL σ) r (k + 1) (insT k n T) a) (ξ 36 3, ξ 36 4) = gw (cL σ) (r + 1) k T (τ 36 3, τ 36 4) := by
            have : av k (m + 1) i = av k m (i + 1) := if_neg hok
            rw [this] at e
            exact e
          have hjt : ¬ hJoint ξ 37 (nI i) := fun z => hok (Or.inr (jiff.mp z))
          refine st_go hK rfl rfl ?_
          refine st_go hK rfl rfl ?_
          refine st_ifn hK rfl rfl (nI_leI (a := 15) (b := i) (by omega) (by omega)) (fun c => absurd c (by omega)) (fun _ => ?_)
          refine st_go hK rfl rfl ?_
          refine st_go hK rfl rfl ?_
          refine st_ifn hK rfl rfl (nI_ltI (a := i) (b := k) (by omega) (by omega)) (fun c => absurd c (by omega)) (fun _ => ?_)
          refine st_go hK rfl rfl ?_
          refine st_getr hK rfl qf_36_0 ?_
          refine st_go hK rfl rfl ?_
          refine cv1 hK rfl qc_37 (Nat.le_of_ble_eq_true rfl) ?_
          refine z_isJoint hT37 (fun c => absurd c hjt) (fun _ => ?_)
          change K _ _ (_ :: _) _
          refine st_if hK rfl rfl (fun _ => ?_) (fun c => absurd (by decide) c)
          refine st_go hK rfl rfl ?_
          rw [nI_1]
          refine st_go hK rfl rfl ?_
          exact ih2 (i + 1) ξ (by omega) te hfr h2 e'
    refine st_go hK rfl rfl ?_
    refine st_go hK rfl rfl ?_
    refine st_getr hK rfl qf_36_0 ?_
    refine gi (v := nI s) hK rfl qf_37_8 e8 ?_
    refine st_ifn hK rfl rfl (nI_leI (a := s) (b := k) (by omega) (by omega)) (fun c => absurd c (by omega)) (fun _ => ?_)
    refine st_go hK rfl rfl ?_
    refine st_go hK rfl rfl ?_
    refine st_ifn hK rfl rfl (nI_ltI (a := k) (b := 6) (by omega) (by omega)) (fun _ => ?_) (fun c => absurd (by omega) c)
    refine st_go hK rfl rfl ?_
    refine st_go hK rfl rfl ?_
    change K _ [some (.ref 36), some (.int (nI k)), some (.int (0 : Int32))] _ _
    exact loop 15 0 τ (by omega) te (fun _ _ => rfl) rfl (by rw [av_asc h1 (by omega)]; rfl)
theorem z_findLeast (hW : WF σ 1 s) (h1 : 1 ≤ s) (h6 : s ≤ 6) (lk : LK σ s) (kk : ∀ τ, (∀ p, (p < 36 ∨ 65 < p) → τ p = σ p) → τ 36 2 = 1 → (∃ x, (τ 36 3, τ 36 4) = gw (cL σ) (s - 1) 1 T0 (x, 0)) → Q none (cw_B τ lam)) : cw_Z (d + (s - 1) + 6) m_Search_findLeast [.ref 36, .ref 1] (cw_B σ lam) Q := by
  refine zi (L := [some (.ref 36), some (.ref 1)]) rfl rfl (fun K hK => ?_)
  rcases lk with h0 | ⟨h1', _, _, x, hx⟩
  · skip
    refine st_go hK rfl rfl ?_
    refine gi (v := σ 36 2) hK rfl qf_36_2 rfl ?_
    refine st_if hK rfl rfl (fun _ => ?_) (fun c => absurd h0 c)
    refine st_go hK rfl rfl ?_
    refine st_getr hK rfl qf_36_0 ?_
    refine st_go hK rfl rfl ?_
    refine cv1 hK rfl qc_37 (Nat.le_of_ble_eq_true rfl) ?_
    refine z_copyFrom hT37 hT1 (by omega) (fun τ0 hc0 => ?_)
    change K _ _ _ _
    refine st_go hK rfl rfl ?_
    refine st_getr hK rfl qf_36_0 ?_
    refine cv0 hK rfl qc_37 (Nat.le_of_ble_eq_true rfl) ?_
    refine z_removeJoints hT37 ?_
    have hTR : TR τ0 (rmF τ0 37 15) 37 (fun _ => -1) (fun _ => -1) (fun _ => -1) := ⟨fun p p6 p7 p8 => if_neg (fun z => by omega), fun x hx => by unfold rmF; rw [if_pos (Or.inl rfl), if_pos hx], fun x hx => by unfold rmF; rw [if_pos (Or.inr (Or.inl rfl)), if_pos hx], fun x hx => by unfold rmF; rw [if_pos (Or.inr (Or.inr rfl)), if_pos hx]⟩
    have te0 : TE (rmF τ0 37 15) 37 (vT σ T0) 1 := te_step hc0.te hTR vT_lo (fun _ _ => rfl) (fun _ _ => rfl) (fun _ _ => rfl)
    have hf0 : ∀ p, (p < 37 ∨ 65 < p) → rmF τ0 37 15 p = σ p := fun p hp => by rw [hTR.1 p (by omega) (by omega) (by omega), hc0.1 p (by omega)]
    change K _ _ _ _
    refine st_go hK rfl rfl ?_
    refine st_go hK rfl rfl ?_
    refine st_put hK rfl qf_36_4 rfl ?_
    refine st_go hK rfl rfl ?_
    refine st_go hK rfl rfl ?_
    refine cv1 hK rfl qc_36 (Nat.le_of_ble_eq_true rfl) ?_
    have te4 : TE (cw_up (rmF τ0 37 15) 36 4 (0 : Int32)) 37 (vT σ T0) 1 := (te_of (fun j hj => up_ne (by omega))).trans te0
    refine z_grow hW h6 (s - 1) 1 T0 (cw_up (rmF τ0 37 15) 36 4 (0 : Int32)) _ (by omega) (by omega) (SH.t0 (by omega)) te4 (fun τ2 te2 fr2 h22 h34 => ?_)
    change K _ _ _ _
    refine st_go hK rfl rfl ?_
    refine st_go hK rfl rfl ?_
    refine st_put hK rfl qf_36_2 (by first | rfl | decide) ?_
    refine st_ret hK rfl rfl ?_
    refine kk _ (fun p hp => ?_) (by rw [up_eq, upd_eq]) ⟨σ 36 3, ?_⟩
    · rw [up_ne (by omega), fr2 p hp, up_ne (by omega), hf0 p (by omega)]
    · have e3 : cw_up τ2 36 2 1 36 3 = τ2 36 3 := by rw [up_eq, upd_ne (by decide)]
      have e4 : cw_up τ2 36 2 1 36 4 = τ2 36 4 := by rw [up_eq, upd_ne (by decide)]
      rw [e3, e4, h34, up_eq, upd_ne (by decide), upd_eq, hf0 36 (by omega)]
  · skip
    refine st_go hK rfl rfl ?_
    refine gi (v := σ 36 2) hK rfl qf_36_2 rfl ?_
    refine st_if hK rfl rfl (fun c => absurd c (fun z => absurd (h1'.symm.trans z) (by decide))) (fun _ => ?_)
    refine st_ret hK rfl rfl ?_
    exact kk σ (fun _ _ => rfl) h1' ⟨x, hx⟩
theorem INV.lk {τ : cw_V} {nx c n : Nat} (hI : INV σ lam s nx c n) (h : ∀ p, (p < 36 ∨ 65 < p) → τ p = σ p) (hL : LK τ s) : INV τ lam s nx c n := by
  obtain ⟨⟨g, md, pd, lk⟩, ⟨mw, te, e6⟩, ⟨c0, c1, c2⟩, hi, tx⟩ := hI
  have sr : SR σ τ 1 := fun i hi => h _ (by omega)
  have emv : mv τ = mv σ := mv_cg (fun k hk => by rw [h 146 (by omega)]) (fun p h1 h2 => h p (by omega))
  refine ⟨⟨sr.te.gt g, md.cg g.1 sr (fun p h1 h2 h3 => h p (by omega)), pd.cg sr (fun p h1 h2 => h p (by omega)), hL⟩, ⟨mw.cg (by rw [h 146 (by omega)]) (fun p h1 h2 => h p (by omega)), ?_, by rw [h 146 (by omega)]; exact e6⟩, ⟨?_, ?_, ?_⟩, hi.cg (h 66 (by omega)) (by rw [h 146 (by omega)]) (fun p h1 h2 => h p (by omega)) (fun j _ => congrFun (h 155 (by omega)) j), tx.cg (by rw [h 140 (by omega)]) (by rw [h 146 (by omega)]) (fun j _ => congrFun (h 170 (by omega)) j) (fun j _ => congrFun (h 141 (by omega)) j)⟩
  · rw [emv]; exact te.trans sr.te.symm
  · rw [h 147 (by omega), h 0 (by omega)]; exact c0
  · rw [h 147 (by omega), h 0 (by omega)]; exact c1
  · rw [h 147 (by omega), h 0 (by omega)]; exact c2
/-! the model -/
theorem z_growsBy {υ : cw_V} {c : Nat} {Tv : TT} (hW : WF σ 1 s) (h1 : 1 ≤ s) (h6 : s ≤ 6) (hc : c < 2 ^ 31) (hM : MW υ s) (teV : TE (mv υ) 1 (vT σ Tv) 1) (kk : ∀ τ, MR υ τ → (∀ q, τ 154 q = υ 154 q) → MW τ s → TE (mv τ) 1 (vT σ (dcT (s - 1) 1 c T0)) 1 → Q none (cw_B τ lam)) : cw_Z (d + 3) m_Mo_growsBy [.ref 146, .int (nI c)] (cw_B υ lam) Q := by
  refine zi (L := [some (.ref 146), some (.int (nI c)), none, none, none, none, none, none]) rfl rfl (fun K hK => ?_)
  have h8 := hW.2.1
  have loop : ∀ r q rest T ξ (x3 : Int32) (x6 x7 : Option Value), q + 1 + r = s → rest < 2 ^ 31 → SH s (q + 1) T → dcT r (q + 1) rest T = dcT (s - 1) 1 c T0 → MR υ ξ → (∀ p, ξ 154 p = υ 154 p) → MW ξ s → TE (mv ξ) 1 (vT σ T) 1 → (∀ p, p < 2 * q + 1 → ξ 169 p = nI (rwN p)) → K 20 [some (.ref 146), some (.int (nI c)), some (.int (nI rest)), some (.int x3), some (.int (nI (2 * q + 1))), some (.int (nI (q + 1))), x6, x7] [] (cw_B ξ lam) := by
    intro r
    induction r with
    | zero =>
      intro q rest T ξ x3 x6 x7 hq hrest hSH e hR h154 hMx te hrow
      obtain rfl : q + 1 = s := by omega
      refine st_go hK rfl rfl ?_
      refine st_go hK rfl rfl ?_
      refine gi (v := nI (q + 1)) hK rfl qf_146_1 hMx.1 ?_
      refine st_ifn hK rfl rfl (nI_leI (a := q + 1) (b := q + 1) (by omega) (by omega)) (fun _ => ?_) (fun c => absurd (by omega) c)
      refine st_ret hK rfl rfl ?_
      have e2 : T = dcT (q + 1 - 1) 1 c T0 := e
      rw [← e2] at kk
      exact kk ξ hR h154 hMx te
    | succ r ih =>
      intro q rest T ξ x3 x6 x7 hq hrest hSH e hR h154 hMx te hrow
      have hpl : rest % (2 * q + 1) < 2 * q + 1 := Nat.mod_lt _ (by omega)
      have hdv : rest / (2 * q + 1) ≤ rest := Nat.div_le_self _ _
      have hrw := hrow _ hpl
      have hok : okN (q + 1) (rwN (rest % (2 * q + 1))) := rw_ok (by omega) (by omega)
      have l15 : rwN (rest % (2 * q + 1)) < 15 := by rcases hok with z | z <;> omega
      have e' : dcT r (q + 1 + 1) (rest / (2 * q + 1)) (insT (q + 1) (rwN (rest % (2 * q + 1))) T) = dcT (s - 1) 1 c T0 := by
        rw [← e]
        show _ = dcT r (q + 1 + 1) (rest / (2 * (q + 1) - 1)) (insT (q + 1) (rwN (rest % (2 * (q + 1) - 1))) T)
        rw [show 2 * (q + 1) - 1 = 2 * q + 1 by omega]
      obtain ⟨w1, w2, w3⟩ : (∀ x, x < 15 → ξ 151 x = T.1 x) ∧ (∀ x, x < 15 → ξ 152 x = T.2.1 x) ∧ (∀ x, x < 15 → ξ 153 x = T.2.2 x) := ⟨fun x hx => te.hi (i := 6) (by decide) (by decide) hx, fun x hx => te.hi (i := 7) (by decide) (by decide) hx, fun x hx => te.hi (i := 8) (by decide) (by decide) hx⟩
      obtain ⟨ρ, hρ⟩ := hSH.1.2.2.2.2.2
      have nn := hSH.node (by omega) hok l15
      have nk : nodeN s T.1 (q + 1) := Or.inl (by omega)
      have hj := hSH.free (by omega) (by omega)
      have hSH2 := hSH.ins (by omega) (by omega) hok l15
      refine st_go hK rfl rfl ?_
      refine st_go hK rfl rfl ?_
      refine gi (v := nI s) hK rfl qf_146_1 hMx.1 ?_
      refine st_ifn hK rfl rfl (nI_leI (a := s) (b := q + 1) (by omega) (by omega)) (fun c => absurd c (by omega)) (fun _ => ?_)
      refine st_go hK rfl rfl ?_
      refine st_go hK rfl rfl ?_
      refine dvv (v := nI (rest % (2 * q + 1))) hK rfl (fun z => by have := nI_inj (a := 2 * q + 1) (b := 0) (by omega) (by omega) z; omega) (pk_rem (a := rest) (d := 2 * q + 1) hrest (by omega) (by omega)) ?_
      refine st_go hK rfl rfl ?_
      change K _ [some (.ref 146), some (.int (nI c)), some (.int (nI rest)), some (.int x3), some (.int (nI (2 * q + 1))), some (.int (nI (q + 1))), some (.int (nI (rest % (2 * q + 1)))), _] _ _
      refine st_go hK rfl rfl ?_
      refine st_go hK rfl rfl ?_
      refine dvv (v := nI (rest / (2 * q + 1))) hK rfl (fun z => by have := nI_inj (a := 2 * q + 1) (b := 0) (by omega) (by omega) z; omega) (pk_div (a := rest) (d := 2 * q + 1) hrest (by omega) (by omega)) ?_
      refine st_go hK rfl rfl ?_
      change K _ [some (.ref 146), some (.int (nI c)), some (.int (nI (rest / (2 * q + 1)))), some (.int x3), some (.int (nI (2 * q + 1))), some (.int (nI (q + 1))), some (.int (nI (rest % (2 * q + 1)))), _] _ _
      refine st_go hK rfl rfl ?_
      refine st_go hK rfl rfl ?_
      refine st_getr hK rfl qf_146_34 ?_
      refine st_go hK rfl rfl ?_
      refine ga (e := rest % (2 * q + 1)) (v := nI (rwN (rest % (2 * q + 1)))) hK rfl qa_169 rfl (by omega) rfl hrw ?_
      refine st_go hK rfl rfl ?_
      refine cv2 hK rfl qc_146 (Nat.le_of_ble_eq_true rfl) ?_
      refine z_lays hMx (j := 7 + (q + 1)) (isF_cg (fun x hx => (w1 x hx).symm) hj) ((nodeN_congr w1).mpr nn) ((nodeN_congr w1).mpr nk) ((w3 _ (by omega)).trans (hSH.2.2 _ (by omega) (by omega))) (Dep.cg hρ h8 w1 w3) (fun z => hSH.nin (by omega) hok l15 hρ ((Inr.cg hSH.1 hρ w3 nn).mp z)) (fun ξ1 mw4 hMT => ?_)
      have te1 : TE (mv ξ1) 1 (vT σ (insT (q + 1) (rwN (rest % (2 * q + 1))) T)) 1 := te_rows te hMT.mr (fun p hp => (vT_lo p hp).trans (vT_lo p hp).symm) (fun x hx => (hMT.2.1 x hx).trans (gL_cg (w1 x hx))) (fun x hx => (hMT.2.2.1 x hx).trans (gR_cg (w2 x hx))) (fun x hx => (hMT.2.2.2 x hx).trans (gP_cg (w3 x hx) (w3 _ l15)))
      change K _ _ (_ :: _) _
      refine st_go hK rfl rfl ?_
      change K _ [some (.ref 146), some (.int (nI c)), some (.int (nI (rest / (2 * q + 1)))), some (.int x3), some (.int (nI (2 * q + 1))), some (.int (nI (q + 1))), some (.int (nI (rest % (2 * q + 1)))), some (.int (nI (7 + (q + 1))))] _ _
      refine st_go hK rfl rfl ?_
      refine st_getr hK rfl qf_146_34 ?_
      refine st_go hK rfl rfl ?_
      refine st_go hK rfl rfl ?_
      refine sa (e := 2 * q + 1) hK rfl qa_169 rfl (by omega) rfl ?_
      refine st_go hK rfl rfl ?_
      refine st_getr hK rfl qf_146_34 ?_
      refine st_go hK rfl rfl ?_
      refine st_go hK rfl rfl ?_
      refine bnv hK rfl (show _ = nI ((2 * q + 1) + 1) from nI_add (2 * q + 1) 1) ?_
      refine st_go hK rfl rfl ?_
      refine sa (e := (2 * q + 1) + 1) hK rfl qa_169 rfl (by omega) rfl ?_
      refine st_go hK rfl rfl ?_
      refine st_go hK rfl rfl ?_
      rw [nI_1]
      refine st_go hK rfl rfl ?_
      rw [show nI (2 * q + 1) + 2 = nI (2 * (q + 1) + 1) from nI_add (2 * q + 1) 2]
      have fr : ∀ p, p ≠ 169 → (cw_up (cw_up ξ1 169 (2 * q + 1) (nI (q + 1))) 169 ((2 * q + 1) + 1) (nI (7 + (q + 1)))) p = ξ1 p := fun p hp => by rw [up_ne hp, up_ne hp]
      refine ih (q + 1) _ _ _ _ _ _ (by omega) (by omega) hSH2 e' ⟨fun p hp => by rw [fr p (by omega)]; exact (hR.trans hMT.mr).1 p hp, fun k hk => by rw [fr 146 (by decide)]; exact (hR.trans hMT.mr).2 k hk⟩ (fun p => by rw [fr 154 (by decide), hMT.1 154 (by decide)]; exact h154 p) (mw4.cg (by rw [fr 146 (by decide)]) (fun p h1 h2 => fr p (by omega))) (by rw [mv_cg (σ := ξ1) (fun k hk => by rw [fr 146 (by decide)]) (fun p h1 h2 => fr p (by omega))]; exact te1) (fun p hp => ?_)
      rw [up_eq, up_eq]
      by_cases z1 : p = 2 * q + 1 + 1
      · rw [z1, upd_eq]
        congr 1
        unfold rwN
        rw [if_neg (by omega), if_neg (by omega)]
        omega
      · rw [upd_ne z1]
        by_cases z2 : p = 2 * q + 1
        · rw [z2, upd_eq]
          congr 1
          unfold rwN
          rw [if_pos (by omega)]
          omega
        · rw [upd_ne z2, hMT.1 169 (by decide)]
          exact hrow p (by omega)
  refine st_go hK rfl rfl ?_
  refine st_go hK rfl rfl ?_
  change K _ [some (.ref 146), some (.int (nI c)), some (.int (nI c)), _, _, _, _, _] _ _
  refine st_go hK rfl rfl ?_
  refine cv0 hK rfl qc_146 (Nat.le_of_ble_eq_true rfl) ?_
  refine z_noJoints hM (fun ξ1 mw1 hMT => ?_)
  change K _ _ (_ :: _) _
  refine st_go hK rfl rfl ?_
  change K _ [some (.ref 146), some (.int (nI c)), some (.int (nI c)), some (.int (nI (jcN (mv υ) 1 7))), _, _, _, _] _ _
  refine st_go hK rfl rfl ?_
  refine st_go hK rfl rfl ?_
  change K _ [some (.ref 146), some (.int (nI c)), some (.int (nI c)), some (.int (nI (jcN (mv υ) 1 7))), some (.int (1 : Int32)), _, _, _] _ _
  refine st_go hK rfl rfl ?_
  refine st_getr hK rfl qf_146_34 ?_
  refine st_go hK rfl rfl ?_
  refine st_go hK rfl rfl ?_
  refine sa (e := 0) hK rfl qa_169 rfl (by decide) rfl ?_
  refine st_go hK rfl rfl ?_
  refine st_go hK rfl rfl ?_
  change K _ [some (.ref 146), some (.int (nI c)), some (.int (nI c)), some (.int (nI (jcN (mv υ) 1 7))), some (.int (1 : Int32)), some (.int (1 : Int32)), _, _] _ _
  have fr : ∀ p, p ≠ 169 → cw_up ξ1 169 0 (0 : Int32) p = ξ1 p := fun p hp => up_ne hp
  refine loop (s - 1) 0 c T0 _ _ _ _ (by omega) hc (SH.t0 h8) rfl ⟨fun p hp => by rw [fr p (by omega)]; exact hMT.mr.1 p hp, fun k hk => by rw [fr 146 (by decide)]; exact hMT.mr.2 k hk⟩ (fun p => by rw [fr 154 (by decide), hMT.1 154 (by decide)]) (mw1.cg (by rw [fr 146 (by decide)]) (fun p h1 h2 => fr p (by omega))) ?_ (fun p hp => ?_)
  · rw [mv_cg (σ := ξ1) (fun k hk => by rw [fr 146 (by decide)]) (fun p h1 h2 => fr p (by omega))]
    exact te_rows teV hMT.mr (fun p hp => (vT_lo p hp).trans (vT_lo p hp).symm) hMT.2.1 hMT.2.2.1 hMT.2.2.2
  · obtain rfl : p = 0 := by omega
    rw [up_eq, upd_eq]
    rfl

end
