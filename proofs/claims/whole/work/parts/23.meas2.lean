section
variable {d w t : Nat} {σ : cw_V} {lam : Nat → Int64} {Q : cw_Q} {U : Int32 → Nat → Int32}
theorem isM_of {w : Nat} (hw : isW w) : isM (w + 3) := ⟨w, hw, rfl⟩
theorem z_measure (hw : isW w) (ht : isT t) (hD : GD σ t (dnF σ t) (tlF σ t 15).length) (hU : Lab σ t U) (kk : ∀ τ, MS σ τ w t (dnF σ t) (tlF σ t 15).length U → Q none (cw_B τ lam)) : cw_Z (d + 4) m_Wires_measure [.ref w, .ref t] (cw_B σ lam) Q := by
  refine zi (L := [some (.ref w), some (.ref t), none, none, none, none, none]) rfl rfl (fun K hK => ?_)
  have hlen := hD.1.1
  have htc := hD.1.2
  generalize eD : dnF σ t = D at hD kk hlen htc
  generalize etc : (tlF σ t 15).length = tc at hD kk htc
  -- the tops
  have loop2 : ∀ m i τ (x4 x5 x6 : Option Value) (sk : Int32), i + m = tc → MI σ τ w t D tc U 0 → (∀ k, k < i → τ (pp w (D.getD k 0)) 6 = -1) → τ w 6 = scF U D i → K 127 [some (.ref w), some (.ref t), some (.int sk), some (.int (nI i)), x4, x5, x6] [] (cw_B τ lam) := by
    intro m
    induction m with
    | zero =>
      intro i τ x4 x5 x6 sk hi hM h6 hs
      refine st_go hK rfl rfl ?_
      refine st_go hK rfl rfl ?_
      refine st_geti hK rfl (Wires_f5 hw) ?_
      rw [hM.2.1.2.1]
      refine st_if hK rfl rfl (fun _ => ?_) (fun c => absurd ((nI_leI (by omega) (by omega)).mpr (by omega)) c)
      refine st_ret hK rfl rfl ?_
      have : i = tc := by omega
      subst this
      exact kk τ ⟨hM, h6, hs⟩
    | succ m ih =>
      intro i τ x4 x5 x6 sk hi hM h6 hs
      have hin := (hD.2.1 i (by omega)).in
      refine st_go hK rfl rfl ?_
      refine st_go hK rfl rfl ?_
      refine st_geti hK rfl (Wires_f5 hw) ?_
      rw [hM.2.1.2.1]
      refine st_if hK rfl rfl (fun c => absurd ((nI_leI (by omega) (by omega)).mp c) (by omega)) (fun _ => ?_)
      refine st_go hK rfl rfl ?_
      refine st_go hK rfl rfl ?_
      refine st_if hK rfl rfl (fun c => absurd (yle (a := 15) (i := i) (by decide) (by omega) c) (by omega)) (fun _ => ?_)
      refine st_go hK rfl rfl ?_
      refine st_go hK rfl rfl ?_
      refine st_getr hK rfl (Wires_f3 hw) ?_
      refine st_go hK rfl rfl ?_
      refine st_iald hK rfl (Wires_a3 hw) (cw_in_nI (n := 15) (by omega) (by decide)) ?_
      rw [nI_clamp (by omega), hM.2.1.2.2 i (by omega)]
      refine cv1 hK rfl (Wires_c hw) (Nat.le_of_ble_eq_true rfl) ?_
      refine z_part hw hin ?_
      change K _ _ (_ :: _) _
      have hP := isP_of hw hin
      have lp := pp_lt (w := w) hin
      refine st_go hK rfl rfl ?_
      refine st_go hK rfl rfl ?_
      refine st_go hK rfl rfl ?_
      refine st_put hK rfl (Part_f6 hP) rfl ?_
      refine st_go hK rfl rfl ?_
      refine st_go hK rfl rfl ?_
      refine st_geti hK rfl (Wires_f6 hw) ?_
      refine st_go hK rfl rfl ?_
      refine st_geti hK rfl (Part_f7 hP) ?_
      refine st_bin hK rfl ?_
      refine st_put hK rfl (Wires_f6 hw) rfl ?_
      refine st_go hK rfl rfl ?_
      refine st_go hK rfl rfl ?_
      have epp : w + 5 + (D.getD i 0).toNatClampNeg = pp w (D.getD i 0) := rfl
      rw [epp]
      have hcost : τ (pp w (D.getD i 0)) 7 = U (D.getD i 0) 7 := hM.2.2.1 i (Nat.zero_le _) (by omega) 7 (by decide) (by decide)
      have e1 : cw_up τ (pp w (D.getD i 0)) 6 (-1) w 6 + cw_up τ (pp w (D.getD i 0)) 6 (-1) (pp w (D.getD i 0)) 7 = scF U D (i + 1) := by
        rw [up_ne (by omega), up_eq, upd_ne (by decide), hs, hcost]
        rfl
      rw [e1]
      generalize eτ : cw_up (cw_up τ (pp w (D.getD i 0)) 6 (-1)) w 6 (scF U D (i + 1)) = τ1
      have t1 : ∀ p, p ≠ w → p ≠ pp w (D.getD i 0) → τ1 p = τ p := fun p h1 h2 => by rw [← eτ, up_ne h1, up_ne h2]
      have t2 : τ1 (pp w (D.getD i 0)) = upd (τ (pp w (D.getD i 0))) 6 (-1) := by rw [← eτ, up_ne (by omega), up_eq]
      have t3 : τ1 w = upd (τ w) 6 (scF U D (i + 1)) := by rw [← eτ, up_eq, up_ne (by omega)]
      have six : ∀ m' : Int32, cw_in m' 15 = true → pp w m' ≠ pp w (D.getD i 0) → τ1 (pp w m') 6 = τ (pp w m') 6 := fun m' h' hne => by
        have := pp_lt (w := w) h'
        rw [t1 _ (by omega) hne]
      have := ih (i + 1) τ1 (some (.ref (pp w (D.getD i 0)))) x5 x6 sk (by omega) ⟨fun p hp => ?_, ⟨?_, ?_, fun j hj => ?_⟩, fun k hk hkl => ?_, fun k hk hkl hjk => ?_⟩ (fun k hk => ?_) (by rw [t3, upd_eq])
      · rw [← nI_1] at this
        exact this
      · rw [t1 p (by omega) (by omega), hM.1 p hp]
      · rw [t3, upd_ne (by decide), hM.2.1.1]
      · rw [t3, upd_ne (by decide), hM.2.1.2.1]
      · rw [t1 (w + 4) (by omega) (by omega), hM.2.1.2.2 j hj]
      · by_cases e : k = i
        · subst e
          intro k' h1 h2
          rw [t2, upd_ne h2]
          exact hM.2.2.1 k hk hkl k' h1 h2
        · have lk := pp_lt (w := w) (hD.2.1 k hkl).in
          rw [t1 _ (by omega) (fun z => e (hD.2.2.2.1 k i hkl (by omega) (by unfold pp at z; omega)))]
          exact hM.2.2.1 k hk hkl
      · obtain ⟨ka, kb, a1, a2, b1, b2, hab, ea, eb⟩ := hD.2.2.1 k hkl hjk
        have old := hM.2.2.2 k hk hkl hjk
        have q1 := hD.2.2.2.2.2 k ka hkl a2 hjk (Or.inl ea)
        have q2 := hD.2.2.2.2.2 k kb hkl b2 hjk (Or.inr eb)
        have z1 := six (D.getD ka 0) (hD.2.1 ka a2).in (fun z => absurd (hD.2.2.2.1 ka i a2 (by omega) (by unfold pp at z; omega)) (by omega))
        have z2 := six (D.getD kb 0) (hD.2.1 kb b2).in (fun z => absurd (hD.2.2.2.1 kb i b2 (by omega) (by unfold pp at z; omega)) (by omega))
        rw [ea] at z1
        rw [eb] at z2
        rw [z1, z2]
        exact old
      · by_cases e : k = i
        · subst e
          rw [t2, upd_eq]
        · rw [six _ (hD.2.1 k (by omega)).in (fun z => e (hD.2.2.2.1 k i (by omega) (by omega) (by unfold pp at z; omega)))]
          exact h6 k (by omega)
  -- the nodes, upward
  have loop1 : ∀ i τ (x4 x5 x6 : Option Value), i ≤ D.length → MI σ τ w t D tc U i → K 25 [some (.ref w), some (.ref t), some (.int (skT σ t)), some (.int (nI i - 1)), x4, x5, x6] [] (cw_B τ lam) := by
    intro i
    induction i with
    | zero =>
      intro τ x4 x5 x6 hi hM
      refine st_go hK rfl rfl ?_
      refine st_if hK rfl rfl (fun _ => ?_) (fun c => absurd (by decide) c)
      refine st_go hK rfl rfl ?_
      refine st_go hK rfl rfl ?_
      refine st_put hK rfl (Wires_f6 hw) rfl ?_
      refine st_go hK rfl rfl ?_
      refine st_go hK rfl rfl ?_
      refine loop2 tc 0 _ x4 x5 x6 _ (by omega) ⟨fun p hp => ?_, ⟨?_, ?_, fun j hj => ?_⟩, fun k hk hkl => ?_, fun k hk hkl hjk => ?_⟩ (fun k hk => absurd hk (Nat.not_lt_zero k)) (by rw [up_eq, upd_eq]; rfl)
      · rw [up_ne (by omega), hM.1 p hp]
      · rw [up_eq, upd_ne (by decide), hM.2.1.1]
      · rw [up_eq, upd_ne (by decide), hM.2.1.2.1]
      · rw [up_ne (by omega), hM.2.1.2.2 j hj]
      · have lk := pp_lt (w := w) (hD.2.1 k hkl).in
        rw [up_ne (by omega)]
        exact hM.2.2.1 k hk hkl
      · have old := hM.2.2.2 k hk hkl hjk
        have e1 : pp w (lfT σ t (D.getD k 0)) ≠ w := by unfold pp; omega
        have e2 : pp w (rtT σ t (D.getD k 0)) ≠ w := by unfold pp; omega
        rw [up_ne e1, up_ne e2]
        exact old
    | succ i ih =>
      intro τ x4 x5 x6 hi hM
      rw [nI_pred]
      have hin := (hD.2.1 i (by omega)).in
      have hP := isP_of hw hin
      refine st_go hK rfl rfl ?_
      refine st_if hK rfl rfl (fun c => absurd c (nI_pos (by omega))) (fun _ => ?_)
      refine st_go hK rfl rfl ?_
      refine st_getr hK rfl (Wires_f3 hw) ?_
      refine st_go hK rfl rfl ?_
      refine st_iald hK rfl (Wires_a3 hw) (cw_in_nI (n := 15) (by omega) (by decide)) ?_
      rw [nI_clamp (by omega), hM.2.1.2.2 i (by omega)]
      refine st_go hK rfl rfl ?_
      refine st_go hK rfl rfl ?_
      refine st_go hK rfl rfl ?_
      refine cv1 hK rfl (Tree_c ht) (Nat.le_of_ble_eq_true rfl) ?_
      have row := fun k (hk : k ≤ 8) => hM.row hw ht hk
      have row0 : τ t = σ t := row 0 (by decide)
      refine z_isJoint ht (fun hj => ?_) (fun hj => ?_)
      · change K _ _ (_ :: _) _
        rw [hJoint_eq (row 6 (by decide))] at hj
        obtain ⟨ka, kb, a1, a2, b1, b2, hab, ea, eb⟩ := hD.2.2.1 i (by omega) hj
        have ina := (hD.2.1 ka a2).in
        have inb := (hD.2.1 kb b2).in
        rw [ea] at ina
        rw [eb] at inb
        have hPa := isP_of hw ina
        have hPb := isP_of hw inb
        have hnode : hNode τ t (D.getD i 0) := (hNode_eq (congrFun row0 8) (row 6 (by decide))).mpr hj.node
        refine st_if hK rfl rfl (fun c => absurd c (by decide)) (fun _ => ?_)
        refine st_go hK rfl rfl ?_
        refine st_go hK rfl rfl ?_
        refine st_go hK rfl rfl ?_
        refine cv1 hK rfl (Tree_c ht) (Nat.le_of_ble_eq_true rfl) ?_
        refine z_leftOf ht (fun _ => ?_) (fun z => absurd hnode z)
        change K _ _ (_ :: _) _
        rw [row 6 (by decide)]
        refine cv1 hK rfl (Wires_c hw) (Nat.le_of_ble_eq_true rfl) ?_
        refine z_part hw ina ?_
        change K _ _ (_ :: _) _
        refine st_go hK rfl rfl ?_
        refine st_go hK rfl rfl ?_
        refine st_go hK rfl rfl ?_
        refine st_go hK rfl rfl ?_
        refine cv1 hK rfl (Tree_c ht) (Nat.le_of_ble_eq_true rfl) ?_
        refine z_rightOf ht (fun _ => ?_) (fun z => absurd hnode z)
        change K _ _ (_ :: _) _
        rw [row 7 (by decide)]
        refine cv1 hK rfl (Wires_c hw) (Nat.le_of_ble_eq_true rfl) ?_
        refine z_part hw inb ?_
        change K _ _ (_ :: _) _
        refine st_go hK rfl rfl ?_
        refine st_go hK rfl rfl ?_
        refine st_getr hK rfl (Wires_f2 hw) ?_
        refine st_go hK rfl rfl ?_
        refine st_go hK rfl rfl ?_
        refine st_go hK rfl rfl ?_
        refine cv3 hK rfl (Merge_c (isM_of hw)) (Nat.le_of_ble_eq_true rfl) ?_
        refine z_weigh (isM_of hw) hPa hPb ?_
        change K _ _ _ _
        refine st_go hK rfl rfl ?_
        refine st_getr hK rfl (Wires_f2 hw) ?_
        refine st_go hK rfl rfl ?_
        refine st_go hK rfl rfl ?_
        refine cv1 hK rfl (Wires_c hw) (Nat.le_of_ble_eq_true rfl) ?_
        refine z_part hw hin ?_
        change K _ _ (_ :: _) _
        refine st_go hK rfl rfl ?_
        refine st_go hK rfl rfl ?_
        refine cv3 hK rfl (Merge_c (isM_of hw)) (Nat.le_of_ble_eq_true rfl) ?_
        have nia : nd (D.getD i 0) ≠ nd (lfT σ t (D.getD i 0)) := fun e => by
          rw [← ea] at e
          have := hD.2.2.2.1 i ka (by omega) a2 e
          omega
        have nib : nd (D.getD i 0) ≠ nd (rtT σ t (D.getD i 0)) := fun e => by
          rw [← eb] at e
          have := hD.2.2.2.1 i kb (by omega) b2 e
          omega
        have nab : nd (lfT σ t (D.getD i 0)) ≠ nd (rtT σ t (D.getD i 0)) := fun e => by
          rw [← ea, ← eb] at e
          exact hab (hD.2.2.2.1 ka kb a2 b2 e)
        refine z_join (isM_of hw) hP hPa hPb (fun e => nia (Nat.add_left_cancel e)) (fun e => nib (Nat.add_left_cancel e)) (fun e => nab (Nat.add_left_cancel e)) (fun τ1 hτ1 => ?_)
        change K _ _ _ _
        refine st_go hK rfl rfl ?_
        refine st_go hK rfl rfl ?_
        refine st_go hK rfl rfl ?_
        have hM1 := hM.joint hw hD hU (by omega) hj hτ1
        have := ih τ1 (some (.int (D.getD i 0))) (some (.ref (pp w (lfT σ t (D.getD i 0))))) (some (.ref (pp w (rtT σ t (D.getD i 0))))) (by omega) hM1
        rw [Int32.sub_eq_add_neg] at this
        exact this
      · change K _ _ (_ :: _) _
        rw [hJoint_eq (row 6 (by decide))] at hj
        have hs := (hD.2.1 i (by omega)).sink hj
        have hs' : hSink τ t (D.getD i 0) := by
          unfold hSink
          rw [congrFun row0 8]
          exact hs
        refine st_if hK rfl rfl (fun _ => ?_) (fun c => absurd (by decide) c)
        refine st_go hK rfl rfl ?_
        refine st_go hK rfl rfl ?_
        refine cv1 hK rfl (Wires_c hw) (Nat.le_of_ble_eq_true rfl) ?_
        refine z_part hw hin ?_
        change K _ _ (_ :: _) _
        refine st_go hK rfl rfl ?_
        refine st_go hK rfl rfl ?_
        refine cv2 hK rfl (Part_c hP) (Nat.le_of_ble_eq_true rfl) ?_
        refine z_setSink hP ht hs' (fun τ1 hτ1 => ?_)
        change K _ _ _ _
        refine st_go hK rfl rfl ?_
        refine st_go hK rfl rfl ?_
        have hM1 := hM.sink hw ht hD hU (by omega) hs hj hτ1.1 hτ1.2
        have := ih τ1 (some (.int (D.getD i 0))) x5 x6 (by omega) hM1
        rw [Int32.sub_eq_add_neg] at this
        exact this
  refine st_go hK rfl rfl ?_
  refine st_go hK rfl rfl ?_
  refine cv1 hK rfl (Wires_c hw) (Nat.le_of_ble_eq_true rfl) ?_
  refine z_listDownward hw ht (by rw [eD]; exact hlen) (fun τ hτ h5 => ?_)
  rw [eD] at hτ
  rw [etc] at h5
  change K _ _ _ _
  refine st_go hK rfl rfl ?_
  refine st_geti hK rfl (Tree_f9 ht) ?_
  rw [hτ.row0 hw ht]
  refine st_go hK rfl rfl ?_
  refine st_bin hK rfl ?_
  refine st_go hK rfl rfl ?_
  refine st_go hK rfl rfl ?_
  refine st_geti hK rfl (Wires_f4 hw) ?_
  rw [hτ.2.2.1]
  refine st_go hK rfl rfl ?_
  refine st_min hK rfl (Nat.le_of_ble_eq_true rfl) ?_
  have e15 : (if (15 : Int32) < nI D.length then (15 : Int32) else nI D.length) = nI D.length := by
    rw [if_neg]
    exact nI_nlt (a := 15) (b := D.length) hlen (by decide)
  rw [e15]
  refine st_go hK rfl rfl ?_
  refine st_bin hK rfl ?_
  refine st_go hK rfl rfl ?_
  exact loop1 D.length τ none none none (Nat.le_refl _) ⟨fun p hp => hτ.1 p (by omega) (by omega), ⟨hτ.2.2.1, h5, hτ.2.2.2.2⟩, fun k h1 h2 => absurd h1 (by omega), fun k h1 h2 => absurd h1 (by omega)⟩
end
