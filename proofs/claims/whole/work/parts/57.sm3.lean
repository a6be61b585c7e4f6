/-! THE CALLS: questions -/
def ResL (r r' : Option Value) (h' : cw_H) : Prop := (∃ v, r = some (.long v) ∧ r' = some (.long v)) ∧ ∃ σ' lam', h' = cw_B σ' lam' ∧ Inv σ' lam'
def SimL (d M M' : Nat) (as : List Value) : Prop := ∀ σ lam, Inv σ lam → cw_Z d M (.ref 0 :: as) (cw_B σ lam) (fun r h => cw_Z d M' (.ref 146 :: as) h (ResL r))
theorem ResL.mk {v : Int64} {σ : cw_V} {lam : Nat → Int64} {s nx c n : Nat} (hI : INV σ lam s nx c n) : ResL (some (.long v)) (some (.long v)) (cw_B σ lam) := ⟨⟨v, rfl, rfl⟩, _, _, rfl, _, _, _, _, hI⟩
theorem qc_13 : cw_cR 13 = some 1 := rfl
theorem qf_13_0 : cw_fR 13 1 0 = some none := rfl
theorem qf_13_1 : cw_fR 13 1 1 = some none := rfl
theorem qf_13_2 : cw_fR 13 1 2 = some none := rfl
theorem qf_13_3 : cw_fR 13 1 3 = some none := rfl
section
variable {σ τ υ : cw_V} {lam : Nat → Int64} {s nx c n n' : Nat}
theorem TQ.sc (h : TQ σ τ) : SC σ τ := ⟨fun p hp => h.1 p (by omega) (by omega), by rw [h.1 140 (by decide) (by decide)], fun k hk => h.2 k (by omega) (by omega)⟩
theorem TQ.rf : TQ σ σ := ⟨fun _ _ _ => rfl, fun _ _ _ => rfl⟩
theorem TQ.trans (h : TQ σ τ) (h' : TQ τ υ) : TQ σ υ := ⟨fun p a b => (h'.1 p a b).trans (h.1 p a b), fun k a b => (h'.2 k a b).trans (h.2 k a b)⟩
theorem TQ.mw (h : TQ σ τ) (hM : MW σ s) : MW τ s := hM.cg (h.2 1 (by decide) (by decide)) (fun p h1 h2 => h.1 p (by omega) (by omega))
theorem TQ.mve (h : TQ σ τ) : mv τ = mv σ := mv_cg (fun k hk => h.2 k (by omega) (by omega)) (fun p h1 h2 => h.1 p (by omega) (by omega))
theorem TP.sc (h : TP σ τ) : SC σ τ := ⟨fun p hp => h.1 p (by omega) (by omega), by rw [h.1 140 (by decide) (by decide)], fun k hk => h.2 k (by omega) (by omega)⟩
theorem sc_13 (h : ∀ p, p ≠ 13 → τ p = σ p) : SC σ τ := ⟨fun p hp => h p (by omega), by rw [h 140 (by decide)], fun k hk => by rw [h 146 (by decide)]⟩
theorem INV.txt (hI : INV σ lam s nx c n) (h : ∀ p, p ≠ 140 → p ≠ 141 → p ≠ 170 → p ≠ 146 → τ p = σ p) (h2 : ∀ k, k ≠ 36 → τ 146 k = σ 146 k) (hT : TX τ n') : INV τ lam s nx c n' := by
  obtain ⟨⟨g, md, pd, lk⟩, ⟨mw, te, e6⟩, ⟨c0, c1, c2⟩, hi, tx⟩ := hI
  have sr : SR σ τ 1 := fun i hi => h _ (by omega) (by omega) (by omega) (by omega)
  have emv : mv τ = mv σ := mv_cg (fun k hk => h2 k (by omega)) (fun p h1 h2 => h p (by omega) (by omega) (by omega) (by omega))
  refine ⟨⟨sr.te.gt g, md.cg g.1 sr (fun p h1 h2 h3 => h p (by omega) (by omega) (by omega) (by omega)), pd.cg sr (fun p h1 h2 => h p (by omega) (by omega) (by omega) (by omega)), lk.cg (fun p hp => h p (by omega) (by omega) (by omega) (by omega)) (h 36 (by omega) (by omega) (by omega) (by omega))⟩, ⟨mw.cg (h2 1 (by omega)) (fun p h1 h2 => h p (by omega) (by omega) (by omega) (by omega)), ?_, (h2 6 (by omega)).trans e6⟩, ⟨?_, ?_, ?_⟩, hi.cg (h 66 (by omega) (by omega) (by omega) (by omega)) (h2 13 (by omega)) (fun p h1 h2 => h p (by omega) (by omega) (by omega) (by omega)) (fun j _ => congrFun (h 155 (by omega) (by omega) (by omega) (by omega)) j), hT⟩
  · rw [emv]; exact te.trans sr.te.symm
  · rw [h 147 (by omega) (by omega) (by omega) (by omega), h 0 (by omega) (by omega) (by omega) (by omega)]; exact c0
  · rw [h 147 (by omega) (by omega) (by omega) (by omega), h 0 (by omega) (by omega) (by omega) (by omega)]; exact c1
  · rw [h 147 (by omega) (by omega) (by omega) (by omega), h 0 (by omega) (by omega) (by omega) (by omega)]; exact c2
theorem pd_node (hW : WF σ 1 s) (hP : PD σ lam s) (h1 : (tlF σ 1 15).length = 1) (hn : nodeN s (σ 7) n) : σ 31 n = Ev σ (nI n) 0 ∧ σ 32 n = Ev σ (nI n) 1 ∧ σ 33 n = Ev σ (nI n) 2 ∧ σ 34 n = Ev σ (nI n) 3 ∧ lam n = Evd σ (nI n) := by
  have ln := hW.2.lt hn
  obtain ⟨k, hk, e⟩ := dn_all hW hn
  have q := (hP.2 h1).2.2.2.2.2.1 k hk
  have e2 : nd (nI n) = n := nI_clamp (by omega)
  rw [e, e2] at q
  exact q
/-- nodes, for class and model -/
theorem INV.nn (hI : INV σ lam s nx c n) (hm : ∀ p, 145 < p → τ p = σ p) {m : Int32} : (∃ n, n < 15 ∧ m = nI n ∧ τ 150 n = 1) ↔ ∃ n, n < 15 ∧ m = nI n ∧ nodeN s (σ 7) n := by
  have te := hI.2.1.2.1
  have mw := hI.2.1.1
  have key : ∀ n, n < 15 → (τ 150 n = 1 ↔ nodeN s (σ 7) n) := fun n hn => by
    rw [hm 150 (by decide), mw.is1 hn]
    exact te.nn
  constructor
  · rintro ⟨n, h1, h2, h3⟩; exact ⟨n, h1, h2, (key n h1).mp h3⟩
  · rintro ⟨n, h1, h2, h3⟩; exact ⟨n, h1, h2, (key n h1).mpr h3⟩
end
section
variable {d s nx c n : Nat} {σ τ : cw_V} {lam : Nat → Int64} {Q : cw_Q}
theorem z_near (hW : WF σ 1 s) (hM : MD σ 10 1) (kk : ∀ τ, (∀ p, p ≠ 13 → τ p = σ p) → Q (some (.int (pr (UV σ 1) (skT σ 1) (tlF σ 1 15) (-1, 0)).1)) (cw_B τ lam)) : cw_Z (d + 3) m_Wires_nearestPair [.ref 10, .ref 1] (cw_B σ lam) Q := by
  have hg := dn_GD hW
  have hle : (tlF σ 1 15).length ≤ (dnF σ 1).length := hg.1.2
  refine z_nearestPair (D := dnF σ 1) (tc := (tlF σ 1 15).length) (U := UV σ 1) hW10 hT1 (tlF_len 15) hM.1.2.1 (fun j hj => hM.1.2.2 j (by omega)) (fun k hk => (hg.2.1 k (by omega)).in) (fun k hk => hM.2.1 k (by omega)) (fun τ h => ?_)
  rw [np_pr]
  exact kk τ h
theorem z_misNode' (hI : INV σ lam s nx c n) (hm : ∀ p, 145 < p → τ p = σ p) {m : Int32} {lam' : Nat → Int64} (k1 : (∃ n, n < 15 ∧ m = nI n ∧ nodeN s (σ 7) n) → Q (some (.int 1)) (cw_B τ lam')) (k0 : ¬ (∃ n, n < 15 ∧ m = nI n ∧ nodeN s (σ 7) n) → Q (some (.int 0)) (cw_B τ lam')) : cw_Z (d + 2) m_Mo_isNode [.ref 146, .int m] (cw_B τ lam') Q := z_misNode (fun h => k1 ((hI.nn hm).mp h)) (fun h => k0 (fun z => h ((hI.nn hm).mpr z)))
end
section
variable {d : Nat} {x y v k w : Int32}
theorem sim_tops : SimI (d + 16) m_CW_tops m_Mo_tops [] := by
  intro σ lam ⟨s, nx, c, n, hI⟩
  have g := hI.1.1
  have mw := hI.2.1.1
  have te := hI.2.1.2.1
  have es : σ 1 8 = nI s := g.1.1
  have h8 : s ≤ 8 := g.1.2.1
  obtain ⟨⟨hnx, hc, h661, h662, h13⟩, hh⟩ := hI.2.2.2.1
  have md := hI.1.2.1
  have pd := hI.1.2.2.1
  have vr : VR (mv σ) 1 s := te.vr h8 g.2.1
  have e1 : σ 10 5 = nI (tlF σ 1 15).length := md.1.2.1
  have e2 : tmC σ 15 = (tlF σ 1 15).length := (mw.tm 15 (by decide)).trans (by rw [te.tl 15 (by decide)])
  refine zi (L := [some (.ref 0)]) rfl rfl (fun K hK => ?_)
  refine st_go hK rfl rfl ?_
  refine st_getr hK rfl qf_0_1 ?_
  refine gi (v := nI (tlF σ 1 15).length) hK rfl qf_10_5 e1 ?_
  refine st_ret hK rfl rfl ?_
  obtain ⟨mw2, te2, l2, k2, mv2⟩ := hI.mf (τ := σ) (fun _ _ => rfl)
  refine zi (L := [some (.ref 146)]) rfl rfl (fun K2 hK2 => ?_)
  refine st_go hK2 rfl rfl ?_
  refine cv0 hK2 rfl qc_146 (Nat.le_of_ble_eq_true rfl) ?_
  refine z_topMany ?_
  rw [e2]
  change K2 _ _ (_ :: _) _
  refine st_ret hK2 rfl rfl ?_
  exact Res.mk hI
theorem sim_nearest : SimI (d + 16) m_CW_nearest m_Mo_nearest [] := by
  intro σ lam ⟨s, nx, c, n, hI⟩
  have g := hI.1.1
  have mw := hI.2.1.1
  have te := hI.2.1.2.1
  have es : σ 1 8 = nI s := g.1.1
  have h8 : s ≤ 8 := g.1.2.1
  obtain ⟨⟨hnx, hc, h661, h662, h13⟩, hh⟩ := hI.2.2.2.1
  have md := hI.1.2.1
  have pd := hI.1.2.2.1
  have vr : VR (mv σ) 1 s := te.vr h8 g.2.1

  refine zi (L := [some (.ref 0)]) rfl rfl (fun K hK => ?_)
  refine st_go hK rfl rfl ?_
  refine st_getr hK rfl qf_0_1 ?_
  refine st_go hK rfl rfl ?_
  refine st_getr hK rfl qf_0_0 ?_
  refine cv1 hK rfl qc_10 (Nat.le_of_ble_eq_true rfl) ?_
  refine z_near g.1 md (fun τ h13 => ?_)
  change K _ _ (_ :: _) _
  refine st_ret hK rfl rfl ?_
  obtain ⟨mw2, te2, l2, k2, mv2⟩ := hI.mf (τ := τ) (fun p hp => h13 p (by omega))
  refine zi (L := [some (.ref 146)]) rfl rfl (fun K2 hK2 => ?_)
  refine st_go hK2 rfl rfl ?_
  refine cv0 hK2 rfl qc_146 (Nat.le_of_ble_eq_true rfl) ?_
  refine z_findsPair mw2 (fun υ hT => ?_)
  rw [show mPr τ = (pr (UV σ 1) (skT σ 1) (tlF σ 1 15) (-1, 0)).1 from congrArg Prod.fst (te2.pr g.1)]
  change K2 _ _ (_ :: _) _
  refine st_ret hK2 rfl rfl ?_
  exact Res.mk (((sc_13 h13).trans hT.sc).inv hI)
theorem sim_node : SimI (d + 16) m_CW_node m_Mo_node [.int k, .int w] := by
  intro σ lam ⟨s, nx, c, n, hI⟩
  have g := hI.1.1
  have mw := hI.2.1.1
  have te := hI.2.1.2.1
  have es : σ 1 8 = nI s := g.1.1
  have h8 : s ≤ 8 := g.1.2.1
  obtain ⟨⟨hnx, hc, h661, h662, h13⟩, hh⟩ := hI.2.2.2.1
  have md := hI.1.2.1
  have pd := hI.1.2.2.1
  have vr : VR (mv σ) 1 s := te.vr h8 g.2.1
  by_cases hb : (∃ n, n < 15 ∧ k = nI n ∧ nodeN s (σ 7) n) ∧ 0 ≤ w ∧ w ≤ 11
  · obtain ⟨⟨m, m15, rfl, hm⟩, hw⟩ := hb
    have hn : ∃ n, n < 15 ∧ nI m = nI n ∧ nodeN s (σ 7) n := ⟨m, m15, rfl, hm⟩
    have hmm : nodeN s (σ 151) m := te.nn.mpr hm
    obtain ⟨j, hj, rfl⟩ := (nI_rg (M := 11) (n := 11) rfl (by decide)).mp hw
    refine zi (L := [some (.ref 0), some (.int (nI m)), some (.int (nI j))]) rfl rfl (fun K hK => ?_)
    refine st_go hK rfl rfl ?_
    refine st_getr hK rfl qf_0_0 ?_
    refine st_go hK rfl rfl ?_
    refine cv1 hK rfl qc_1 (Nat.le_of_ble_eq_true rfl) ?_
    refine z_hasNode' hT1 g.1 (fun _ => ?_) (fun c => absurd hn c)
    change K _ _ (_ :: _) _
    refine st_if hK rfl rfl (fun c => absurd c (by decide)) (fun _ => ?_)
    refine st_go hK rfl rfl ?_
    refine st_if hK rfl rfl (fun c => absurd c (nI_pos (by omega))) (fun _ => ?_)
    refine st_go hK rfl rfl ?_
    refine st_go hK rfl rfl ?_
    refine st_ifn hK rfl rfl (nI_leI (a := j) (b := 11) (by omega) (by omega)) (fun _ => ?_) (fun c => absurd (by omega) c)
    refine st_go hK rfl rfl ?_
    refine st_go hK rfl rfl ?_
    refine st_go hK rfl rfl ?_
    refine cv2 hK rfl qc_0 (Nat.le_of_ble_eq_true rfl) ?_
    refine z_nodeValue g.1 md hm hj ?_
    change K _ _ (_ :: _) _
    refine st_ret hK rfl rfl ?_
    obtain ⟨mw2, te2, l2, k2, mv2⟩ := hI.mf (τ := σ) (fun _ _ => rfl)
    refine zi (L := [some (.ref 146), some (.int (nI m)), some (.int (nI j))]) rfl rfl (fun K2 hK2 => ?_)
    refine st_go hK2 rfl rfl ?_
    refine st_go hK2 rfl rfl ?_
    refine cv1 hK2 rfl qc_146 (Nat.le_of_ble_eq_true rfl) ?_
    refine z_misNode' hI (fun _ _ => rfl) (fun _ => ?_) (fun c => absurd hn c)
    change K2 _ _ (_ :: _) _
    refine st_if hK2 rfl rfl (fun c => absurd c (by decide)) (fun _ => ?_)
    refine st_go hK2 rfl rfl ?_
    refine st_go hK2 rfl rfl ?_
    refine st_go hK2 rfl rfl ?_
    refine cs3 hK2 rfl (Nat.le_of_ble_eq_true rfl) ?_
    refine z_min (fun _ => ?_) (fun c => absurd hw c)
    change K2 _ _ (_ :: _) _
    refine st_if hK2 rfl rfl (fun _ => ?_) (fun c => absurd (by decide) c)
    refine st_go hK2 rfl rfl ?_
    refine cv0 hK2 rfl qc_146 (Nat.le_of_ble_eq_true rfl) ?_
    refine z_tellsAll mw2 (fun τ hT => ?_)
    change K2 _ _ _ _
    refine st_go hK2 rfl rfl ?_
    refine st_go hK2 rfl rfl ?_
    refine st_go hK2 rfl rfl ?_
    refine cv2 hK2 rfl qc_146 (Nat.le_of_ble_eq_true rfl) ?_
    refine z_about mw2 hT hmm hj ?_
    rw [nv_te te2 g.1 hm]
    change K2 _ _ (_ :: _) _
    refine st_ret hK2 rfl rfl ?_
    exact Res.mk (hT.1.tq.sc.inv hI)
  · skip
    refine zi (L := [some (.ref 0), some (.int k), some (.int w)]) rfl rfl (fun K hK => ?_)
    refine st_go hK rfl rfl ?_
    refine st_getr hK rfl qf_0_0 ?_
    refine st_go hK rfl rfl ?_
    refine cv1 hK rfl qc_1 (Nat.le_of_ble_eq_true rfl) ?_
    refine z_hasNode' hT1 g.1 (fun hn => ?_) (fun hn => ?_)
    · change K _ _ (_ :: _) _
      refine st_if hK rfl rfl (fun c => absurd c (by decide)) (fun _ => ?_)
      refine st_go hK rfl rfl ?_
      refine st_if hK rfl rfl (fun c12 => ?_) (fun c12 => ?_)
      · refine st_go hK rfl rfl ?_
        refine st_go hK rfl rfl ?_
        refine cv1 hK rfl qc_0 (Nat.le_of_ble_eq_true rfl) ?_
        refine z_rbad ?_
        change K _ _ (_ :: _) _
        refine st_ret hK rfl rfl ?_
        obtain ⟨mw2, te2, l2, k2, mv2⟩ := hI.mf (τ := (cw_up σ 0 6 (σ 0 6 + 1))) (fun p hp => up_ne (by omega))
        refine zi (L := [some (.ref 146), some (.int k), some (.int w)]) rfl rfl (fun K2 hK2 => ?_)
        refine st_go hK2 rfl rfl ?_
        refine st_go hK2 rfl rfl ?_
        refine cv1 hK2 rfl qc_146 (Nat.le_of_ble_eq_true rfl) ?_
        refine z_misNode' hI (fun p hp => up_ne (by omega)) (fun hn2 => ?_) (fun hn2 => ?_)
        · change K2 _ _ (_ :: _) _
          refine st_if hK2 rfl rfl (fun c => absurd c (by decide)) (fun _ => ?_)
          refine st_go hK2 rfl rfl ?_
          refine st_go hK2 rfl rfl ?_
          refine st_go hK2 rfl rfl ?_
          refine cs3 hK2 rfl (Nat.le_of_ble_eq_true rfl) ?_
          refine z_min (fun c => absurd ⟨hn2, c⟩ hb) (fun _ => ?_)
          change K2 _ _ (_ :: _) _
          refine st_if hK2 rfl rfl (fun c => absurd c (by decide)) (fun _ => ?_)
          refine st_go hK2 rfl rfl ?_
          refine cv0 hK2 rfl qc_146 (Nat.le_of_ble_eq_true rfl) ?_
          refine z_mbad ?_
          change K2 _ _ (_ :: _) _
          refine st_ret hK2 rfl rfl ?_
          exact Res.mk (hI.err (k := 0) (by decide))
        · change K2 _ _ (_ :: _) _
          refine st_if hK2 rfl rfl (fun _ => ?_) (fun c => absurd (by decide) c)
          refine st_go hK2 rfl rfl ?_
          refine cv0 hK2 rfl qc_146 (Nat.le_of_ble_eq_true rfl) ?_
          refine z_mbad ?_
          change K2 _ _ (_ :: _) _
          refine st_ret hK2 rfl rfl ?_
          exact Res.mk (hI.err (k := 0) (by decide))
      · refine st_go hK rfl rfl ?_
        refine st_go hK rfl rfl ?_
        refine st_if hK rfl rfl (fun c => absurd c (fun z => hb ⟨hn, Int32.not_lt.mp c12, z⟩)) (fun _ => ?_)
        refine st_go hK rfl rfl ?_
        refine st_go hK rfl rfl ?_
        refine cv1 hK rfl qc_0 (Nat.le_of_ble_eq_true rfl) ?_
        refine z_rbad ?_
        change K _ _ (_ :: _) _
        refine st_ret hK rfl rfl ?_
        obtain ⟨mw2, te2, l2, k2, mv2⟩ := hI.mf (τ := (cw_up σ 0 6 (σ 0 6 + 1))) (fun p hp => up_ne (by omega))
        refine zi (L := [some (.ref 146), some (.int k), some (.int w)]) rfl rfl (fun K2 hK2 => ?_)
        refine st_go hK2 rfl rfl ?_
        refine st_go hK2 rfl rfl ?_
        refine cv1 hK2 rfl qc_146 (Nat.le_of_ble_eq_true rfl) ?_
        refine z_misNode' hI (fun p hp => up_ne (by omega)) (fun hn2 => ?_) (fun hn2 => ?_)
        · change K2 _ _ (_ :: _) _
          refine st_if hK2 rfl rfl (fun c => absurd c (by decide)) (fun _ => ?_)
          refine st_go hK2 rfl rfl ?_
          refine st_go hK2 rfl rfl ?_
          refine st_go hK2 rfl rfl ?_
          refine cs3 hK2 rfl (Nat.le_of_ble_eq_true rfl) ?_
          refine z_min (fun c => absurd ⟨hn2, c⟩ hb) (fun _ => ?_)
          change K2 _ _ (_ :: _) _
          refine st_if hK2 rfl rfl (fun c => absurd c (by decide)) (fun _ => ?_)
          refine st_go hK2 rfl rfl ?_
          refine cv0 hK2 rfl qc_146 (Nat.le_of_ble_eq_true rfl) ?_
          refine z_mbad ?_
          change K2 _ _ (_ :: _) _
          refine st_ret hK2 rfl rfl ?_
          exact Res.mk (hI.err (k := 0) (by decide))
        · change K2 _ _ (_ :: _) _
          refine st_if hK2 rfl rfl (fun _ => ?_) (fun c => absurd (by decide) c)
          refine st_go hK2 rfl rfl ?_
          refine cv0 hK2 rfl qc_146 (Nat.le_of_ble_eq_true rfl) ?_
          refine z_mbad ?_
          change K2 _ _ (_ :: _) _
          refine st_ret hK2 rfl rfl ?_
          exact Res.mk (hI.err (k := 0) (by decide))
    · change K _ _ (_ :: _) _
      refine st_if hK rfl rfl (fun _ => ?_) (fun c => absurd (by decide) c)
      refine st_go hK rfl rfl ?_
      refine st_go hK rfl rfl ?_
      refine cv1 hK rfl qc_0 (Nat.le_of_ble_eq_true rfl) ?_
      refine z_rbad ?_
      change K _ _ (_ :: _) _
      refine st_ret hK rfl rfl ?_
      obtain ⟨mw2, te2, l2, k2, mv2⟩ := hI.mf (τ := (cw_up σ 0 6 (σ 0 6 + 1))) (fun p hp => up_ne (by omega))
      refine zi (L := [some (.ref 146), some (.int k), some (.int w)]) rfl rfl (fun K2 hK2 => ?_)
      refine st_go hK2 rfl rfl ?_
      refine st_go hK2 rfl rfl ?_
      refine cv1 hK2 rfl qc_146 (Nat.le_of_ble_eq_true rfl) ?_
      refine z_misNode' hI (fun p hp => up_ne (by omega)) (fun hn2 => ?_) (fun hn2 => ?_)
      · change K2 _ _ (_ :: _) _
        refine st_if hK2 rfl rfl (fun c => absurd c (by decide)) (fun _ => ?_)
        refine st_go hK2 rfl rfl ?_
        refine st_go hK2 rfl rfl ?_
        refine st_go hK2 rfl rfl ?_
        refine cs3 hK2 rfl (Nat.le_of_ble_eq_true rfl) ?_
        refine z_min (fun c => absurd ⟨hn2, c⟩ hb) (fun _ => ?_)
        change K2 _ _ (_ :: _) _
        refine st_if hK2 rfl rfl (fun c => absurd c (by decide)) (fun _ => ?_)
        refine st_go hK2 rfl rfl ?_
        refine cv0 hK2 rfl qc_146 (Nat.le_of_ble_eq_true rfl) ?_
        refine z_mbad ?_
        change K2 _ _ (_ :: _) _
        refine st_ret hK2 rfl rfl ?_
        exact Res.mk (hI.err (k := 0) (by decide))
      · change K2 _ _ (_ :: _) _
        refine st_if hK2 rfl rfl (fun _ => ?_) (fun c => absurd (by decide) c)
        refine st_go hK2 rfl rfl ?_
        refine cv0 hK2 rfl qc_146 (Nat.le_of_ble_eq_true rfl) ?_
        refine z_mbad ?_
        change K2 _ _ (_ :: _) _
        refine st_ret hK2 rfl rfl ?_
        exact Res.mk (hI.err (k := 0) (by decide))
theorem sim_would : SimI (d + 16) m_CW_would m_Mo_would [.int x, .int y, .int w] := by
  intro σ lam ⟨s, nx, c, n, hI⟩
  have g := hI.1.1
  have mw := hI.2.1.1
  have te := hI.2.1.2.1
  have es : σ 1 8 = nI s := g.1.1
  have h8 : s ≤ 8 := g.1.2.1
  obtain ⟨⟨hnx, hc, h661, h662, h13⟩, hh⟩ := hI.2.2.2.1
  have md := hI.1.2.1
  have pd := hI.1.2.2.1
  have vr : VR (mv σ) 1 s := te.vr h8 g.2.1
  by_cases hb : (∃ n, n < 15 ∧ x = nI n ∧ nodeN s (σ 7) n) ∧ (∃ n, n < 15 ∧ y = nI n ∧ nodeN s (σ 7) n) ∧ x ≠ y ∧ 0 ≤ w ∧ w ≤ 3
  · obtain ⟨⟨a, a15, rfl, ha⟩, ⟨b, b15, rfl, hbn⟩, hxy, hw⟩ := hb
    have hna : ∃ n, n < 15 ∧ nI a = nI n ∧ nodeN s (σ 7) n := ⟨a, a15, rfl, ha⟩
    have hnb : ∃ n, n < 15 ∧ nI b = nI n ∧ nodeN s (σ 7) n := ⟨b, b15, rfl, hbn⟩
    have hab : ¬ a = b := fun z => hxy (by rw [z])
    have eca : (nI a).toNatClampNeg = a := nI_clamp (by omega)
    have ecb : (nI b).toNatClampNeg = b := nI_clamp (by omega)
    have ina : cw_in (nI a) 15 = true := cw_in_nI a15 (by decide)
    have inb : cw_in (nI b) 15 = true := cw_in_nI b15 (by decide)
    have hpa : isP (10 + 5 + a) := ⟨10, hW10, Or.inr ⟨a, a15, rfl⟩⟩
    have hpb : isP (10 + 5 + b) := ⟨10, hW10, Or.inr ⟨b, b15, rfl⟩⟩
    have ua := (md_node g.1 md ha).1.six
    have ub := (md_node g.1 md hbn).1.six
    obtain ⟨j, hj, rfl⟩ := (nI_rg (M := 3) (n := 3) rfl (by decide)).mp hw
    rcases (show j = 0 ∨ j = 1 ∨ j = 2 ∨ j = 3 by omega) with rfl | rfl | rfl | rfl
    · skip
      refine zi (L := [some (.ref 0), some (.int (nI a)), some (.int (nI b)), some (.int (0 : Int32)), none]) rfl rfl (fun K hK => ?_)
      refine st_go hK rfl rfl ?_
      refine st_getr hK rfl qf_0_0 ?_
      refine st_go hK rfl rfl ?_
      refine cv1 hK rfl qc_1 (Nat.le_of_ble_eq_true rfl) ?_
      refine z_hasNode' hT1 g.1 (fun _ => ?_) (fun c => absurd hna c)
      change K _ _ (_ :: _) _
      refine st_if hK rfl rfl (fun c => absurd c (by decide)) (fun _ => ?_)
      refine st_go hK rfl rfl ?_
      refine st_getr hK rfl qf_0_0 ?_
      refine st_go hK rfl rfl ?_
      refine cv1 hK rfl qc_1 (Nat.le_of_ble_eq_true rfl) ?_
      refine z_hasNode' hT1 g.1 (fun _ => ?_) (fun c => absurd hnb c)
      change K _ _ (_ :: _) _
      refine st_if hK rfl rfl (fun c => absurd c (by decide)) (fun _ => ?_)
      refine st_go hK rfl rfl ?_
      refine st_go hK rfl rfl ?_
      refine st_ifn hK rfl rfl (nI_eq (a := a) (b := b) (by omega) (by omega)) (fun c => absurd c hab) (fun _ => ?_)
      refine st_go hK rfl rfl ?_
      refine st_if hK rfl rfl (fun c => absurd c (by decide)) (fun _ => ?_)
      refine st_go hK rfl rfl ?_
      refine st_go hK rfl rfl ?_
      refine st_if hK rfl rfl (fun _ => ?_) (fun c => absurd (by decide) c)
      refine st_go hK rfl rfl ?_
      refine st_getr hK rfl qf_0_1 ?_
      refine st_getr hK rfl qf_10_2 ?_
      refine st_go hK rfl rfl ?_
      change K _ [some (.ref 0), some (.int (nI a)), some (.int (nI b)), some (.int (0 : Int32)), some (.ref 13)] _ _
      refine st_go hK rfl rfl ?_
      refine st_go hK rfl rfl ?_
      refine st_getr hK rfl qf_0_1 ?_
      refine st_go hK rfl rfl ?_
      refine cv1 hK rfl qc_10 (Nat.le_of_ble_eq_true rfl) ?_
      refine z_part hW10 ina ?_
      rw [eca]
      change K _ _ (_ :: _) _
      refine st_go hK rfl rfl ?_
      refine st_getr hK rfl qf_0_1 ?_
      refine st_go hK rfl rfl ?_
      refine cv1 hK rfl qc_10 (Nat.le_of_ble_eq_true rfl) ?_
      refine z_part hW10 inb ?_
      rw [ecb]
      change K _ _ (_ :: _) _
      refine st_go hK rfl rfl ?_
      refine st_getr hK rfl qf_0_0 ?_
      refine gi (v := σ 1 9) hK rfl qf_1_9 rfl ?_
      refine st_go hK rfl rfl ?_
      refine st_bin hK rfl ?_
      refine cv3 hK rfl qc_13 (Nat.le_of_ble_eq_true rfl) ?_
      refine z_weigh ⟨10, hW10, rfl⟩ hpa hpb ?_
      change K _ _ _ _
      refine st_go hK rfl rfl ?_
      refine st_tabk (t := 112) hK rfl (by decide) ?_
      refine st_go hK rfl rfl ?_
      refine gi (v := spanF (σ (10 + 5 + a)) (σ (10 + 5 + b)) (σ 1 9 * 65536)) hK rfl qf_13_1 wgF_1 ?_
      refine st_ret hK rfl rfl ?_
      obtain ⟨mw2, te2, l2, k2, mv2⟩ := hI.mf (τ := (wgF σ 13 (10 + 5 + a) (10 + 5 + b) (σ 1 9 * 65536))) (fun p hp => wgF_ne (by omega))
      refine zi (L := [some (.ref 146), some (.int (nI a)), some (.int (nI b)), some (.int (0 : Int32))]) rfl rfl (fun K2 hK2 => ?_)
      refine st_go hK2 rfl rfl ?_
      refine st_go hK2 rfl rfl ?_
      refine cv1 hK2 rfl qc_146 (Nat.le_of_ble_eq_true rfl) ?_
      refine z_misNode' hI (fun p hp => wgF_ne (by omega)) (fun _ => ?_) (fun c => absurd hna c)
      change K2 _ _ (_ :: _) _
      refine st_if hK2 rfl rfl (fun c => absurd c (by decide)) (fun _ => ?_)
      refine st_go hK2 rfl rfl ?_
      refine st_go hK2 rfl rfl ?_
      refine cv1 hK2 rfl qc_146 (Nat.le_of_ble_eq_true rfl) ?_
      refine z_misNode' hI (fun p hp => wgF_ne (by omega)) (fun _ => ?_) (fun c => absurd hnb c)
      change K2 _ _ (_ :: _) _
      refine st_if hK2 rfl rfl (fun c => absurd c (by decide)) (fun _ => ?_)
      refine st_go hK2 rfl rfl ?_
      refine st_go hK2 rfl rfl ?_
      refine st_ifn hK2 rfl rfl (nI_eq (a := a) (b := b) (by omega) (by omega)) (fun c => absurd c hab) (fun _ => ?_)
      refine st_go hK2 rfl rfl ?_
      refine st_go hK2 rfl rfl ?_
      refine st_go hK2 rfl rfl ?_
      refine cs3 hK2 rfl (Nat.le_of_ble_eq_true rfl) ?_
      refine z_min (fun _ => ?_) (fun c => absurd hw c)
      change K2 _ _ (_ :: _) _
      refine st_if hK2 rfl rfl (fun _ => ?_) (fun c => absurd (by decide) c)
      refine st_go hK2 rfl rfl ?_
      refine cv0 hK2 rfl qc_146 (Nat.le_of_ble_eq_true rfl) ?_
      refine z_tellsAll mw2 (fun τ hT => ?_)
      change K2 _ _ _ _
      refine st_go hK2 rfl rfl ?_
      refine st_go hK2 rfl rfl ?_
      refine st_go hK2 rfl rfl ?_
      refine cv2 hK2 rfl qc_146 (Nat.le_of_ble_eq_true rfl) ?_
      refine z_reckons a15 b15 ?_
      change K2 _ _ _ _
      refine st_go hK2 rfl rfl ?_
      refine st_if hK2 rfl rfl (fun c => absurd c (by decide)) (fun _ => ?_)
      refine st_go hK2 rfl rfl ?_
      refine gi (v := spanF (mP τ a) (mP τ b) (mSk τ)) hK2 rfl qf_146_26 rk_26 ?_
      refine st_go hK2 rfl rfl ?_
      refine st_ret hK2 rfl rfl ?_
      have na2 : nodeN s ((wgF σ 13 (10 + 5 + a) (10 + 5 + b) (σ 1 9 * 65536)) 151) a := by rw [wgF_ne (by decide)]; exact te.nn.mpr ha
      have nb2 : nodeN s ((wgF σ 13 (10 + 5 + a) (10 + 5 + b) (σ 1 9 * 65536)) 151) b := by rw [wgF_ne (by decide)]; exact te.nn.mpr hbn
      have pa : ∀ k, k < 6 → mP τ a k = σ (10 + 5 + a) k := fun k hk => ((hT.2.1 a na2 k (by omega) (by omega)).trans (te2.uv g.1 ha k (by omega) (by omega))).trans (ua k hk).symm
      have pb : ∀ k, k < 6 → mP τ b k = σ (10 + 5 + b) k := fun k hk => ((hT.2.1 b nb2 k (by omega) (by omega)).trans (te2.uv g.1 hbn k (by omega) (by omega))).trans (ub k hk).symm
      have esk : mSk τ = σ 1 9 * 65536 := by
        unfold mSk
        rw [hT.1.2 3 (by omega)]
        show mv (wgF σ 13 (10 + 5 + a) (10 + 5 + b) (σ 1 9 * 65536)) 1 9 * 65536 = _
        rw [te2.e9]
      rw [esk, span_congr pa pb]
      exact Res.mk ((((sc_13 (fun p hp => wgF_ne hp)).trans hT.1.tq.sc).trans ⟨fun p hp => rk_p (by omega), by rw [rk_p (by decide)], fun k hk => rk_k (by omega)⟩).inv hI)
    · skip
      refine zi (L := [some (.ref 0), some (.int (nI a)), some (.int (nI b)), some (.int (1 : Int32)), none]) rfl rfl (fun K hK => ?_)
      refine st_go hK rfl rfl ?_
      refine st_getr hK rfl qf_0_0 ?_
      refine st_go hK rfl rfl ?_
      refine cv1 hK rfl qc_1 (Nat.le_of_ble_eq_true rfl) ?_
      refine z_hasNode' hT1 g.1 (fun _ => ?_) (fun c => absurd hna c)
      change K _ _ (_ :: _) _
      refine st_if hK rfl rfl (fun c => absurd c (by decide)) (fun _ => ?_)
      refine st_go hK rfl rfl ?_
      refine st_getr hK rfl qf_0_0 ?_
      refine st_go hK rfl rfl ?_
      refine cv1 hK rfl qc_1 (Nat.le_of_ble_eq_true rfl) ?_
      refine z_hasNode' hT1 g.1 (fun _ => ?_) (fun c => absurd hnb c)
      change K _ _ (_ :: _) _
      refine st_if hK rfl rfl (fun c => absurd c (by decide)) (fun _ => ?_)
      refine st_go hK rfl rfl ?_
      refine st_go hK rfl rfl ?_
      refine st_ifn hK rfl rfl (nI_eq (a := a) (b := b) (by omega) (by omega)) (fun c => absurd c hab) (fun _ => ?_)
      refine st_go hK rfl rfl ?_
      refine st_if hK rfl rfl (fun c => absurd c (by decide)) (fun _ => ?_)
      refine st_go hK rfl rfl ?_
      refine st_go hK rfl rfl ?_
      refine st_if hK rfl rfl (fun _ => ?_) (fun c => absurd (by decide) c)
      refine st_go hK rfl rfl ?_
      refine st_getr hK rfl qf_0_1 ?_
      refine st_getr hK rfl qf_10_2 ?_
      refine st_go hK rfl rfl ?_
      change K _ [some (.ref 0), some (.int (nI a)), some (.int (nI b)), some (.int (1 : Int32)), some (.ref 13)] _ _
      refine st_go hK rfl rfl ?_
      refine st_go hK rfl rfl ?_
      refine st_getr hK rfl qf_0_1 ?_
      refine st_go hK rfl rfl ?_
      refine cv1 hK rfl qc_10 (Nat.le_of_ble_eq_true rfl) ?_
      refine z_part hW10 ina ?_
      rw [eca]
      change K _ _ (_ :: _) _
      refine st_go hK rfl rfl ?_
      refine st_getr hK rfl qf_0_1 ?_
      refine st_go hK rfl rfl ?_
      refine cv1 hK rfl qc_10 (Nat.le_of_ble_eq_true rfl) ?_
      refine z_part hW10 inb ?_
      rw [ecb]
      change K _ _ (_ :: _) _
      refine st_go hK rfl rfl ?_
      refine st_getr hK rfl qf_0_0 ?_
      refine gi (v := σ 1 9) hK rfl qf_1_9 rfl ?_
      refine st_go hK rfl rfl ?_
      refine st_bin hK rfl ?_
      refine cv3 hK rfl qc_13 (Nat.le_of_ble_eq_true rfl) ?_
      refine z_weigh ⟨10, hW10, rfl⟩ hpa hpb ?_
      change K _ _ _ _
      refine st_go hK rfl rfl ?_
      refine st_tabk (t := 118) hK rfl (by decide) ?_
      refine st_go hK rfl rfl ?_
      refine gi (v := spanF (σ (10 + 5 + a)) (σ (10 + 5 + b)) (σ 1 9 * 65536)) hK rfl qf_13_1 wgF_1 ?_
      refine st_go hK rfl rfl ?_
      refine gi (v := gapF (σ (10 + 5 + a)) (σ (10 + 5 + b))) hK rfl qf_13_0 wgF_0 ?_
      refine st_bin hK rfl ?_
      refine st_ret hK rfl rfl ?_
      obtain ⟨mw2, te2, l2, k2, mv2⟩ := hI.mf (τ := (wgF σ 13 (10 + 5 + a) (10 + 5 + b) (σ 1 9 * 65536))) (fun p hp => wgF_ne (by omega))
      refine zi (L := [some (.ref 146), some (.int (nI a)), some (.int (nI b)), some (.int (1 : Int32))]) rfl rfl (fun K2 hK2 => ?_)
      refine st_go hK2 rfl rfl ?_
      refine st_go hK2 rfl rfl ?_
      refine cv1 hK2 rfl qc_146 (Nat.le_of_ble_eq_true rfl) ?_
      refine z_misNode' hI (fun p hp => wgF_ne (by omega)) (fun _ => ?_) (fun c => absurd hna c)
      change K2 _ _ (_ :: _) _
      refine st_if hK2 rfl rfl (fun c => absurd c (by decide)) (fun _ => ?_)
      refine st_go hK2 rfl rfl ?_
      refine st_go hK2 rfl rfl ?_
      refine cv1 hK2 rfl qc_146 (Nat.le_of_ble_eq_true rfl) ?_
      refine z_misNode' hI (fun p hp => wgF_ne (by omega)) (fun _ => ?_) (fun c => absurd hnb c)
      change K2 _ _ (_ :: _) _
      refine st_if hK2 rfl rfl (fun c => absurd c (by decide)) (fun _ => ?_)
      refine st_go hK2 rfl rfl ?_
      refine st_go hK2 rfl rfl ?_
      refine st_ifn hK2 rfl rfl (nI_eq (a := a) (b := b) (by omega) (by omega)) (fun c => absurd c hab) (fun _ => ?_)
      refine st_go hK2 rfl rfl ?_
      refine st_go hK2 rfl rfl ?_
      refine st_go hK2 rfl rfl ?_
      refine cs3 hK2 rfl (Nat.le_of_ble_eq_true rfl) ?_
      refine z_min (fun _ => ?_) (fun c => absurd hw c)
      change K2 _ _ (_ :: _) _
      refine st_if hK2 rfl rfl (fun _ => ?_) (fun c => absurd (by decide) c)
      refine st_go hK2 rfl rfl ?_
      refine cv0 hK2 rfl qc_146 (Nat.le_of_ble_eq_true rfl) ?_
      refine z_tellsAll mw2 (fun τ hT => ?_)
      change K2 _ _ _ _
      refine st_go hK2 rfl rfl ?_
      refine st_go hK2 rfl rfl ?_
      refine st_go hK2 rfl rfl ?_
      refine cv2 hK2 rfl qc_146 (Nat.le_of_ble_eq_true rfl) ?_
      refine z_reckons a15 b15 ?_
      change K2 _ _ _ _
      refine st_go hK2 rfl rfl ?_
      refine st_if hK2 rfl rfl (fun _ => ?_) (fun c => absurd (by decide) c)
      refine st_go hK2 rfl rfl ?_
      refine st_go hK2 rfl rfl ?_
      refine st_if hK2 rfl rfl (fun c => absurd c (by decide)) (fun _ => ?_)
      refine st_go hK2 rfl rfl ?_
      refine gi (v := spanF (mP τ a) (mP τ b) (mSk τ)) hK2 rfl qf_146_26 rk_26 ?_
      refine st_go hK2 rfl rfl ?_
      refine gi (v := gapF (mP τ a) (mP τ b)) hK2 rfl qf_146_25 rk_25 ?_
      refine st_bin hK2 rfl ?_
      refine st_go hK2 rfl rfl ?_
      refine st_ret hK2 rfl rfl ?_
      have na2 : nodeN s ((wgF σ 13 (10 + 5 + a) (10 + 5 + b) (σ 1 9 * 65536)) 151) a := by rw [wgF_ne (by decide)]; exact te.nn.mpr ha
      have nb2 : nodeN s ((wgF σ 13 (10 + 5 + a) (10 + 5 + b) (σ 1 9 * 65536)) 151) b := by rw [wgF_ne (by decide)]; exact te.nn.mpr hbn
      have pa : ∀ k, k < 6 → mP τ a k = σ (10 + 5 + a) k := fun k hk => ((hT.2.1 a na2 k (by omega) (by omega)).trans (te2.uv g.1 ha k (by omega) (by omega))).trans (ua k hk).symm
      have pb : ∀ k, k < 6 → mP τ b k = σ (10 + 5 + b) k := fun k hk => ((hT.2.1 b nb2 k (by omega) (by omega)).trans (te2.uv g.1 hbn k (by omega) (by omega))).trans (ub k hk).symm
      have esk : mSk τ = σ 1 9 * 65536 := by
        unfold mSk
        rw [hT.1.2 3 (by omega)]
        show mv (wgF σ 13 (10 + 5 + a) (10 + 5 + b) (σ 1 9 * 65536)) 1 9 * 65536 = _
        rw [te2.e9]
      rw [esk, span_congr pa pb, gap_congr pa pb]
      exact Res.mk ((((sc_13 (fun p hp => wgF_ne hp)).trans hT.1.tq.sc).trans ⟨fun p hp => rk_p (by omega), by rw [rk_p (by decide)], fun k hk => rk_k (by omega)⟩).inv hI)
    · skip
      refine zi (L := [some (.ref 0), some (.int (nI a)), some (.int (nI b)), some (.int (2 : Int32)), none]) rfl rfl (fun K hK => ?_)
      refine st_go hK rfl rfl ?_
      refine st_getr hK rfl qf_0_0 ?_
      refine st_go hK rfl rfl ?_
      refine cv1 hK rfl qc_1 (Nat.le_of_ble_eq_true rfl) ?_
      refine z_hasNode' hT1 g.1 (fun _ => ?_) (fun c => absurd hna c)
      change K _ _ (_ :: _) _
      refine st_if hK rfl rfl (fun c => absurd c (by decide)) (fun _ => ?_)
      refine st_go hK rfl rfl ?_
      refine st_getr hK rfl qf_0_0 ?_
      refine st_go hK rfl rfl ?_
      refine cv1 hK rfl qc_1 (Nat.le_of_ble_eq_true rfl) ?_
      refine z_hasNode' hT1 g.1 (fun _ => ?_) (fun c => absurd hnb c)
      change K _ _ (_ :: _) _
      refine st_if hK rfl rfl (fun c => absurd c (by decide)) (fun _ => ?_)
      refine st_go hK rfl rfl ?_
      refine st_go hK rfl rfl ?_
      refine st_ifn hK rfl rfl (nI_eq (a := a) (b := b) (by omega) (by omega)) (fun c => absurd c hab) (fun _ => ?_)
      refine st_go hK rfl rfl ?_
      refine st_if hK rfl rfl (fun c => absurd c (by decide)) (fun _ => ?_)
      refine st_go hK rfl rfl ?_
      refine st_go hK rfl rfl ?_
      refine st_if hK rfl rfl (fun _ => ?_) (fun c => absurd (by decide) c)
      refine st_go hK rfl rfl ?_
      refine st_getr hK rfl qf_0_1 ?_
      refine st_getr hK rfl qf_10_2 ?_
      refine st_go hK rfl rfl ?_
      change K _ [some (.ref 0), some (.int (nI a)), some (.int (nI b)), some (.int (2 : Int32)), some (.ref 13)] _ _
      refine st_go hK rfl rfl ?_
      refine st_go hK rfl rfl ?_
      refine st_getr hK rfl qf_0_1 ?_
      refine st_go hK rfl rfl ?_
      refine cv1 hK rfl qc_10 (Nat.le_of_ble_eq_true rfl) ?_
      refine z_part hW10 ina ?_
      rw [eca]
      change K _ _ (_ :: _) _
      refine st_go hK rfl rfl ?_
      refine st_getr hK rfl qf_0_1 ?_
      refine st_go hK rfl rfl ?_
      refine cv1 hK rfl qc_10 (Nat.le_of_ble_eq_true rfl) ?_
      refine z_part hW10 inb ?_
      rw [ecb]
      change K _ _ (_ :: _) _
      refine st_go hK rfl rfl ?_
      refine st_getr hK rfl qf_0_0 ?_
      refine gi (v := σ 1 9) hK rfl qf_1_9 rfl ?_
      refine st_go hK rfl rfl ?_
      refine st_bin hK rfl ?_
      refine cv3 hK rfl qc_13 (Nat.le_of_ble_eq_true rfl) ?_
      refine z_weigh ⟨10, hW10, rfl⟩ hpa hpb ?_
      change K _ _ _ _
      refine st_go hK rfl rfl ?_
      refine st_tabk (t := 130) hK rfl (by decide) ?_
      refine st_go hK rfl rfl ?_
      refine gi (v := lwF (σ (10 + 5 + a)) (σ (10 + 5 + b)) (σ 1 9 * 65536)) hK rfl qf_13_2 wgF_2 ?_
      refine st_ret hK rfl rfl ?_
      obtain ⟨mw2, te2, l2, k2, mv2⟩ := hI.mf (τ := (wgF σ 13 (10 + 5 + a) (10 + 5 + b) (σ 1 9 * 65536))) (fun p hp => wgF_ne (by omega))
      refine zi (L := [some (.ref 146), some (.int (nI a)), some (.int (nI b)), some (.int (2 : Int32))]) rfl rfl (fun K2 hK2 => ?_)
      refine st_go hK2 rfl rfl ?_
      refine st_go hK2 rfl rfl ?_
      refine cv1 hK2 rfl qc_146 (Nat.le_of_ble_eq_true rfl) ?_
      refine z_misNode' hI (fun p hp => wgF_ne (by omega)) (fun _ => ?_) (fun c => absurd hna c)
      change K2 _ _ (_ :: _) _
      refine st_if hK2 rfl rfl (fun c => absurd c (by decide)) (fun _ => ?_)
      refine st_go hK2 rfl rfl ?_
      refine st_go hK2 rfl rfl ?_
      refine cv1 hK2 rfl qc_146 (Nat.le_of_ble_eq_true rfl) ?_
      refine z_misNode' hI (fun p hp => wgF_ne (by omega)) (fun _ => ?_) (fun c => absurd hnb c)
      change K2 _ _ (_ :: _) _
      refine st_if hK2 rfl rfl (fun c => absurd c (by decide)) (fun _ => ?_)
      refine st_go hK2 rfl rfl ?_
      refine st_go hK2 rfl rfl ?_
      refine st_ifn hK2 rfl rfl (nI_eq (a := a) (b := b) (by omega) (by omega)) (fun c => absurd c hab) (fun _ => ?_)
      refine st_go hK2 rfl rfl ?_
      refine st_go hK2 rfl rfl ?_
      refine st_go hK2 rfl rfl ?_
      refine cs3 hK2 rfl (Nat.le_of_ble_eq_true rfl) ?_
      refine z_min (fun _ => ?_) (fun c => absurd hw c)
      change K2 _ _ (_ :: _) _
      refine st_if hK2 rfl rfl (fun _ => ?_) (fun c => absurd (by decide) c)
      refine st_go hK2 rfl rfl ?_
      refine cv0 hK2 rfl qc_146 (Nat.le_of_ble_eq_true rfl) ?_
      refine z_tellsAll mw2 (fun τ hT => ?_)
      change K2 _ _ _ _
      refine st_go hK2 rfl rfl ?_
      refine st_go hK2 rfl rfl ?_
      refine st_go hK2 rfl rfl ?_
      refine cv2 hK2 rfl qc_146 (Nat.le_of_ble_eq_true rfl) ?_
      refine z_reckons a15 b15 ?_
      change K2 _ _ _ _
      refine st_go hK2 rfl rfl ?_
      refine st_if hK2 rfl rfl (fun _ => ?_) (fun c => absurd (by decide) c)
      refine st_go hK2 rfl rfl ?_
      refine st_go hK2 rfl rfl ?_
      refine st_if hK2 rfl rfl (fun _ => ?_) (fun c => absurd (by decide) c)
      refine st_go hK2 rfl rfl ?_
      refine st_go hK2 rfl rfl ?_
      refine st_if hK2 rfl rfl (fun c => absurd c (by decide)) (fun _ => ?_)
      refine st_go hK2 rfl rfl ?_
      refine gi (v := lwF (mP τ a) (mP τ b) (mSk τ)) hK2 rfl qf_146_27 rk_27 ?_
      refine st_go hK2 rfl rfl ?_
      refine st_ret hK2 rfl rfl ?_
      have na2 : nodeN s ((wgF σ 13 (10 + 5 + a) (10 + 5 + b) (σ 1 9 * 65536)) 151) a := by rw [wgF_ne (by decide)]; exact te.nn.mpr ha
      have nb2 : nodeN s ((wgF σ 13 (10 + 5 + a) (10 + 5 + b) (σ 1 9 * 65536)) 151) b := by rw [wgF_ne (by decide)]; exact te.nn.mpr hbn
      have pa : ∀ k, k < 6 → mP τ a k = σ (10 + 5 + a) k := fun k hk => ((hT.2.1 a na2 k (by omega) (by omega)).trans (te2.uv g.1 ha k (by omega) (by omega))).trans (ua k hk).symm
      have pb : ∀ k, k < 6 → mP τ b k = σ (10 + 5 + b) k := fun k hk => ((hT.2.1 b nb2 k (by omega) (by omega)).trans (te2.uv g.1 hbn k (by omega) (by omega))).trans (ub k hk).symm
      have esk : mSk τ = σ 1 9 * 65536 := by
        unfold mSk
        rw [hT.1.2 3 (by omega)]
        show mv (wgF σ 13 (10 + 5 + a) (10 + 5 + b) (σ 1 9 * 65536)) 1 9 * 65536 = _
        rw [te2.e9]
      rw [esk, lw_congr pa pb]
      exact Res.mk ((((sc_13 (fun p hp => wgF_ne hp)).trans hT.1.tq.sc).trans ⟨fun p hp => rk_p (by omega), by rw [rk_p (by decide)], fun k hk => rk_k (by omega)⟩).inv hI)
    · skip
      refine zi (L := [some (.ref 0), some (.int (nI a)), some (.int (nI b)), some (.int (3 : Int32)), none]) rfl rfl (fun K hK => ?_)
      refine st_go hK rfl rfl ?_
      refine st_getr hK rfl qf_0_0 ?_
      refine st_go hK rfl rfl ?_
      refine cv1 hK rfl qc_1 (Nat.le_of_ble_eq_true rfl) ?_
      refine z_hasNode' hT1 g.1 (fun _ => ?_) (fun c => absurd hna c)
      change K _ _ (_ :: _) _
      refine st_if hK rfl rfl (fun c => absurd c (by decide)) (fun _ => ?_)
      refine st_go hK rfl rfl ?_
      refine st_getr hK rfl qf_0_0 ?_
      refine st_go hK rfl rfl ?_
      refine cv1 hK rfl qc_1 (Nat.le_of_ble_eq_true rfl) ?_
      refine z_hasNode' hT1 g.1 (fun _ => ?_) (fun c => absurd hnb c)
      change K _ _ (_ :: _) _
      refine st_if hK rfl rfl (fun c => absurd c (by decide)) (fun _ => ?_)
      refine st_go hK rfl rfl ?_
      refine st_go hK rfl rfl ?_
      refine st_ifn hK rfl rfl (nI_eq (a := a) (b := b) (by omega) (by omega)) (fun c => absurd c hab) (fun _ => ?_)
      refine st_go hK rfl rfl ?_
      refine st_if hK rfl rfl (fun c => absurd c (by decide)) (fun _ => ?_)
      refine st_go hK rfl rfl ?_
      refine st_go hK rfl rfl ?_
      refine st_if hK rfl rfl (fun _ => ?_) (fun c => absurd (by decide) c)
      refine st_go hK rfl rfl ?_
      refine st_getr hK rfl qf_0_1 ?_
      refine st_getr hK rfl qf_10_2 ?_
      refine st_go hK rfl rfl ?_
      change K _ [some (.ref 0), some (.int (nI a)), some (.int (nI b)), some (.int (3 : Int32)), some (.ref 13)] _ _
      refine st_go hK rfl rfl ?_
      refine st_go hK rfl rfl ?_
      refine st_getr hK rfl qf_0_1 ?_
      refine st_go hK rfl rfl ?_
      refine cv1 hK rfl qc_10 (Nat.le_of_ble_eq_true rfl) ?_
      refine z_part hW10 ina ?_
      rw [eca]
      change K _ _ (_ :: _) _
      refine st_go hK rfl rfl ?_
      refine st_getr hK rfl qf_0_1 ?_
      refine st_go hK rfl rfl ?_
      refine cv1 hK rfl qc_10 (Nat.le_of_ble_eq_true rfl) ?_
      refine z_part hW10 inb ?_
      rw [ecb]
      change K _ _ (_ :: _) _
      refine st_go hK rfl rfl ?_
      refine st_getr hK rfl qf_0_0 ?_
      refine gi (v := σ 1 9) hK rfl qf_1_9 rfl ?_
      refine st_go hK rfl rfl ?_
      refine st_bin hK rfl ?_
      refine cv3 hK rfl qc_13 (Nat.le_of_ble_eq_true rfl) ?_
      refine z_weigh ⟨10, hW10, rfl⟩ hpa hpb ?_
      change K _ _ _ _
      refine st_go hK rfl rfl ?_
      refine st_tabk (t := 136) hK rfl (by decide) ?_
      refine st_go hK rfl rfl ?_
      refine gi (v := rwF (σ (10 + 5 + a)) (σ (10 + 5 + b)) (σ 1 9 * 65536)) hK rfl qf_13_3 wgF_3 ?_
      refine st_ret hK rfl rfl ?_
      obtain ⟨mw2, te2, l2, k2, mv2⟩ := hI.mf (τ := (wgF σ 13 (10 + 5 + a) (10 + 5 + b) (σ 1 9 * 65536))) (fun p hp => wgF_ne (by omega))
      refine zi (L := [some (.ref 146), some (.int (nI a)), some (.int (nI b)), some (.int (3 : Int32))]) rfl rfl (fun K2 hK2 => ?_)
      refine st_go hK2 rfl rfl ?_
      refine st_go hK2 rfl rfl ?_
      refine cv1 hK2 rfl qc_146 (Nat.le_of_ble_eq_true rfl) ?_
      refine z_misNode' hI (fun p hp => wgF_ne (by omega)) (fun _ => ?_) (fun c => absurd hna c)
      change K2 _ _ (_ :: _) _
      refine st_if hK2 rfl rfl (fun c => absurd c (by decide)) (fun _ => ?_)
      refine st_go hK2 rfl rfl ?_
      refine st_go hK2 rfl rfl ?_
      refine cv1 hK2 rfl qc_146 (Nat.le_of_ble_eq_true rfl) ?_
      refine z_misNode' hI (fun p hp => wgF_ne (by omega)) (fun _ => ?_) (fun c => absurd hnb c)
      change K2 _ _ (_ :: _) _
      refine st_if hK2 rfl rfl (fun c => absurd c (by decide)) (fun _ => ?_)
      refine st_go hK2 rfl rfl ?_
      refine st_go hK2 rfl rfl ?_
      refine st_ifn hK2 rfl rfl (nI_eq (a := a) (b := b) (by omega) (by omega)) (fun c => absurd c hab) (fun _ => ?_)
      refine st_go hK2 rfl rfl ?_
      refine st_go hK2 rfl rfl ?_
      refine st_go hK2 rfl rfl ?_
      refine cs3 hK2 rfl (Nat.le_of_ble_eq_true rfl) ?_
      refine z_min (fun _ => ?_) (fun c => absurd hw c)
      change K2 _ _ (_ :: _) _
      refine st_if hK2 rfl rfl (fun _ => ?_) (fun c => absurd (by decide) c)
      refine st_go hK2 rfl rfl ?_
      refine cv0 hK2 rfl qc_146 (Nat.le_of_ble_eq_true rfl) ?_
      refine z_tellsAll mw2 (fun τ hT => ?_)
      change K2 _ _ _ _
      refine st_go hK2 rfl rfl ?_
      refine st_go hK2 rfl rfl ?_
      refine st_go hK2 rfl rfl ?_
      refine cv2 hK2 rfl qc_146 (Nat.le_of_ble_eq_true rfl) ?_
      refine z_reckons a15 b15 ?_
      change K2 _ _ _ _
      refine st_go hK2 rfl rfl ?_
      refine st_if hK2 rfl rfl (fun _ => ?_) (fun c => absurd (by decide) c)
      refine st_go hK2 rfl rfl ?_
      refine st_go hK2 rfl rfl ?_
      refine st_if hK2 rfl rfl (fun _ => ?_) (fun c => absurd (by decide) c)
      refine st_go hK2 rfl rfl ?_
      refine st_go hK2 rfl rfl ?_
      refine st_if hK2 rfl rfl (fun _ => ?_) (fun c => absurd (by decide) c)
      refine st_go hK2 rfl rfl ?_
      refine gi (v := rwF (mP τ a) (mP τ b) (mSk τ)) hK2 rfl qf_146_28 rk_28 ?_
      refine st_ret hK2 rfl rfl ?_
      have na2 : nodeN s ((wgF σ 13 (10 + 5 + a) (10 + 5 + b) (σ 1 9 * 65536)) 151) a := by rw [wgF_ne (by decide)]; exact te.nn.mpr ha
      have nb2 : nodeN s ((wgF σ 13 (10 + 5 + a) (10 + 5 + b) (σ 1 9 * 65536)) 151) b := by rw [wgF_ne (by decide)]; exact te.nn.mpr hbn
      have pa : ∀ k, k < 6 → mP τ a k = σ (10 + 5 + a) k := fun k hk => ((hT.2.1 a na2 k (by omega) (by omega)).trans (te2.uv g.1 ha k (by omega) (by omega))).trans (ua k hk).symm
      have pb : ∀ k, k < 6 → mP τ b k = σ (10 + 5 + b) k := fun k hk => ((hT.2.1 b nb2 k (by omega) (by omega)).trans (te2.uv g.1 hbn k (by omega) (by omega))).trans (ub k hk).symm
      have esk : mSk τ = σ 1 9 * 65536 := by
        unfold mSk
        rw [hT.1.2 3 (by omega)]
        show mv (wgF σ 13 (10 + 5 + a) (10 + 5 + b) (σ 1 9 * 65536)) 1 9 * 65536 = _
        rw [te2.e9]
      rw [esk, rw_congr pa pb]
      exact Res.mk ((((sc_13 (fun p hp => wgF_ne hp)).trans hT.1.tq.sc).trans ⟨fun p hp => rk_p (by omega), by rw [rk_p (by decide)], fun k hk => rk_k (by omega)⟩).inv hI)
  · skip
    refine zi (L := [some (.ref 0), some (.int x), some (.int y), some (.int w), none]) rfl rfl (fun K hK => ?_)
    refine st_go hK rfl rfl ?_
    refine st_getr hK rfl qf_0_0 ?_
    refine st_go hK rfl rfl ?_
    refine cv1 hK rfl qc_1 (Nat.le_of_ble_eq_true rfl) ?_
    refine z_hasNode' hT1 g.1 (fun h1 => ?_) (fun h1 => ?_)
    · change K _ _ (_ :: _) _
      refine st_if hK rfl rfl (fun c => absurd c (by decide)) (fun _ => ?_)
      refine st_go hK rfl rfl ?_
      refine st_getr hK rfl qf_0_0 ?_
      refine st_go hK rfl rfl ?_
      refine cv1 hK rfl qc_1 (Nat.le_of_ble_eq_true rfl) ?_
      refine z_hasNode' hT1 g.1 (fun h2 => ?_) (fun h2 => ?_)
      · change K _ _ (_ :: _) _
        refine st_if hK rfl rfl (fun c => absurd c (by decide)) (fun _ => ?_)
        refine st_go hK rfl rfl ?_
        refine st_go hK rfl rfl ?_
        refine st_if hK rfl rfl (fun c24 => ?_) (fun c24 => ?_)
        · refine st_go hK rfl rfl ?_
          refine st_go hK rfl rfl ?_
          refine cv1 hK rfl qc_0 (Nat.le_of_ble_eq_true rfl) ?_
          refine z_rbad ?_
          change K _ _ (_ :: _) _
          refine st_ret hK rfl rfl ?_
          obtain ⟨mw2, te2, l2, k2x, mv2⟩ := hI.mf (τ := (cw_up σ 0 6 (σ 0 6 + 1))) (fun p hp => up_ne (by omega))
          refine zi (L := [some (.ref 146), some (.int x), some (.int y), some (.int w)]) rfl rfl (fun K2 hK2 => ?_)
          refine st_go hK2 rfl rfl ?_
          refine st_go hK2 rfl rfl ?_
          refine cv1 hK2 rfl qc_146 (Nat.le_of_ble_eq_true rfl) ?_
          refine z_misNode' hI (fun p hp => up_ne (by omega)) (fun k1 => ?_) (fun k1 => ?_)
          · change K2 _ _ (_ :: _) _
            refine st_if hK2 rfl rfl (fun c => absurd c (by decide)) (fun _ => ?_)
            refine st_go hK2 rfl rfl ?_
            refine st_go hK2 rfl rfl ?_
            refine cv1 hK2 rfl qc_146 (Nat.le_of_ble_eq_true rfl) ?_
            refine z_misNode' hI (fun p hp => up_ne (by omega)) (fun k2 => ?_) (fun k2 => ?_)
            · change K2 _ _ (_ :: _) _
              refine st_if hK2 rfl rfl (fun c => absurd c (by decide)) (fun _ => ?_)
              refine st_go hK2 rfl rfl ?_
              refine st_go hK2 rfl rfl ?_
              refine st_if hK2 rfl rfl (fun c18 => ?_) (fun c18 => ?_)
              · refine st_go hK2 rfl rfl ?_
                refine cv0 hK2 rfl qc_146 (Nat.le_of_ble_eq_true rfl) ?_
                refine z_mbad ?_
                change K2 _ _ (_ :: _) _
                refine st_ret hK2 rfl rfl ?_
                exact Res.mk (hI.err (k := 0) (by decide))
              · refine st_go hK2 rfl rfl ?_
                refine st_go hK2 rfl rfl ?_
                refine st_go hK2 rfl rfl ?_
                refine cs3 hK2 rfl (Nat.le_of_ble_eq_true rfl) ?_
                refine z_min (fun c => absurd ⟨k1, k2, c18, c⟩ hb) (fun _ => ?_)
                change K2 _ _ (_ :: _) _
                refine st_if hK2 rfl rfl (fun c => absurd c (by decide)) (fun _ => ?_)
                refine st_go hK2 rfl rfl ?_
                refine cv0 hK2 rfl qc_146 (Nat.le_of_ble_eq_true rfl) ?_
                refine z_mbad ?_
                change K2 _ _ (_ :: _) _
                refine st_ret hK2 rfl rfl ?_
                exact Res.mk (hI.err (k := 0) (by decide))
            · change K2 _ _ (_ :: _) _
              refine st_if hK2 rfl rfl (fun _ => ?_) (fun c => absurd (by decide) c)
              refine st_go hK2 rfl rfl ?_
              refine cv0 hK2 rfl qc_146 (Nat.le_of_ble_eq_true rfl) ?_
              refine z_mbad ?_
              change K2 _ _ (_ :: _) _
              refine st_ret hK2 rfl rfl ?_
              exact Res.mk (hI.err (k := 0) (by decide))
          · change K2 _ _ (_ :: _) _
            refine st_if hK2 rfl rfl (fun _ => ?_) (fun c => absurd (by decide) c)
            refine st_go hK2 rfl rfl ?_
            refine cv0 hK2 rfl qc_146 (Nat.le_of_ble_eq_true rfl) ?_
            refine z_mbad ?_
            change K2 _ _ (_ :: _) _
            refine st_ret hK2 rfl rfl ?_
            exact Res.mk (hI.err (k := 0) (by decide))
        · refine st_go hK rfl rfl ?_
          refine st_if hK rfl rfl (fun c28 => ?_) (fun c28 => ?_)
          · refine st_go hK rfl rfl ?_
            refine st_go hK rfl rfl ?_
            refine cv1 hK rfl qc_0 (Nat.le_of_ble_eq_true rfl) ?_
            refine z_rbad ?_
            change K _ _ (_ :: _) _
            refine st_ret hK rfl rfl ?_
            obtain ⟨mw2, te2, l2, k2x, mv2⟩ := hI.mf (τ := (cw_up σ 0 6 (σ 0 6 + 1))) (fun p hp => up_ne (by omega))
            refine zi (L := [some (.ref 146), some (.int x), some (.int y), some (.int w)]) rfl rfl (fun K2 hK2 => ?_)
            refine st_go hK2 rfl rfl ?_
            refine st_go hK2 rfl rfl ?_
            refine cv1 hK2 rfl qc_146 (Nat.le_of_ble_eq_true rfl) ?_
            refine z_misNode' hI (fun p hp => up_ne (by omega)) (fun k1 => ?_) (fun k1 => ?_)
            · change K2 _ _ (_ :: _) _
              refine st_if hK2 rfl rfl (fun c => absurd c (by decide)) (fun _ => ?_)
              refine st_go hK2 rfl rfl ?_
              refine st_go hK2 rfl rfl ?_
              refine cv1 hK2 rfl qc_146 (Nat.le_of_ble_eq_true rfl) ?_
              refine z_misNode' hI (fun p hp => up_ne (by omega)) (fun k2 => ?_) (fun k2 => ?_)
              · change K2 _ _ (_ :: _) _
                refine st_if hK2 rfl rfl (fun c => absurd c (by decide)) (fun _ => ?_)
                refine st_go hK2 rfl rfl ?_
                refine st_go hK2 rfl rfl ?_
                refine st_if hK2 rfl rfl (fun c18 => ?_) (fun c18 => ?_)
                · refine st_go hK2 rfl rfl ?_
                  refine cv0 hK2 rfl qc_146 (Nat.le_of_ble_eq_true rfl) ?_
                  refine z_mbad ?_
                  change K2 _ _ (_ :: _) _
                  refine st_ret hK2 rfl rfl ?_
                  exact Res.mk (hI.err (k := 0) (by decide))
                · refine st_go hK2 rfl rfl ?_
                  refine st_go hK2 rfl rfl ?_
                  refine st_go hK2 rfl rfl ?_
                  refine cs3 hK2 rfl (Nat.le_of_ble_eq_true rfl) ?_
                  refine z_min (fun c => absurd ⟨k1, k2, c18, c⟩ hb) (fun _ => ?_)
                  change K2 _ _ (_ :: _) _
                  refine st_if hK2 rfl rfl (fun c => absurd c (by decide)) (fun _ => ?_)
                  refine st_go hK2 rfl rfl ?_
                  refine cv0 hK2 rfl qc_146 (Nat.le_of_ble_eq_true rfl) ?_
                  refine z_mbad ?_
                  change K2 _ _ (_ :: _) _
                  refine st_ret hK2 rfl rfl ?_
                  exact Res.mk (hI.err (k := 0) (by decide))
              · change K2 _ _ (_ :: _) _
                refine st_if hK2 rfl rfl (fun _ => ?_) (fun c => absurd (by decide) c)
                refine st_go hK2 rfl rfl ?_
                refine cv0 hK2 rfl qc_146 (Nat.le_of_ble_eq_true rfl) ?_
                refine z_mbad ?_
                change K2 _ _ (_ :: _) _
                refine st_ret hK2 rfl rfl ?_
                exact Res.mk (hI.err (k := 0) (by decide))
            · change K2 _ _ (_ :: _) _
              refine st_if hK2 rfl rfl (fun _ => ?_) (fun c => absurd (by decide) c)
              refine st_go hK2 rfl rfl ?_
              refine cv0 hK2 rfl qc_146 (Nat.le_of_ble_eq_true rfl) ?_
              refine z_mbad ?_
              change K2 _ _ (_ :: _) _
              refine st_ret hK2 rfl rfl ?_
              exact Res.mk (hI.err (k := 0) (by decide))
          · refine st_go hK rfl rfl ?_
            refine st_go hK rfl rfl ?_
            refine st_if hK rfl rfl (fun c => absurd c (fun z => hb ⟨h1, h2, c24, Int32.not_lt.mp c28, z⟩)) (fun _ => ?_)
            refine st_go hK rfl rfl ?_
            refine st_go hK rfl rfl ?_
            refine cv1 hK rfl qc_0 (Nat.le_of_ble_eq_true rfl) ?_
            refine z_rbad ?_
            change K _ _ (_ :: _) _
            refine st_ret hK rfl rfl ?_
            obtain ⟨mw2, te2, l2, k2x, mv2⟩ := hI.mf (τ := (cw_up σ 0 6 (σ 0 6 + 1))) (fun p hp => up_ne (by omega))
            refine zi (L := [some (.ref 146), some (.int x), some (.int y), some (.int w)]) rfl rfl (fun K2 hK2 => ?_)
            refine st_go hK2 rfl rfl ?_
            refine st_go hK2 rfl rfl ?_
            refine cv1 hK2 rfl qc_146 (Nat.le_of_ble_eq_true rfl) ?_
            refine z_misNode' hI (fun p hp => up_ne (by omega)) (fun k1 => ?_) (fun k1 => ?_)
            · change K2 _ _ (_ :: _) _
              refine st_if hK2 rfl rfl (fun c => absurd c (by decide)) (fun _ => ?_)
              refine st_go hK2 rfl rfl ?_
              refine st_go hK2 rfl rfl ?_
              refine cv1 hK2 rfl qc_146 (Nat.le_of_ble_eq_true rfl) ?_
              refine z_misNode' hI (fun p hp => up_ne (by omega)) (fun k2 => ?_) (fun k2 => ?_)
              · change K2 _ _ (_ :: _) _
                refine st_if hK2 rfl rfl (fun c => absurd c (by decide)) (fun _ => ?_)
                refine st_go hK2 rfl rfl ?_
                refine st_go hK2 rfl rfl ?_
                refine st_if hK2 rfl rfl (fun c18 => ?_) (fun c18 => ?_)
                · refine st_go hK2 rfl rfl ?_
                  refine cv0 hK2 rfl qc_146 (Nat.le_of_ble_eq_true rfl) ?_
                  refine z_mbad ?_
                  change K2 _ _ (_ :: _) _
                  refine st_ret hK2 rfl rfl ?_
                  exact Res.mk (hI.err (k := 0) (by decide))
                · refine st_go hK2 rfl rfl ?_
                  refine st_go hK2 rfl rfl ?_
                  refine st_go hK2 rfl rfl ?_
                  refine cs3 hK2 rfl (Nat.le_of_ble_eq_true rfl) ?_
                  refine z_min (fun c => absurd ⟨k1, k2, c18, c⟩ hb) (fun _ => ?_)
                  change K2 _ _ (_ :: _) _
                  refine st_if hK2 rfl rfl (fun c => absurd c (by decide)) (fun _ => ?_)
                  refine st_go hK2 rfl rfl ?_
                  refine cv0 hK2 rfl qc_146 (Nat.le_of_ble_eq_true rfl) ?_
                  refine z_mbad ?_
                  change K2 _ _ (_ :: _) _
                  refine st_ret hK2 rfl rfl ?_
                  exact Res.mk (hI.err (k := 0) (by decide))
              · change K2 _ _ (_ :: _) _
                refine st_if hK2 rfl rfl (fun _ => ?_) (fun c => absurd (by decide) c)
                refine st_go hK2 rfl rfl ?_
                refine cv0 hK2 rfl qc_146 (Nat.le_of_ble_eq_true rfl) ?_
                refine z_mbad ?_
                change K2 _ _ (_ :: _) _
                refine st_ret hK2 rfl rfl ?_
                exact Res.mk (hI.err (k := 0) (by decide))
            · change K2 _ _ (_ :: _) _
              refine st_if hK2 rfl rfl (fun _ => ?_) (fun c => absurd (by decide) c)
              refine st_go hK2 rfl rfl ?_
              refine cv0 hK2 rfl qc_146 (Nat.le_of_ble_eq_true rfl) ?_
              refine z_mbad ?_
              change K2 _ _ (_ :: _) _
              refine st_ret hK2 rfl rfl ?_
              exact Res.mk (hI.err (k := 0) (by decide))
      · change K _ _ (_ :: _) _
        refine st_if hK rfl rfl (fun _ => ?_) (fun c => absurd (by decide) c)
        refine st_go hK rfl rfl ?_
        refine st_go hK rfl rfl ?_
        refine cv1 hK rfl qc_0 (Nat.le_of_ble_eq_true rfl) ?_
        refine z_rbad ?_
        change K _ _ (_ :: _) _
        refine st_ret hK rfl rfl ?_
        obtain ⟨mw2, te2, l2, k2x, mv2⟩ := hI.mf (τ := (cw_up σ 0 6 (σ 0 6 + 1))) (fun p hp => up_ne (by omega))
        refine zi (L := [some (.ref 146), some (.int x), some (.int y), some (.int w)]) rfl rfl (fun K2 hK2 => ?_)
        refine st_go hK2 rfl rfl ?_
        refine st_go hK2 rfl rfl ?_
        refine cv1 hK2 rfl qc_146 (Nat.le_of_ble_eq_true rfl) ?_
        refine z_misNode' hI (fun p hp => up_ne (by omega)) (fun k1 => ?_) (fun k1 => ?_)
        · change K2 _ _ (_ :: _) _
          refine st_if hK2 rfl rfl (fun c => absurd c (by decide)) (fun _ => ?_)
          refine st_go hK2 rfl rfl ?_
          refine st_go hK2 rfl rfl ?_
          refine cv1 hK2 rfl qc_146 (Nat.le_of_ble_eq_true rfl) ?_
          refine z_misNode' hI (fun p hp => up_ne (by omega)) (fun k2 => ?_) (fun k2 => ?_)
          · change K2 _ _ (_ :: _) _
            refine st_if hK2 rfl rfl (fun c => absurd c (by decide)) (fun _ => ?_)
            refine st_go hK2 rfl rfl ?_
            refine st_go hK2 rfl rfl ?_
            refine st_if hK2 rfl rfl (fun c18 => ?_) (fun c18 => ?_)
            · refine st_go hK2 rfl rfl ?_
              refine cv0 hK2 rfl qc_146 (Nat.le_of_ble_eq_true rfl) ?_
              refine z_mbad ?_
              change K2 _ _ (_ :: _) _
              refine st_ret hK2 rfl rfl ?_
              exact Res.mk (hI.err (k := 0) (by decide))
            · refine st_go hK2 rfl rfl ?_
              refine st_go hK2 rfl rfl ?_
              refine st_go hK2 rfl rfl ?_
              refine cs3 hK2 rfl (Nat.le_of_ble_eq_true rfl) ?_
              refine z_min (fun c => absurd ⟨k1, k2, c18, c⟩ hb) (fun _ => ?_)
              change K2 _ _ (_ :: _) _
              refine st_if hK2 rfl rfl (fun c => absurd c (by decide)) (fun _ => ?_)
              refine st_go hK2 rfl rfl ?_
              refine cv0 hK2 rfl qc_146 (Nat.le_of_ble_eq_true rfl) ?_
              refine z_mbad ?_
              change K2 _ _ (_ :: _) _
              refine st_ret hK2 rfl rfl ?_
              exact Res.mk (hI.err (k := 0) (by decide))
          · change K2 _ _ (_ :: _) _
            refine st_if hK2 rfl rfl (fun _ => ?_) (fun c => absurd (by decide) c)
            refine st_go hK2 rfl rfl ?_
            refine cv0 hK2 rfl qc_146 (Nat.le_of_ble_eq_true rfl) ?_
            refine z_mbad ?_
            change K2 _ _ (_ :: _) _
            refine st_ret hK2 rfl rfl ?_
            exact Res.mk (hI.err (k := 0) (by decide))
        · change K2 _ _ (_ :: _) _
          refine st_if hK2 rfl rfl (fun _ => ?_) (fun c => absurd (by decide) c)
          refine st_go hK2 rfl rfl ?_
          refine cv0 hK2 rfl qc_146 (Nat.le_of_ble_eq_true rfl) ?_
          refine z_mbad ?_
          change K2 _ _ (_ :: _) _
          refine st_ret hK2 rfl rfl ?_
          exact Res.mk (hI.err (k := 0) (by decide))
    · change K _ _ (_ :: _) _
      refine st_if hK rfl rfl (fun _ => ?_) (fun c => absurd (by decide) c)
      refine st_go hK rfl rfl ?_
      refine st_go hK rfl rfl ?_
      refine cv1 hK rfl qc_0 (Nat.le_of_ble_eq_true rfl) ?_
      refine z_rbad ?_
      change K _ _ (_ :: _) _
      refine st_ret hK rfl rfl ?_
      obtain ⟨mw2, te2, l2, k2x, mv2⟩ := hI.mf (τ := (cw_up σ 0 6 (σ 0 6 + 1))) (fun p hp => up_ne (by omega))
      refine zi (L := [some (.ref 146), some (.int x), some (.int y), some (.int w)]) rfl rfl (fun K2 hK2 => ?_)
      refine st_go hK2 rfl rfl ?_
      refine st_go hK2 rfl rfl ?_
      refine cv1 hK2 rfl qc_146 (Nat.le_of_ble_eq_true rfl) ?_
      refine z_misNode' hI (fun p hp => up_ne (by omega)) (fun k1 => ?_) (fun k1 => ?_)
      · change K2 _ _ (_ :: _) _
        refine st_if hK2 rfl rfl (fun c => absurd c (by decide)) (fun _ => ?_)
        refine st_go hK2 rfl rfl ?_
        refine st_go hK2 rfl rfl ?_
        refine cv1 hK2 rfl qc_146 (Nat.le_of_ble_eq_true rfl) ?_
        refine z_misNode' hI (fun p hp => up_ne (by omega)) (fun k2 => ?_) (fun k2 => ?_)
        · change K2 _ _ (_ :: _) _
          refine st_if hK2 rfl rfl (fun c => absurd c (by decide)) (fun _ => ?_)
          refine st_go hK2 rfl rfl ?_
          refine st_go hK2 rfl rfl ?_
          refine st_if hK2 rfl rfl (fun c18 => ?_) (fun c18 => ?_)
          · refine st_go hK2 rfl rfl ?_
            refine cv0 hK2 rfl qc_146 (Nat.le_of_ble_eq_true rfl) ?_
            refine z_mbad ?_
            change K2 _ _ (_ :: _) _
            refine st_ret hK2 rfl rfl ?_
            exact Res.mk (hI.err (k := 0) (by decide))
          · refine st_go hK2 rfl rfl ?_
            refine st_go hK2 rfl rfl ?_
            refine st_go hK2 rfl rfl ?_
            refine cs3 hK2 rfl (Nat.le_of_ble_eq_true rfl) ?_
            refine z_min (fun c => absurd ⟨k1, k2, c18, c⟩ hb) (fun _ => ?_)
            change K2 _ _ (_ :: _) _
            refine st_if hK2 rfl rfl (fun c => absurd c (by decide)) (fun _ => ?_)
            refine st_go hK2 rfl rfl ?_
            refine cv0 hK2 rfl qc_146 (Nat.le_of_ble_eq_true rfl) ?_
            refine z_mbad ?_
            change K2 _ _ (_ :: _) _
            refine st_ret hK2 rfl rfl ?_
            exact Res.mk (hI.err (k := 0) (by decide))
        · change K2 _ _ (_ :: _) _
          refine st_if hK2 rfl rfl (fun _ => ?_) (fun c => absurd (by decide) c)
          refine st_go hK2 rfl rfl ?_
          refine cv0 hK2 rfl qc_146 (Nat.le_of_ble_eq_true rfl) ?_
          refine z_mbad ?_
          change K2 _ _ (_ :: _) _
          refine st_ret hK2 rfl rfl ?_
          exact Res.mk (hI.err (k := 0) (by decide))
      · change K2 _ _ (_ :: _) _
        refine st_if hK2 rfl rfl (fun _ => ?_) (fun c => absurd (by decide) c)
        refine st_go hK2 rfl rfl ?_
        refine cv0 hK2 rfl qc_146 (Nat.le_of_ble_eq_true rfl) ?_
        refine z_mbad ?_
        change K2 _ _ (_ :: _) _
        refine st_ret hK2 rfl rfl ?_
        exact Res.mk (hI.err (k := 0) (by decide))
theorem sim_place : SimI (d + 16) m_CW_place m_Mo_place [.int k, .int w] := by
  intro σ lam ⟨s, nx, c, n, hI⟩
  have g := hI.1.1
  have mw := hI.2.1.1
  have te := hI.2.1.2.1
  have es : σ 1 8 = nI s := g.1.1
  have h8 : s ≤ 8 := g.1.2.1
  obtain ⟨⟨hnx, hc, h661, h662, h13⟩, hh⟩ := hI.2.2.2.1
  have md := hI.1.2.1
  have pd := hI.1.2.2.1
  have vr : VR (mv σ) 1 s := te.vr h8 g.2.1
  have etl : tlF (mv σ) 1 15 = tlF σ 1 15 := te.tl 15 (by decide)
  by_cases hb : (∃ n, n < 15 ∧ k = nI n ∧ nodeN s (σ 7) n) ∧ 0 ≤ w ∧ w ≤ 2
  · obtain ⟨⟨m, m15, rfl, hm⟩, hw⟩ := hb
    have hn : ∃ n, n < 15 ∧ nI m = nI n ∧ nodeN s (σ 7) n := ⟨m, m15, rfl, hm⟩
    have hmm : nodeN s (σ 151) m := te.nn.mpr hm
    obtain ⟨j, hj, rfl⟩ := (nI_rg (M := 2) (n := 2) rfl (by decide)).mp hw
    by_cases h1 : (tlF σ 1 15).length = 1
    · obtain ⟨v0, v1, v2, v3, v4⟩ := pd_node g.1 pd h1 hm
      have p0 := (pd.2 h1).1
      have eE : mE σ (nI m) = Ev σ (nI m) := te.ev g.1 hm
      obtain ⟨top', u1, u2, u3, u4, u5⟩ := one_top mw.wf (show (tlF (mv σ) 1 15).length = 1 by rw [etl]; exact h1)
      rcases (show j = 0 ∨ j = 1 ∨ j = 2 by omega) with rfl | rfl | rfl
      · skip
        refine zi (L := [some (.ref 0), some (.int (nI m)), some (.int (0 : Int32))]) rfl rfl (fun K hK => ?_)
        refine st_go hK rfl rfl ?_
        refine st_getr hK rfl qf_0_0 ?_
        refine st_go hK rfl rfl ?_
        refine cv1 hK rfl qc_1 (Nat.le_of_ble_eq_true rfl) ?_
        refine z_hasNode' hT1 g.1 (fun _ => ?_) (fun c => absurd hn c)
        change K _ _ (_ :: _) _
        refine st_if hK rfl rfl (fun c => absurd c (by decide)) (fun _ => ?_)
        refine st_go hK rfl rfl ?_
        refine st_if hK rfl rfl (fun c => absurd c (by decide)) (fun _ => ?_)
        refine st_go hK rfl rfl ?_
        refine st_go hK rfl rfl ?_
        refine st_if hK rfl rfl (fun _ => ?_) (fun c => absurd (by decide) c)
        refine st_go hK rfl rfl ?_
        refine st_getr hK rfl qf_0_2 ?_
        refine gi (v := σ 30 5) hK rfl qf_30_5 rfl ?_
        refine st_if hK rfl rfl (fun _ => ?_) (fun c => absurd (by rw [p0]; decide) c)
        refine st_go hK rfl rfl ?_
        refine st_swk (t := 72) hK rfl (by decide) ?_
        refine st_go hK rfl rfl ?_
        refine st_getr hK rfl qf_0_2 ?_
        refine st_getr hK rfl qf_30_0 ?_
        refine st_go hK rfl rfl ?_
        refine ga (e := m) (v := Ev σ (nI m) 0) hK rfl qa_31 rfl (by omega) rfl v0 ?_
        refine st_ret hK rfl rfl ?_
        obtain ⟨mw2, te2, l2, k2, mv2⟩ := hI.mf (τ := σ) (fun _ _ => rfl)
        refine zi (L := [some (.ref 146), some (.int (nI m)), some (.int (0 : Int32))]) rfl rfl (fun K2 hK2 => ?_)
        refine st_go hK2 rfl rfl ?_
        refine st_go hK2 rfl rfl ?_
        refine cv1 hK2 rfl qc_146 (Nat.le_of_ble_eq_true rfl) ?_
        refine z_misNode' hI (fun _ _ => rfl) (fun _ => ?_) (fun c => absurd hn c)
        change K2 _ _ (_ :: _) _
        refine st_if hK2 rfl rfl (fun c => absurd c (by decide)) (fun _ => ?_)
        refine st_go hK2 rfl rfl ?_
        refine st_go hK2 rfl rfl ?_
        refine st_go hK2 rfl rfl ?_
        refine cs3 hK2 rfl (Nat.le_of_ble_eq_true rfl) ?_
        refine z_min (fun _ => ?_) (fun c => absurd hw c)
        change K2 _ _ (_ :: _) _
        refine st_if hK2 rfl rfl (fun _ => ?_) (fun c => absurd (by decide) c)
        refine st_go hK2 rfl rfl ?_
        refine cv0 hK2 rfl qc_146 (Nat.le_of_ble_eq_true rfl) ?_
        refine z_areLaid1 mw2 vr (show (tlF (mv σ) 1 15).length = 1 by rw [etl]; exact h1) (fun τ top hA t1 t2 => ?_)
        obtain rfl : top = top' := u5 top t1 t2
        have ltop := mw2.2.1.lt t1
        change K2 _ _ (_ :: _) _
        refine st_if hK2 rfl rfl (fun _ => ?_) (fun c => absurd (by decide) c)
        refine st_go hK2 rfl rfl ?_
        refine st_if hK2 rfl rfl (fun c => absurd c (by decide)) (fun _ => ?_)
        refine st_go hK2 rfl rfl ?_
        refine st_getr hK2 rfl qf_146_29 ?_
        refine st_go hK2 rfl rfl ?_
        refine ga (e := m) (v := mE σ (nI m) 0) hK2 rfl qa_166 rfl (by omega) rfl ((hA.2.2.2.2 m hmm).1) ?_
        refine st_go hK2 rfl rfl ?_
        refine st_ret hK2 rfl rfl ?_
        rw [eE]
        exact Res.mk (hA.1.sc.inv hI)
      · skip
        refine zi (L := [some (.ref 0), some (.int (nI m)), some (.int (1 : Int32))]) rfl rfl (fun K hK => ?_)
        refine st_go hK rfl rfl ?_
        refine st_getr hK rfl qf_0_0 ?_
        refine st_go hK rfl rfl ?_
        refine cv1 hK rfl qc_1 (Nat.le_of_ble_eq_true rfl) ?_
        refine z_hasNode' hT1 g.1 (fun _ => ?_) (fun c => absurd hn c)
        change K _ _ (_ :: _) _
        refine st_if hK rfl rfl (fun c => absurd c (by decide)) (fun _ => ?_)
        refine st_go hK rfl rfl ?_
        refine st_if hK rfl rfl (fun c => absurd c (by decide)) (fun _ => ?_)
        refine st_go hK rfl rfl ?_
        refine st_go hK rfl rfl ?_
        refine st_if hK rfl rfl (fun _ => ?_) (fun c => absurd (by decide) c)
        refine st_go hK rfl rfl ?_
        refine st_getr hK rfl qf_0_2 ?_
        refine gi (v := σ 30 5) hK rfl qf_30_5 rfl ?_
        refine st_if hK rfl rfl (fun _ => ?_) (fun c => absurd (by rw [p0]; decide) c)
        refine st_go hK rfl rfl ?_
        refine st_swk (t := 82) hK rfl (by decide) ?_
        refine st_go hK rfl rfl ?_
        refine st_getr hK rfl qf_0_2 ?_
        refine st_getr hK rfl qf_30_1 ?_
        refine st_go hK rfl rfl ?_
        refine ga (e := m) (v := Ev σ (nI m) 1) hK rfl qa_32 rfl (by omega) rfl v1 ?_
        refine st_ret hK rfl rfl ?_
        obtain ⟨mw2, te2, l2, k2, mv2⟩ := hI.mf (τ := σ) (fun _ _ => rfl)
        refine zi (L := [some (.ref 146), some (.int (nI m)), some (.int (1 : Int32))]) rfl rfl (fun K2 hK2 => ?_)
        refine st_go hK2 rfl rfl ?_
        refine st_go hK2 rfl rfl ?_
        refine cv1 hK2 rfl qc_146 (Nat.le_of_ble_eq_true rfl) ?_
        refine z_misNode' hI (fun _ _ => rfl) (fun _ => ?_) (fun c => absurd hn c)
        change K2 _ _ (_ :: _) _
        refine st_if hK2 rfl rfl (fun c => absurd c (by decide)) (fun _ => ?_)
        refine st_go hK2 rfl rfl ?_
        refine st_go hK2 rfl rfl ?_
        refine st_go hK2 rfl rfl ?_
        refine cs3 hK2 rfl (Nat.le_of_ble_eq_true rfl) ?_
        refine z_min (fun _ => ?_) (fun c => absurd hw c)
        change K2 _ _ (_ :: _) _
        refine st_if hK2 rfl rfl (fun _ => ?_) (fun c => absurd (by decide) c)
        refine st_go hK2 rfl rfl ?_
        refine cv0 hK2 rfl qc_146 (Nat.le_of_ble_eq_true rfl) ?_
        refine z_areLaid1 mw2 vr (show (tlF (mv σ) 1 15).length = 1 by rw [etl]; exact h1) (fun τ top hA t1 t2 => ?_)
        obtain rfl : top = top' := u5 top t1 t2
        have ltop := mw2.2.1.lt t1
        change K2 _ _ (_ :: _) _
        refine st_if hK2 rfl rfl (fun _ => ?_) (fun c => absurd (by decide) c)
        refine st_go hK2 rfl rfl ?_
        refine st_if hK2 rfl rfl (fun _ => ?_) (fun c => absurd (by decide) c)
        refine st_go hK2 rfl rfl ?_
        refine st_go hK2 rfl rfl ?_
        refine st_if hK2 rfl rfl (fun c => absurd c (by decide)) (fun _ => ?_)
        refine st_go hK2 rfl rfl ?_
        refine st_getr hK2 rfl qf_146_30 ?_
        refine st_go hK2 rfl rfl ?_
        refine ga (e := m) (v := mE σ (nI m) 1) hK2 rfl qa_167 rfl (by omega) rfl ((hA.2.2.2.2 m hmm).2) ?_
        refine st_go hK2 rfl rfl ?_
        refine st_ret hK2 rfl rfl ?_
        rw [eE]
        exact Res.mk (hA.1.sc.inv hI)
      · skip
        refine zi (L := [some (.ref 0), some (.int (nI m)), some (.int (2 : Int32))]) rfl rfl (fun K hK => ?_)
        refine st_go hK rfl rfl ?_
        refine st_getr hK rfl qf_0_0 ?_
        refine st_go hK rfl rfl ?_
        refine cv1 hK rfl qc_1 (Nat.le_of_ble_eq_true rfl) ?_
        refine z_hasNode' hT1 g.1 (fun _ => ?_) (fun c => absurd hn c)
        change K _ _ (_ :: _) _
        refine st_if hK rfl rfl (fun c => absurd c (by decide)) (fun _ => ?_)
        refine st_go hK rfl rfl ?_
        refine st_if hK rfl rfl (fun c => absurd c (by decide)) (fun _ => ?_)
        refine st_go hK rfl rfl ?_
        refine st_go hK rfl rfl ?_
        refine st_if hK rfl rfl (fun _ => ?_) (fun c => absurd (by decide) c)
        refine st_go hK rfl rfl ?_
        refine st_getr hK rfl qf_0_2 ?_
        refine gi (v := σ 30 5) hK rfl qf_30_5 rfl ?_
        refine st_if hK rfl rfl (fun _ => ?_) (fun c => absurd (by rw [p0]; decide) c)
        refine st_go hK rfl rfl ?_
        refine st_swk (t := 92) hK rfl (by decide) ?_
        refine st_go hK rfl rfl ?_
        refine st_getr hK rfl qf_0_2 ?_
        refine st_getr hK rfl qf_30_2 ?_
        refine st_go hK rfl rfl ?_
        refine ga (e := m) (v := Ev σ (nI m) 2) hK rfl qa_33 rfl (by omega) rfl v2 ?_
        refine st_ret hK rfl rfl ?_
        obtain ⟨mw2, te2, l2, k2, mv2⟩ := hI.mf (τ := σ) (fun _ _ => rfl)
        refine zi (L := [some (.ref 146), some (.int (nI m)), some (.int (2 : Int32))]) rfl rfl (fun K2 hK2 => ?_)
        refine st_go hK2 rfl rfl ?_
        refine st_go hK2 rfl rfl ?_
        refine cv1 hK2 rfl qc_146 (Nat.le_of_ble_eq_true rfl) ?_
        refine z_misNode' hI (fun _ _ => rfl) (fun _ => ?_) (fun c => absurd hn c)
        change K2 _ _ (_ :: _) _
        refine st_if hK2 rfl rfl (fun c => absurd c (by decide)) (fun _ => ?_)
        refine st_go hK2 rfl rfl ?_
        refine st_go hK2 rfl rfl ?_
        refine st_go hK2 rfl rfl ?_
        refine cs3 hK2 rfl (Nat.le_of_ble_eq_true rfl) ?_
        refine z_min (fun _ => ?_) (fun c => absurd hw c)
        change K2 _ _ (_ :: _) _
        refine st_if hK2 rfl rfl (fun _ => ?_) (fun c => absurd (by decide) c)
        refine st_go hK2 rfl rfl ?_
        refine cv0 hK2 rfl qc_146 (Nat.le_of_ble_eq_true rfl) ?_
        refine z_areLaid1 mw2 vr (show (tlF (mv σ) 1 15).length = 1 by rw [etl]; exact h1) (fun τ top hA t1 t2 => ?_)
        obtain rfl : top = top' := u5 top t1 t2
        have ltop := mw2.2.1.lt t1
        change K2 _ _ (_ :: _) _
        refine st_if hK2 rfl rfl (fun _ => ?_) (fun c => absurd (by decide) c)
        refine st_go hK2 rfl rfl ?_
        refine st_if hK2 rfl rfl (fun _ => ?_) (fun c => absurd (by decide) c)
        refine st_go hK2 rfl rfl ?_
        refine st_go hK2 rfl rfl ?_
        refine st_if hK2 rfl rfl (fun _ => ?_) (fun c => absurd (by decide) c)
        refine st_go hK2 rfl rfl ?_
        refine st_go hK2 rfl rfl ?_
        refine gi (v := nI top) hK2 rfl qf_146_32 hA.2.2.2.1 ?_
        refine st_ifn hK2 rfl rfl (not_congr (nI_eq (a := m) (b := top) (by omega) (by omega))) (fun c66 => ?_) (fun c66 => ?_)
        · refine st_go hK2 rfl rfl ?_
          refine st_go hK2 rfl rfl ?_
          refine cv1 hK2 rfl qc_146 (Nat.le_of_ble_eq_true rfl) ?_
          refine z_mloop mw2 hA t1 t2 hmm (fun z => c66 (u5 m hmm z)) ?_
          change K2 _ _ (_ :: _) _
          refine st_ret hK2 rfl rfl ?_
          rw [eE]
          exact Res.mk (hA.1.sc.inv hI)
        · refine st_go hK2 rfl rfl ?_
          refine st_go hK2 rfl rfl ?_
          refine st_ret hK2 rfl rfl ?_
          obtain rfl : m = top := Decidable.not_not.mp c66
          have e : mE σ (nI m) 2 = -1 := (mw2.pl t1 t2).1.2.2.1
          rw [← eE, e]
          exact Res.mk (hA.1.sc.inv hI)
    · have p0 := pd.1 h1
      refine zi (L := [some (.ref 0), some (.int (nI m)), some (.int (nI j))]) rfl rfl (fun K hK => ?_)
      refine st_go hK rfl rfl ?_
      refine st_getr hK rfl qf_0_0 ?_
      refine st_go hK rfl rfl ?_
      refine cv1 hK rfl qc_1 (Nat.le_of_ble_eq_true rfl) ?_
      refine z_hasNode' hT1 g.1 (fun _ => ?_) (fun c => absurd hn c)
      change K _ _ (_ :: _) _
      refine st_if hK rfl rfl (fun c => absurd c (by decide)) (fun _ => ?_)
      refine st_go hK rfl rfl ?_
      refine st_if hK rfl rfl (fun c => absurd c (nI_pos (by omega))) (fun _ => ?_)
      refine st_go hK rfl rfl ?_
      refine st_go hK rfl rfl ?_
      refine st_ifn hK rfl rfl (nI_leI (a := j) (b := 2) (by omega) (by omega)) (fun _ => ?_) (fun c => absurd (by omega) c)
      refine st_go hK rfl rfl ?_
      refine st_getr hK rfl qf_0_2 ?_
      refine gi (v := σ 30 5) hK rfl qf_30_5 rfl ?_
      refine st_if hK rfl rfl (fun c => absurd c (fun z => z p0)) (fun _ => ?_)
      refine st_go hK rfl rfl ?_
      refine st_go hK rfl rfl ?_
      refine cv1 hK rfl qc_0 (Nat.le_of_ble_eq_true rfl) ?_
      refine z_rno ?_
      change K _ _ (_ :: _) _
      refine st_ret hK rfl rfl ?_
      obtain ⟨mw2, te2, l2, k2, mv2⟩ := hI.mf (τ := (cw_up σ 0 7 (σ 0 7 + 1))) (fun p hp => up_ne (by omega))
      refine zi (L := [some (.ref 146), some (.int (nI m)), some (.int (nI j))]) rfl rfl (fun K2 hK2 => ?_)
      refine st_go hK2 rfl rfl ?_
      refine st_go hK2 rfl rfl ?_
      refine cv1 hK2 rfl qc_146 (Nat.le_of_ble_eq_true rfl) ?_
      refine z_misNode' hI (fun p hp => up_ne (by omega)) (fun _ => ?_) (fun c => absurd hn c)
      change K2 _ _ (_ :: _) _
      refine st_if hK2 rfl rfl (fun c => absurd c (by decide)) (fun _ => ?_)
      refine st_go hK2 rfl rfl ?_
      refine st_go hK2 rfl rfl ?_
      refine st_go hK2 rfl rfl ?_
      refine cs3 hK2 rfl (Nat.le_of_ble_eq_true rfl) ?_
      refine z_min (fun _ => ?_) (fun c => absurd hw c)
      change K2 _ _ (_ :: _) _
      refine st_if hK2 rfl rfl (fun _ => ?_) (fun c => absurd (by decide) c)
      refine st_go hK2 rfl rfl ?_
      refine cv0 hK2 rfl qc_146 (Nat.le_of_ble_eq_true rfl) ?_
      refine z_areLaid0 mw2 (by rw [te2.tl 15 (by decide)]; exact h1) ?_
      change K2 _ _ (_ :: _) _
      refine st_if hK2 rfl rfl (fun c => absurd c (by decide)) (fun _ => ?_)
      refine st_go hK2 rfl rfl ?_
      refine cv0 hK2 rfl qc_146 (Nat.le_of_ble_eq_true rfl) ?_
      refine z_mno ?_
      change K2 _ _ (_ :: _) _
      refine st_ret hK2 rfl rfl ?_
      exact Res.mk (hI.err (k := 1) (by decide))
  · skip
    refine zi (L := [some (.ref 0), some (.int k), some (.int w)]) rfl rfl (fun K hK => ?_)
    refine st_go hK rfl rfl ?_
    refine st_getr hK rfl qf_0_0 ?_
    refine st_go hK rfl rfl ?_
    refine cv1 hK rfl qc_1 (Nat.le_of_ble_eq_true rfl) ?_
    refine z_hasNode' hT1 g.1 (fun hn => ?_) (fun hn => ?_)
    · change K _ _ (_ :: _) _
      refine st_if hK rfl rfl (fun c => absurd c (by decide)) (fun _ => ?_)
      refine st_go hK rfl rfl ?_
      refine st_if hK rfl rfl (fun c12 => ?_) (fun c12 => ?_)
      · refine st_go hK rfl rfl ?_
        refine st_go hK rfl rfl ?_
        refine cv1 hK rfl qc_0 (Nat.le_of_ble_eq_true rfl) ?_
        refine z_rbad ?_
        change K _ _ (_ :: _) _
        refine st_ret hK rfl rfl ?_
        obtain ⟨mw2, te2, l2, k2, mv2⟩ := hI.mf (τ := (cw_up σ 0 6 (σ 0 6 + 1))) (fun p hp => up_ne (by omega))
        refine zi (L := [some (.ref 146), some (.int k), some (.int w)]) rfl rfl (fun K2 hK2 => ?_)
        refine st_go hK2 rfl rfl ?_
        refine st_go hK2 rfl rfl ?_
        refine cv1 hK2 rfl qc_146 (Nat.le_of_ble_eq_true rfl) ?_
        refine z_misNode' hI (fun p hp => up_ne (by omega)) (fun hn2 => ?_) (fun hn2 => ?_)
        · change K2 _ _ (_ :: _) _
          refine st_if hK2 rfl rfl (fun c => absurd c (by decide)) (fun _ => ?_)
          refine st_go hK2 rfl rfl ?_
          refine st_go hK2 rfl rfl ?_
          refine st_go hK2 rfl rfl ?_
          refine cs3 hK2 rfl (Nat.le_of_ble_eq_true rfl) ?_
          refine z_min (fun c => absurd ⟨hn2, c⟩ hb) (fun _ => ?_)
          change K2 _ _ (_ :: _) _
          refine st_if hK2 rfl rfl (fun c => absurd c (by decide)) (fun _ => ?_)
          refine st_go hK2 rfl rfl ?_
          refine cv0 hK2 rfl qc_146 (Nat.le_of_ble_eq_true rfl) ?_
          refine z_mbad ?_
          change K2 _ _ (_ :: _) _
          refine st_ret hK2 rfl rfl ?_
          exact Res.mk (hI.err (k := 0) (by decide))
        · change K2 _ _ (_ :: _) _
          refine st_if hK2 rfl rfl (fun _ => ?_) (fun c => absurd (by decide) c)
          refine st_go hK2 rfl rfl ?_
          refine cv0 hK2 rfl qc_146 (Nat.le_of_ble_eq_true rfl) ?_
          refine z_mbad ?_
          change K2 _ _ (_ :: _) _
          refine st_ret hK2 rfl rfl ?_
          exact Res.mk (hI.err (k := 0) (by decide))
      · refine st_go hK rfl rfl ?_
        refine st_go hK rfl rfl ?_
        refine st_if hK rfl rfl (fun c => absurd c (fun z => hb ⟨hn, Int32.not_lt.mp c12, z⟩)) (fun _ => ?_)
        refine st_go hK rfl rfl ?_
        refine st_go hK rfl rfl ?_
        refine cv1 hK rfl qc_0 (Nat.le_of_ble_eq_true rfl) ?_
        refine z_rbad ?_
        change K _ _ (_ :: _) _
        refine st_ret hK rfl rfl ?_
        obtain ⟨mw2, te2, l2, k2, mv2⟩ := hI.mf (τ := (cw_up σ 0 6 (σ 0 6 + 1))) (fun p hp => up_ne (by omega))
        refine zi (L := [some (.ref 146), some (.int k), some (.int w)]) rfl rfl (fun K2 hK2 => ?_)
        refine st_go hK2 rfl rfl ?_
        refine st_go hK2 rfl rfl ?_
        refine cv1 hK2 rfl qc_146 (Nat.le_of_ble_eq_true rfl) ?_
        refine z_misNode' hI (fun p hp => up_ne (by omega)) (fun hn2 => ?_) (fun hn2 => ?_)
        · change K2 _ _ (_ :: _) _
          refine st_if hK2 rfl rfl (fun c => absurd c (by decide)) (fun _ => ?_)
          refine st_go hK2 rfl rfl ?_
          refine st_go hK2 rfl rfl ?_
          refine st_go hK2 rfl rfl ?_
          refine cs3 hK2 rfl (Nat.le_of_ble_eq_true rfl) ?_
          refine z_min (fun c => absurd ⟨hn2, c⟩ hb) (fun _ => ?_)
          change K2 _ _ (_ :: _) _
          refine st_if hK2 rfl rfl (fun c => absurd c (by decide)) (fun _ => ?_)
          refine st_go hK2 rfl rfl ?_
          refine cv0 hK2 rfl qc_146 (Nat.le_of_ble_eq_true rfl) ?_
          refine z_mbad ?_
          change K2 _ _ (_ :: _) _
          refine st_ret hK2 rfl rfl ?_
          exact Res.mk (hI.err (k := 0) (by decide))
        · change K2 _ _ (_ :: _) _
          refine st_if hK2 rfl rfl (fun _ => ?_) (fun c => absurd (by decide) c)
          refine st_go hK2 rfl rfl ?_
          refine cv0 hK2 rfl qc_146 (Nat.le_of_ble_eq_true rfl) ?_
          refine z_mbad ?_
          change K2 _ _ (_ :: _) _
          refine st_ret hK2 rfl rfl ?_
          exact Res.mk (hI.err (k := 0) (by decide))
    · change K _ _ (_ :: _) _
      refine st_if hK rfl rfl (fun _ => ?_) (fun c => absurd (by decide) c)
      refine st_go hK rfl rfl ?_
      refine st_go hK rfl rfl ?_
      refine cv1 hK rfl qc_0 (Nat.le_of_ble_eq_true rfl) ?_
      refine z_rbad ?_
      change K _ _ (_ :: _) _
      refine st_ret hK rfl rfl ?_
      obtain ⟨mw2, te2, l2, k2, mv2⟩ := hI.mf (τ := (cw_up σ 0 6 (σ 0 6 + 1))) (fun p hp => up_ne (by omega))
      refine zi (L := [some (.ref 146), some (.int k), some (.int w)]) rfl rfl (fun K2 hK2 => ?_)
      refine st_go hK2 rfl rfl ?_
      refine st_go hK2 rfl rfl ?_
      refine cv1 hK2 rfl qc_146 (Nat.le_of_ble_eq_true rfl) ?_
      refine z_misNode' hI (fun p hp => up_ne (by omega)) (fun hn2 => ?_) (fun hn2 => ?_)
      · change K2 _ _ (_ :: _) _
        refine st_if hK2 rfl rfl (fun c => absurd c (by decide)) (fun _ => ?_)
        refine st_go hK2 rfl rfl ?_
        refine st_go hK2 rfl rfl ?_
        refine st_go hK2 rfl rfl ?_
        refine cs3 hK2 rfl (Nat.le_of_ble_eq_true rfl) ?_
        refine z_min (fun c => absurd ⟨hn2, c⟩ hb) (fun _ => ?_)
        change K2 _ _ (_ :: _) _
        refine st_if hK2 rfl rfl (fun c => absurd c (by decide)) (fun _ => ?_)
        refine st_go hK2 rfl rfl ?_
        refine cv0 hK2 rfl qc_146 (Nat.le_of_ble_eq_true rfl) ?_
        refine z_mbad ?_
        change K2 _ _ (_ :: _) _
        refine st_ret hK2 rfl rfl ?_
        exact Res.mk (hI.err (k := 0) (by decide))
      · change K2 _ _ (_ :: _) _
        refine st_if hK2 rfl rfl (fun _ => ?_) (fun c => absurd (by decide) c)
        refine st_go hK2 rfl rfl ?_
        refine cv0 hK2 rfl qc_146 (Nat.le_of_ble_eq_true rfl) ?_
        refine z_mbad ?_
        change K2 _ _ (_ :: _) _
        refine st_ret hK2 rfl rfl ?_
        exact Res.mk (hI.err (k := 0) (by decide))
theorem sim_arrival : SimI (d + 16) m_CW_arrival m_Mo_arrival [.int k] := by
  intro σ lam ⟨s, nx, c, n, hI⟩
  have g := hI.1.1
  have mw := hI.2.1.1
  have te := hI.2.1.2.1
  have es : σ 1 8 = nI s := g.1.1
  have h8 : s ≤ 8 := g.1.2.1
  obtain ⟨⟨hnx, hc, h661, h662, h13⟩, hh⟩ := hI.2.2.2.1
  have md := hI.1.2.1
  have pd := hI.1.2.2.1
  have vr : VR (mv σ) 1 s := te.vr h8 g.2.1
  have etl : tlF (mv σ) 1 15 = tlF σ 1 15 := te.tl 15 (by decide)
  by_cases hk : ∃ i, i < s ∧ k = nI i
  · obtain ⟨i, his, rfl⟩ := hk
    have hk : ∃ j, j < s ∧ nI i = nI j := ⟨i, his, rfl⟩
    by_cases h1 : (tlF σ 1 15).length = 1
    · obtain ⟨v0, v1, v2, v3, v4⟩ := pd_node (n := i) g.1 pd h1 (Or.inl his)
      have p0 := (pd.2 h1).1
      have ecl : nd (nI i) = i := nI_clamp (by omega)
      obtain ⟨top', u1, u2, u3, u4, u5⟩ := one_top mw.wf (show (tlF (mv σ) 1 15).length = 1 by rw [etl]; exact h1)
      refine zi (L := [some (.ref 0), some (.int (nI i))]) rfl rfl (fun K hK => ?_)
      refine st_go hK rfl rfl ?_
      refine st_getr hK rfl qf_0_0 ?_
      refine st_go hK rfl rfl ?_
      refine cv1 hK rfl qc_1 (Nat.le_of_ble_eq_true rfl) ?_
      refine z_hasSink' hT1 es h8 (fun _ => ?_) (fun c => absurd hk c)
      change K _ _ (_ :: _) _
      refine st_if hK rfl rfl (fun _ => ?_) (fun c => absurd (by decide) c)
      refine st_go hK rfl rfl ?_
      refine st_getr hK rfl qf_0_2 ?_
      refine gi (v := σ 30 5) hK rfl qf_30_5 rfl ?_
      refine st_if hK rfl rfl (fun _ => ?_) (fun c => absurd (by rw [p0]; decide) c)
      refine st_go hK rfl rfl ?_
      refine st_getr hK rfl qf_0_2 ?_
      refine st_go hK rfl rfl ?_
      refine st_getr hK rfl qf_0_0 ?_
      refine st_go hK rfl rfl ?_
      refine cv2 hK rfl qc_30 (Nat.le_of_ble_eq_true rfl) ?_
      refine z_arrivalOf (hSink_nI es h8 his) ?_
      rw [ecl, v3]
      change K _ _ (_ :: _) _
      refine st_ret hK rfl rfl ?_
      obtain ⟨mw2, te2, l2, k2, mv2⟩ := hI.mf (τ := σ) (fun _ _ => rfl)
      refine zi (L := [some (.ref 146), some (.int (nI i))]) rfl rfl (fun K2 hK2 => ?_)
      refine st_go hK2 rfl rfl ?_
      refine st_go hK2 rfl rfl ?_
      refine cv1 hK2 rfl qc_146 (Nat.le_of_ble_eq_true rfl) ?_
      refine z_misSink mw2.1 h8 (fun _ => ?_) (fun c => absurd hk c)
      change K2 _ _ (_ :: _) _
      refine st_if hK2 rfl rfl (fun _ => ?_) (fun c => absurd (by decide) c)
      refine st_go hK2 rfl rfl ?_
      refine cv0 hK2 rfl qc_146 (Nat.le_of_ble_eq_true rfl) ?_
      refine z_areLaid1 mw2 vr (show (tlF (mv σ) 1 15).length = 1 by rw [etl]; exact h1) (fun τ top hA t1 t2 => ?_)
      obtain rfl : top = top' := u5 top t1 t2
      change K2 _ _ (_ :: _) _
      refine st_if hK2 rfl rfl (fun c => absurd c (by decide)) (fun _ => ?_)
      refine st_go hK2 rfl rfl ?_
      refine st_go hK2 rfl rfl ?_
      refine cv1 hK2 rfl qc_146 (Nat.le_of_ble_eq_true rfl) ?_
      refine z_arrives mw2 hA t1 t2 u5 his ?_
      rw [te2.ar g.1 his]
      change K2 _ _ (_ :: _) _
      refine st_go hK2 rfl rfl ?_
      refine st_ret hK2 rfl rfl ?_
      exact Res.mk (hA.1.sc.inv hI)
    · have p0 := pd.1 h1
      refine zi (L := [some (.ref 0), some (.int (nI i))]) rfl rfl (fun K hK => ?_)
      refine st_go hK rfl rfl ?_
      refine st_getr hK rfl qf_0_0 ?_
      refine st_go hK rfl rfl ?_
      refine cv1 hK rfl qc_1 (Nat.le_of_ble_eq_true rfl) ?_
      refine z_hasSink' hT1 es h8 (fun _ => ?_) (fun c => absurd hk c)
      change K _ _ (_ :: _) _
      refine st_if hK rfl rfl (fun _ => ?_) (fun c => absurd (by decide) c)
      refine st_go hK rfl rfl ?_
      refine st_getr hK rfl qf_0_2 ?_
      refine gi (v := σ 30 5) hK rfl qf_30_5 rfl ?_
      refine st_if hK rfl rfl (fun c => absurd c (fun z => z p0)) (fun _ => ?_)
      refine st_go hK rfl rfl ?_
      refine st_go hK rfl rfl ?_
      refine cv1 hK rfl qc_0 (Nat.le_of_ble_eq_true rfl) ?_
      refine z_rno ?_
      change K _ _ (_ :: _) _
      refine st_ret hK rfl rfl ?_
      obtain ⟨mw2, te2, l2, k2, mv2⟩ := hI.mf (τ := (cw_up σ 0 7 (σ 0 7 + 1))) (fun p hp => up_ne (by omega))
      refine zi (L := [some (.ref 146), some (.int (nI i))]) rfl rfl (fun K2 hK2 => ?_)
      refine st_go hK2 rfl rfl ?_
      refine st_go hK2 rfl rfl ?_
      refine cv1 hK2 rfl qc_146 (Nat.le_of_ble_eq_true rfl) ?_
      refine z_misSink mw2.1 h8 (fun _ => ?_) (fun c => absurd hk c)
      change K2 _ _ (_ :: _) _
      refine st_if hK2 rfl rfl (fun _ => ?_) (fun c => absurd (by decide) c)
      refine st_go hK2 rfl rfl ?_
      refine cv0 hK2 rfl qc_146 (Nat.le_of_ble_eq_true rfl) ?_
      refine z_areLaid0 mw2 (by rw [te2.tl 15 (by decide)]; exact h1) ?_
      change K2 _ _ (_ :: _) _
      refine st_if hK2 rfl rfl (fun _ => ?_) (fun c => absurd (by decide) c)
      refine st_go hK2 rfl rfl ?_
      refine cv0 hK2 rfl qc_146 (Nat.le_of_ble_eq_true rfl) ?_
      refine z_mno ?_
      change K2 _ _ (_ :: _) _
      refine st_ret hK2 rfl rfl ?_
      exact Res.mk (hI.err (k := 1) (by decide))
  · skip
    refine zi (L := [some (.ref 0), some (.int k)]) rfl rfl (fun K hK => ?_)
    refine st_go hK rfl rfl ?_
    refine st_getr hK rfl qf_0_0 ?_
    refine st_go hK rfl rfl ?_
    refine cv1 hK rfl qc_1 (Nat.le_of_ble_eq_true rfl) ?_
    refine z_hasSink' hT1 es h8 (fun c => absurd c hk) (fun _ => ?_)
    change K _ _ (_ :: _) _
    refine st_if hK rfl rfl (fun c => absurd c (by decide)) (fun _ => ?_)
    refine st_go hK rfl rfl ?_
    refine st_go hK rfl rfl ?_
    refine cv1 hK rfl qc_0 (Nat.le_of_ble_eq_true rfl) ?_
    refine z_rbad ?_
    change K _ _ (_ :: _) _
    refine st_ret hK rfl rfl ?_
    obtain ⟨mw2, te2, l2, k2, mv2⟩ := hI.mf (τ := (cw_up σ 0 6 (σ 0 6 + 1))) (fun p hp => up_ne (by omega))
    refine zi (L := [some (.ref 146), some (.int k)]) rfl rfl (fun K2 hK2 => ?_)
    refine st_go hK2 rfl rfl ?_
    refine st_go hK2 rfl rfl ?_
    refine cv1 hK2 rfl qc_146 (Nat.le_of_ble_eq_true rfl) ?_
    refine z_misSink mw2.1 h8 (fun c => absurd c hk) (fun _ => ?_)
    change K2 _ _ (_ :: _) _
    refine st_if hK2 rfl rfl (fun c => absurd c (by decide)) (fun _ => ?_)
    refine st_go hK2 rfl rfl ?_
    refine cv0 hK2 rfl qc_146 (Nat.le_of_ble_eq_true rfl) ?_
    refine z_mbad ?_
    change K2 _ _ (_ :: _) _
    refine st_ret hK2 rfl rfl ?_
    exact Res.mk (hI.err (k := 0) (by decide))
theorem sim_slow : SimL (d + 16) m_CW_slow m_Mo_slow [.int k] := by
  intro σ lam ⟨s, nx, c, n, hI⟩
  have g := hI.1.1
  have mw := hI.2.1.1
  have te := hI.2.1.2.1
  have es : σ 1 8 = nI s := g.1.1
  have h8 : s ≤ 8 := g.1.2.1
  obtain ⟨⟨hnx, hc, h661, h662, h13⟩, hh⟩ := hI.2.2.2.1
  have md := hI.1.2.1
  have pd := hI.1.2.2.1
  have vr : VR (mv σ) 1 s := te.vr h8 g.2.1
  have etl : tlF (mv σ) 1 15 = tlF σ 1 15 := te.tl 15 (by decide)
  by_cases hk : ∃ i, i < s ∧ k = nI i
  · obtain ⟨i, his, rfl⟩ := hk
    have hk : ∃ j, j < s ∧ nI i = nI j := ⟨i, his, rfl⟩
    by_cases h1 : (tlF σ 1 15).length = 1
    · obtain ⟨v0, v1, v2, v3, v4⟩ := pd_node (n := i) g.1 pd h1 (Or.inl his)
      have p0 := (pd.2 h1).1
      have ecl : nd (nI i) = i := nI_clamp (by omega)
      obtain ⟨top', u1, u2, u3, u4, u5⟩ := one_top mw.wf (show (tlF (mv σ) 1 15).length = 1 by rw [etl]; exact h1)
      refine zi (L := [some (.ref 0), some (.int (nI i))]) rfl rfl (fun K hK => ?_)
      refine st_go hK rfl rfl ?_
      refine st_getr hK rfl qf_0_0 ?_
      refine st_go hK rfl rfl ?_
      refine cv1 hK rfl qc_1 (Nat.le_of_ble_eq_true rfl) ?_
      refine z_hasSink' hT1 es h8 (fun _ => ?_) (fun c => absurd hk c)
      change K _ _ (_ :: _) _
      refine st_if hK rfl rfl (fun _ => ?_) (fun c => absurd (by decide) c)
      refine st_go hK rfl rfl ?_
      refine st_getr hK rfl qf_0_2 ?_
      refine gi (v := σ 30 5) hK rfl qf_30_5 rfl ?_
      refine st_if hK rfl rfl (fun _ => ?_) (fun c => absurd (by rw [p0]; decide) c)
      refine st_go hK rfl rfl ?_
      refine st_getr hK rfl qf_0_2 ?_
      refine st_getr hK rfl qf_30_4 ?_
      refine st_go hK rfl rfl ?_
      refine gl (e := i) hK rfl qa_35 rfl (by omega) ?_
      refine st_ret hK rfl rfl ?_
      obtain ⟨mw2, te2, l2, k2, mv2⟩ := hI.mf (τ := σ) (fun _ _ => rfl)
      refine z_mslow mw2 vr (fun c => absurd hk c) (fun c c2 => absurd (by rw [etl]; exact h1) c2) (fun j hj ej c2 τ hT => ?_)
      obtain rfl : i = j := nI_inj (by omega) (by omega) ej
      rw [v4, show mEd σ (nI i) = Evd σ (nI i) from te.evd g.1 (Or.inl his)]
      exact ResL.mk (hT.sc.inv hI)
    · have p0 := pd.1 h1
      refine zi (L := [some (.ref 0), some (.int (nI i))]) rfl rfl (fun K hK => ?_)
      refine st_go hK rfl rfl ?_
      refine st_getr hK rfl qf_0_0 ?_
      refine st_go hK rfl rfl ?_
      refine cv1 hK rfl qc_1 (Nat.le_of_ble_eq_true rfl) ?_
      refine z_hasSink' hT1 es h8 (fun _ => ?_) (fun c => absurd hk c)
      change K _ _ (_ :: _) _
      refine st_if hK rfl rfl (fun _ => ?_) (fun c => absurd (by decide) c)
      refine st_go hK rfl rfl ?_
      refine st_getr hK rfl qf_0_2 ?_
      refine gi (v := σ 30 5) hK rfl qf_30_5 rfl ?_
      refine st_if hK rfl rfl (fun c => absurd c (fun z => z p0)) (fun _ => ?_)
      refine st_go hK rfl rfl ?_
      refine st_go hK rfl rfl ?_
      refine cv1 hK rfl qc_0 (Nat.le_of_ble_eq_true rfl) ?_
      refine z_rno ?_
      change K _ _ (_ :: _) _
      refine st_go hK rfl rfl ?_
      refine st_ret hK rfl rfl ?_
      obtain ⟨mw2, te2, l2, k2, mv2⟩ := hI.mf (τ := (cw_up σ 0 7 (σ 0 7 + 1))) (fun p hp => up_ne (by omega))
      have vr2 : VR (mv (cw_up σ 0 7 (σ 0 7 + 1))) 1 s := by rw [mv2]; exact vr
      refine z_mslow mw2 vr2 (fun c => absurd hk c) (fun c c2 => ResL.mk (hI.err (k := 1) (by decide))) (fun j hj ej c2 τ hT => absurd (by rw [te2.tl 15 (by decide)] at c2; exact c2) h1)
      
  · skip
    refine zi (L := [some (.ref 0), some (.int k)]) rfl rfl (fun K hK => ?_)
    refine st_go hK rfl rfl ?_
    refine st_getr hK rfl qf_0_0 ?_
    refine st_go hK rfl rfl ?_
    refine cv1 hK rfl qc_1 (Nat.le_of_ble_eq_true rfl) ?_
    refine z_hasSink' hT1 es h8 (fun c => absurd c hk) (fun _ => ?_)
    change K _ _ (_ :: _) _
    refine st_if hK rfl rfl (fun c => absurd c (by decide)) (fun _ => ?_)
    refine st_go hK rfl rfl ?_
    refine st_go hK rfl rfl ?_
    refine cv1 hK rfl qc_0 (Nat.le_of_ble_eq_true rfl) ?_
    refine z_rbad ?_
    change K _ _ (_ :: _) _
    refine st_go hK rfl rfl ?_
    refine st_ret hK rfl rfl ?_
    obtain ⟨mw2, te2, l2, k2, mv2⟩ := hI.mf (τ := (cw_up σ 0 6 (σ 0 6 + 1))) (fun p hp => up_ne (by omega))
    have vr2 : VR (mv (cw_up σ 0 6 (σ 0 6 + 1))) 1 s := by rw [mv2]; exact vr
    refine z_mslow mw2 vr2 (fun c => ResL.mk (hI.err (k := 0) (by decide))) (fun c c2 => absurd c hk) (fun j hj ej c2 τ hT => absurd ⟨j, hj, ej⟩ hk)
    
theorem sim_total : SimI (d + 16) m_CW_total m_Mo_total [.int w] := by
  intro σ lam ⟨s, nx, c, n, hI⟩
  have g := hI.1.1
  have mw := hI.2.1.1
  have te := hI.2.1.2.1
  have es : σ 1 8 = nI s := g.1.1
  have h8 : s ≤ 8 := g.1.2.1
  obtain ⟨⟨hnx, hc, h661, h662, h13⟩, hh⟩ := hI.2.2.2.1
  have md := hI.1.2.1
  have pd := hI.1.2.2.1
  have vr : VR (mv σ) 1 s := te.vr h8 g.2.1
  by_cases hw : 0 ≤ w ∧ w ≤ 4
  · obtain ⟨j, hj, rfl⟩ := (nI_rg (M := 4) (n := 4) rfl (by decide)).mp hw
    refine zi (L := [some (.ref 0), some (.int (nI j))]) rfl rfl (fun K hK => ?_)
    refine st_go hK rfl rfl ?_
    refine st_if hK rfl rfl (fun c => absurd c (nI_pos (by omega))) (fun _ => ?_)
    refine st_go hK rfl rfl ?_
    refine st_go hK rfl rfl ?_
    refine st_ifn hK rfl rfl (nI_leI (a := j) (b := 4) (by omega) (by omega)) (fun _ => ?_) (fun c => absurd (by omega) c)
    refine st_go hK rfl rfl ?_
    refine st_go hK rfl rfl ?_
    refine cv1 hK rfl qc_0 (Nat.le_of_ble_eq_true rfl) ?_
    refine z_totalValue g.1 md pd hj ?_
    change K _ _ (_ :: _) _
    refine st_ret hK rfl rfl ?_
    obtain ⟨mw2, te2, l2, k2, mv2⟩ := hI.mf (τ := σ) (fun _ _ => rfl)
    refine zi (L := [some (.ref 146), some (.int (nI j))]) rfl rfl (fun K2 hK2 => ?_)
    refine st_go hK2 rfl rfl ?_
    refine st_go hK2 rfl rfl ?_
    refine st_go hK2 rfl rfl ?_
    refine cs3 hK2 rfl (Nat.le_of_ble_eq_true rfl) ?_
    refine z_min (fun _ => ?_) (fun c => absurd hw c)
    change K2 _ _ (_ :: _) _
    refine st_if hK2 rfl rfl (fun c => absurd c (by decide)) (fun _ => ?_)
    refine st_go hK2 rfl rfl ?_
    refine st_go hK2 rfl rfl ?_
    refine cv1 hK2 rfl qc_146 (Nat.le_of_ble_eq_true rfl) ?_
    refine z_totalBy mw2 vr hj (fun τ hT => ?_)
    rw [tv_te te2 g.1]
    change K2 _ _ (_ :: _) _
    refine st_go hK2 rfl rfl ?_
    refine st_ret hK2 rfl rfl ?_
    exact Res.mk (hT.sc.inv hI)
  · skip
    refine zi (L := [some (.ref 0), some (.int w)]) rfl rfl (fun K hK => ?_)
    refine st_go hK rfl rfl ?_
    refine st_if hK rfl rfl (fun c1 => ?_) (fun c1 => ?_)
    · refine st_go hK rfl rfl ?_
      refine st_go hK rfl rfl ?_
      refine cv1 hK rfl qc_0 (Nat.le_of_ble_eq_true rfl) ?_
      refine z_rbad ?_
      change K _ _ (_ :: _) _
      refine st_ret hK rfl rfl ?_
      obtain ⟨mw2, te2, l2, k2, mv2⟩ := hI.mf (τ := (cw_up σ 0 6 (σ 0 6 + 1))) (fun p hp => up_ne (by omega))
      refine zi (L := [some (.ref 146), some (.int w)]) rfl rfl (fun K2 hK2 => ?_)
      refine st_go hK2 rfl rfl ?_
      refine st_go hK2 rfl rfl ?_
      refine st_go hK2 rfl rfl ?_
      refine cs3 hK2 rfl (Nat.le_of_ble_eq_true rfl) ?_
      refine z_min (fun c => absurd c hw) (fun _ => ?_)
      change K2 _ _ (_ :: _) _
      refine st_if hK2 rfl rfl (fun _ => ?_) (fun c => absurd (by decide) c)
      refine st_go hK2 rfl rfl ?_
      refine cv0 hK2 rfl qc_146 (Nat.le_of_ble_eq_true rfl) ?_
      refine z_mbad ?_
      change K2 _ _ (_ :: _) _
      refine st_ret hK2 rfl rfl ?_
      exact Res.mk (hI.err (k := 0) (by decide))
    · refine st_go hK rfl rfl ?_
      refine st_go hK rfl rfl ?_
      refine st_if hK rfl rfl (fun c => absurd c (fun z => hw ⟨Int32.not_lt.mp c1, z⟩)) (fun _ => ?_)
      refine st_go hK rfl rfl ?_
      refine st_go hK rfl rfl ?_
      refine cv1 hK rfl qc_0 (Nat.le_of_ble_eq_true rfl) ?_
      refine z_rbad ?_
      change K _ _ (_ :: _) _
      refine st_ret hK rfl rfl ?_
      obtain ⟨mw2, te2, l2, k2, mv2⟩ := hI.mf (τ := (cw_up σ 0 6 (σ 0 6 + 1))) (fun p hp => up_ne (by omega))
      refine zi (L := [some (.ref 146), some (.int w)]) rfl rfl (fun K2 hK2 => ?_)
      refine st_go hK2 rfl rfl ?_
      refine st_go hK2 rfl rfl ?_
      refine st_go hK2 rfl rfl ?_
      refine cs3 hK2 rfl (Nat.le_of_ble_eq_true rfl) ?_
      refine z_min (fun c => absurd c hw) (fun _ => ?_)
      change K2 _ _ (_ :: _) _
      refine st_if hK2 rfl rfl (fun _ => ?_) (fun c => absurd (by decide) c)
      refine st_go hK2 rfl rfl ?_
      refine cv0 hK2 rfl qc_146 (Nat.le_of_ble_eq_true rfl) ?_
      refine z_mbad ?_
      change K2 _ _ (_ :: _) _
      refine st_ret hK2 rfl rfl ?_
      exact Res.mk (hI.err (k := 0) (by decide))
theorem sim_told : SimI (d + 16) m_CW_told m_Mo_told [.int w] := by
  intro σ lam ⟨s, nx, c, n, hI⟩
  have g := hI.1.1
  have mw := hI.2.1.1
  have te := hI.2.1.2.1
  have es : σ 1 8 = nI s := g.1.1
  have h8 : s ≤ 8 := g.1.2.1
  obtain ⟨⟨hnx, hc, h661, h662, h13⟩, hh⟩ := hI.2.2.2.1
  have md := hI.1.2.1
  have pd := hI.1.2.2.1
  have vr : VR (mv σ) 1 s := te.vr h8 g.2.1
  by_cases hw : 0 ≤ w ∧ w ≤ 9
  · obtain ⟨j, hj, rfl⟩ := (nI_rg (M := 9) (n := 9) rfl (by decide)).mp hw
    refine zi (L := [some (.ref 0), some (.int (nI j))]) rfl rfl (fun K hK => ?_)
    refine st_go hK rfl rfl ?_
    refine st_if hK rfl rfl (fun c => absurd c (nI_pos (by omega))) (fun _ => ?_)
    refine st_go hK rfl rfl ?_
    refine st_go hK rfl rfl ?_
    refine st_ifn hK rfl rfl (nI_leI (a := j) (b := 9) (by omega) (by omega)) (fun _ => ?_) (fun c => absurd (by omega) c)
    refine st_go hK rfl rfl ?_
    refine st_go hK rfl rfl ?_
    refine cv1 hK rfl qc_0 (Nat.le_of_ble_eq_true rfl) ?_
    refine z_toldValue hj ?_
    change K _ _ (_ :: _) _
    refine st_ret hK rfl rfl ?_
    obtain ⟨mw2, te2, l2, k2, mv2⟩ := hI.mf (τ := σ) (fun _ _ => rfl)
    refine zi (L := [some (.ref 146), some (.int (nI j))]) rfl rfl (fun K2 hK2 => ?_)
    refine st_go hK2 rfl rfl ?_
    refine st_go hK2 rfl rfl ?_
    refine st_go hK2 rfl rfl ?_
    refine cs3 hK2 rfl (Nat.le_of_ble_eq_true rfl) ?_
    refine z_min (fun _ => ?_) (fun c => absurd hw c)
    change K2 _ _ (_ :: _) _
    refine st_if hK2 rfl rfl (fun c => absurd c (by decide)) (fun _ => ?_)
    refine st_go hK2 rfl rfl ?_
    refine st_go hK2 rfl rfl ?_
    refine cv1 hK2 rfl qc_146 (Nat.le_of_ble_eq_true rfl) ?_
    refine z_toldBy hI (fun _ _ _ _ => rfl) (fun _ _ => rfl) hj ?_
    change K2 _ _ (_ :: _) _
    refine st_go hK2 rfl rfl ?_
    refine st_ret hK2 rfl rfl ?_
    exact Res.mk hI
  · skip
    refine zi (L := [some (.ref 0), some (.int w)]) rfl rfl (fun K hK => ?_)
    refine st_go hK rfl rfl ?_
    refine st_if hK rfl rfl (fun c1 => ?_) (fun c1 => ?_)
    · refine st_go hK rfl rfl ?_
      refine st_go hK rfl rfl ?_
      refine cv1 hK rfl qc_0 (Nat.le_of_ble_eq_true rfl) ?_
      refine z_rbad ?_
      change K _ _ (_ :: _) _
      refine st_ret hK rfl rfl ?_
      obtain ⟨mw2, te2, l2, k2, mv2⟩ := hI.mf (τ := (cw_up σ 0 6 (σ 0 6 + 1))) (fun p hp => up_ne (by omega))
      refine zi (L := [some (.ref 146), some (.int w)]) rfl rfl (fun K2 hK2 => ?_)
      refine st_go hK2 rfl rfl ?_
      refine st_go hK2 rfl rfl ?_
      refine st_go hK2 rfl rfl ?_
      refine cs3 hK2 rfl (Nat.le_of_ble_eq_true rfl) ?_
      refine z_min (fun c => absurd c hw) (fun _ => ?_)
      change K2 _ _ (_ :: _) _
      refine st_if hK2 rfl rfl (fun _ => ?_) (fun c => absurd (by decide) c)
      refine st_go hK2 rfl rfl ?_
      refine cv0 hK2 rfl qc_146 (Nat.le_of_ble_eq_true rfl) ?_
      refine z_mbad ?_
      change K2 _ _ (_ :: _) _
      refine st_ret hK2 rfl rfl ?_
      exact Res.mk (hI.err (k := 0) (by decide))
    · refine st_go hK rfl rfl ?_
      refine st_go hK rfl rfl ?_
      refine st_if hK rfl rfl (fun c => absurd c (fun z => hw ⟨Int32.not_lt.mp c1, z⟩)) (fun _ => ?_)
      refine st_go hK rfl rfl ?_
      refine st_go hK rfl rfl ?_
      refine cv1 hK rfl qc_0 (Nat.le_of_ble_eq_true rfl) ?_
      refine z_rbad ?_
      change K _ _ (_ :: _) _
      refine st_ret hK rfl rfl ?_
      obtain ⟨mw2, te2, l2, k2, mv2⟩ := hI.mf (τ := (cw_up σ 0 6 (σ 0 6 + 1))) (fun p hp => up_ne (by omega))
      refine zi (L := [some (.ref 146), some (.int w)]) rfl rfl (fun K2 hK2 => ?_)
      refine st_go hK2 rfl rfl ?_
      refine st_go hK2 rfl rfl ?_
      refine st_go hK2 rfl rfl ?_
      refine cs3 hK2 rfl (Nat.le_of_ble_eq_true rfl) ?_
      refine z_min (fun c => absurd c hw) (fun _ => ?_)
      change K2 _ _ (_ :: _) _
      refine st_if hK2 rfl rfl (fun _ => ?_) (fun c => absurd (by decide) c)
      refine st_go hK2 rfl rfl ?_
      refine cv0 hK2 rfl qc_146 (Nat.le_of_ble_eq_true rfl) ?_
      refine z_mbad ?_
      change K2 _ _ (_ :: _) _
      refine st_ret hK2 rfl rfl ?_
      exact Res.mk (hI.err (k := 0) (by decide))
theorem z_append {σ : cw_V} {lam : Nat → Int64} {Q : cw_Q} {n : Nat} (h5 : σ 140 5 = nI n) (hn : n < 60) (kk : Q none (cw_B (cw_up (cw_up σ 141 n v) 140 5 (nI (n + 1))) lam)) : cw_Z (d + 1) m_Text_append [.ref 140, .int v] (cw_B σ lam) Q := by
  refine zi (L := [some (.ref 140), some (.int v)]) rfl rfl (fun K hK => ?_)
  refine st_go hK rfl rfl ?_
  refine gi (v := nI n) hK rfl qf_140_5 h5 ?_
  refine st_if hK rfl rfl (fun c => absurd c (nI_pos (by omega))) (fun _ => ?_)
  refine st_go hK rfl rfl ?_
  refine gi (v := nI n) hK rfl qf_140_5 h5 ?_
  refine st_go hK rfl rfl ?_
  refine st_ifn hK rfl rfl (nI_leI (a := 60) (b := n) (by omega) (by omega)) (fun c => absurd c (by omega)) (fun _ => ?_)
  refine st_go hK rfl rfl ?_
  refine st_getr hK rfl qf_140_0 ?_
  refine st_go hK rfl rfl ?_
  refine gi (v := nI n) hK rfl qf_140_5 h5 ?_
  refine st_go hK rfl rfl ?_
  refine sa (e := n) hK rfl qa_141 rfl (by omega) rfl ?_
  refine st_go hK rfl rfl ?_
  refine st_go hK rfl rfl ?_
  refine gi (v := nI n) hK rfl qf_140_5 (by rw [up_ne (by decide), h5]) ?_
  refine st_go hK rfl rfl ?_
  refine bnv hK rfl (show _ = nI (n + 1) from nI_add n 1) ?_
  refine st_put hK rfl qf_140_5 rfl ?_
  refine st_ret hK rfl rfl ?_
  exact kk
theorem sim_type : SimI (d + 16) m_CW_type m_Mo_type [.int v] := by
  intro σ lam ⟨s, nx, c, n, hI⟩
  have g := hI.1.1
  have mw := hI.2.1.1
  have te := hI.2.1.2.1
  have es : σ 1 8 = nI s := g.1.1
  have h8 : s ≤ 8 := g.1.2.1
  obtain ⟨⟨hnx, hc, h661, h662, h13⟩, hh⟩ := hI.2.2.2.1
  have md := hI.1.2.1
  have pd := hI.1.2.2.1
  have vr : VR (mv σ) 1 s := te.vr h8 g.2.1
  obtain ⟨x0, x1, x2, x3⟩ := hI.2.2.2.2
  by_cases hv : 0 ≤ v ∧ v ≤ 127
  · by_cases hn : n < 60
    · have rv := rg_i hv.1 hv.2
      have q0 : (0 : Int32).toInt = 0 := by decide
      have q1 : (127 : Int32).toInt = 127 := by decide
      rw [q0, q1] at rv
      refine zi (L := [some (.ref 0), some (.int v)]) rfl rfl (fun K hK => ?_)
      refine st_go hK rfl rfl ?_
      refine st_if hK rfl rfl (fun c => absurd c (Int32.not_lt.mpr hv.1)) (fun _ => ?_)
      refine st_go hK rfl rfl ?_
      refine st_go hK rfl rfl ?_
      refine st_if hK rfl rfl (fun _ => ?_) (fun c => absurd hv.2 c)
      refine st_go hK rfl rfl ?_
      refine st_getr hK rfl qf_0_5 ?_
      refine gi (v := nI n) hK rfl qf_140_5 x1 ?_
      refine st_go hK rfl rfl ?_
      refine st_ifn hK rfl rfl (nI_ltI (a := n) (b := 60) (by omega) (by omega)) (fun _ => ?_) (fun c => absurd (by omega) c)
      refine st_go hK rfl rfl ?_
      refine st_getr hK rfl qf_0_5 ?_
      refine st_go hK rfl rfl ?_
      refine cv1 hK rfl qc_140 (Nat.le_of_ble_eq_true rfl) ?_
      refine z_append x1 hn ?_
      change K _ _ _ _
      refine st_go hK rfl rfl ?_
      refine st_getr hK rfl qf_0_5 ?_
      refine gi (v := nI (n + 1)) hK rfl qf_140_5 (by rw [up_eq, upd_eq]) ?_
      refine st_ret hK rfl rfl ?_
      obtain ⟨mw2, te2, l2, k2, mv2⟩ := hI.mf (τ := (cw_up (cw_up σ 141 n v) 140 5 (nI (n + 1)))) (fun p hp => by rw [up_ne (by omega), up_ne (by omega)])
      have x2b : (cw_up (cw_up σ 141 n v) 140 5 (nI (n + 1))) 146 36 = nI n := by rw [up_ne (by decide), up_ne (by decide)]; exact x2
      refine zi (L := [some (.ref 146), some (.int v)]) rfl rfl (fun K2 hK2 => ?_)
      refine st_go hK2 rfl rfl ?_
      refine st_go hK2 rfl rfl ?_
      refine st_go hK2 rfl rfl ?_
      refine cs3 hK2 rfl (Nat.le_of_ble_eq_true rfl) ?_
      refine z_min (fun _ => ?_) (fun c => absurd hv c)
      change K2 _ _ (_ :: _) _
      refine st_if hK2 rfl rfl (fun _ => ?_) (fun c => absurd (by decide) c)
      refine st_go hK2 rfl rfl ?_
      refine gi (v := nI n) hK2 rfl qf_146_36 x2b ?_
      refine st_go hK2 rfl rfl ?_
      refine st_ifn hK2 rfl rfl (not_congr (nI_eq (a := n) (b := 60) (by omega) (by omega))) (fun _ => ?_) (fun c => absurd (by omega) c)
      refine st_go hK2 rfl rfl ?_
      refine st_getr hK2 rfl qf_146_35 ?_
      refine st_go hK2 rfl rfl ?_
      refine gi (v := nI n) hK2 rfl qf_146_36 x2b ?_
      refine st_go hK2 rfl rfl ?_
      refine sa (e := n) hK2 rfl qa_170 rfl (by omega) rfl ?_
      refine st_go hK2 rfl rfl ?_
      refine st_go hK2 rfl rfl ?_
      refine gi (v := nI n) hK2 rfl qf_146_36 (by rw [up_ne (by decide), x2b]) ?_
      refine st_go hK2 rfl rfl ?_
      refine bnv hK2 rfl (show _ = nI (n + 1) from nI_add n 1) ?_
      refine st_put hK2 rfl qf_146_36 rfl ?_
      refine st_go hK2 rfl rfl ?_
      refine gi (v := nI (n + 1)) hK2 rfl qf_146_36 (by rw [up_eq, upd_eq]) ?_
      refine st_ret hK2 rfl rfl ?_
      refine Res.mk (hI.txt (n' := n + 1) (fun p p1 p2 p3 p4 => by rw [up_ne p4, up_ne p3, up_ne p1, up_ne p2]) (fun k hk => by rw [up_eq, upd_ne hk, up_ne (by decide), up_ne (by decide), up_ne (by decide)]) ⟨by omega, by simp [cw_up, upd], by simp [cw_up, upd], fun j hj => ?_⟩)
      have e1 : cw_up (cw_up (cw_up (cw_up σ 141 n v) 140 5 (nI (n + 1))) 170 n v) 146 36 (nI (n + 1)) 170 j = upd (σ 170) n v j := by simp [cw_up]
      have e2 : cw_up (cw_up (cw_up (cw_up σ 141 n v) 140 5 (nI (n + 1))) 170 n v) 146 36 (nI (n + 1)) 141 j = upd (σ 141) n v j := by simp [cw_up]
      rw [e1, e2]
      by_cases z : j = n
      · subst z
        rw [upd_eq, upd_eq]
        exact ⟨rfl, rv⟩
      · rw [upd_ne z, upd_ne z]
        exact x3 j (by omega)
    · have hn60 : n = 60 := by omega
      refine zi (L := [some (.ref 0), some (.int v)]) rfl rfl (fun K hK => ?_)
      refine st_go hK rfl rfl ?_
      refine st_if hK rfl rfl (fun c => absurd c (Int32.not_lt.mpr hv.1)) (fun _ => ?_)
      refine st_go hK rfl rfl ?_
      refine st_go hK rfl rfl ?_
      refine st_if hK rfl rfl (fun _ => ?_) (fun c => absurd hv.2 c)
      refine st_go hK rfl rfl ?_
      refine st_getr hK rfl qf_0_5 ?_
      refine gi (v := nI n) hK rfl qf_140_5 x1 ?_
      refine st_go hK rfl rfl ?_
      refine st_ifn hK rfl rfl (nI_ltI (a := n) (b := 60) (by omega) (by omega)) (fun c => absurd c (by omega)) (fun _ => ?_)
      refine st_go hK rfl rfl ?_
      refine st_go hK rfl rfl ?_
      refine cv1 hK rfl qc_0 (Nat.le_of_ble_eq_true rfl) ?_
      refine z_rfull ?_
      change K _ _ (_ :: _) _
      refine st_ret hK rfl rfl ?_
      obtain ⟨mw2, te2, l2, k2, mv2⟩ := hI.mf (τ := (cw_up σ 0 8 (σ 0 8 + 1))) (fun p hp => up_ne (by omega))
      refine zi (L := [some (.ref 146), some (.int v)]) rfl rfl (fun K2 hK2 => ?_)
      refine st_go hK2 rfl rfl ?_
      refine st_go hK2 rfl rfl ?_
      refine st_go hK2 rfl rfl ?_
      refine cs3 hK2 rfl (Nat.le_of_ble_eq_true rfl) ?_
      refine z_min (fun _ => ?_) (fun c => absurd hv c)
      change K2 _ _ (_ :: _) _
      refine st_if hK2 rfl rfl (fun _ => ?_) (fun c => absurd (by decide) c)
      refine st_go hK2 rfl rfl ?_
      refine gi (v := nI n) hK2 rfl qf_146_36 (by rw [up_ne (by decide)]; exact x2) ?_
      refine st_go hK2 rfl rfl ?_
      refine st_ifn hK2 rfl rfl (not_congr (nI_eq (a := n) (b := 60) (by omega) (by omega))) (fun c => absurd c (fun z => z hn60)) (fun _ => ?_)
      refine st_go hK2 rfl rfl ?_
      refine cv0 hK2 rfl qc_146 (Nat.le_of_ble_eq_true rfl) ?_
      refine z_mfull ?_
      change K2 _ _ (_ :: _) _
      refine st_ret hK2 rfl rfl ?_
      exact Res.mk (hI.err (k := 2) (by decide))
  · skip
    refine zi (L := [some (.ref 0), some (.int v)]) rfl rfl (fun K hK => ?_)
    refine st_go hK rfl rfl ?_
    refine st_if hK rfl rfl (fun c1 => ?_) (fun c1 => ?_)
    · refine st_go hK rfl rfl ?_
      refine st_go hK rfl rfl ?_
      refine cv1 hK rfl qc_0 (Nat.le_of_ble_eq_true rfl) ?_
      refine z_rbad ?_
      change K _ _ (_ :: _) _
      refine st_ret hK rfl rfl ?_
      obtain ⟨mw2, te2, l2, k2, mv2⟩ := hI.mf (τ := (cw_up σ 0 6 (σ 0 6 + 1))) (fun p hp => up_ne (by omega))
      refine zi (L := [some (.ref 146), some (.int v)]) rfl rfl (fun K2 hK2 => ?_)
      refine st_go hK2 rfl rfl ?_
      refine st_go hK2 rfl rfl ?_
      refine st_go hK2 rfl rfl ?_
      refine cs3 hK2 rfl (Nat.le_of_ble_eq_true rfl) ?_
      refine z_min (fun c => absurd c hv) (fun _ => ?_)
      change K2 _ _ (_ :: _) _
      refine st_if hK2 rfl rfl (fun c => absurd c (by decide)) (fun _ => ?_)
      refine st_go hK2 rfl rfl ?_
      refine cv0 hK2 rfl qc_146 (Nat.le_of_ble_eq_true rfl) ?_
      refine z_mbad ?_
      change K2 _ _ (_ :: _) _
      refine st_ret hK2 rfl rfl ?_
      exact Res.mk (hI.err (k := 0) (by decide))
    · refine st_go hK rfl rfl ?_
      refine st_go hK rfl rfl ?_
      refine st_if hK rfl rfl (fun c => absurd c (fun z => hv ⟨Int32.not_lt.mp c1, z⟩)) (fun _ => ?_)
      refine st_go hK rfl rfl ?_
      refine st_go hK rfl rfl ?_
      refine cv1 hK rfl qc_0 (Nat.le_of_ble_eq_true rfl) ?_
      refine z_rbad ?_
      change K _ _ (_ :: _) _
      refine st_ret hK rfl rfl ?_
      obtain ⟨mw2, te2, l2, k2, mv2⟩ := hI.mf (τ := (cw_up σ 0 6 (σ 0 6 + 1))) (fun p hp => up_ne (by omega))
      refine zi (L := [some (.ref 146), some (.int v)]) rfl rfl (fun K2 hK2 => ?_)
      refine st_go hK2 rfl rfl ?_
      refine st_go hK2 rfl rfl ?_
      refine st_go hK2 rfl rfl ?_
      refine cs3 hK2 rfl (Nat.le_of_ble_eq_true rfl) ?_
      refine z_min (fun c => absurd c hv) (fun _ => ?_)
      change K2 _ _ (_ :: _) _
      refine st_if hK2 rfl rfl (fun c => absurd c (by decide)) (fun _ => ?_)
      refine st_go hK2 rfl rfl ?_
      refine cv0 hK2 rfl qc_146 (Nat.le_of_ble_eq_true rfl) ?_
      refine z_mbad ?_
      change K2 _ _ (_ :: _) _
      refine st_ret hK2 rfl rfl ?_
      exact Res.mk (hI.err (k := 0) (by decide))
theorem sim_clear : SimI (d + 16) m_CW_clear m_Mo_clear [] := by
  intro σ lam ⟨s, nx, c, n, hI⟩
  have g := hI.1.1
  have mw := hI.2.1.1
  have te := hI.2.1.2.1
  have es : σ 1 8 = nI s := g.1.1
  have h8 : s ≤ 8 := g.1.2.1
  obtain ⟨⟨hnx, hc, h661, h662, h13⟩, hh⟩ := hI.2.2.2.1
  have md := hI.1.2.1
  have pd := hI.1.2.2.1
  have vr : VR (mv σ) 1 s := te.vr h8 g.2.1
  obtain ⟨x0, x1, x2, x3⟩ := hI.2.2.2.2
  refine zi (L := [some (.ref 0), none]) rfl rfl (fun K hK => ?_)
  refine st_go hK rfl rfl ?_
  refine st_getr hK rfl qf_0_5 ?_
  refine gi (v := nI n) hK rfl qf_140_5 x1 ?_
  refine st_go hK rfl rfl ?_
  change K _ [some (.ref 0), some (.int (nI n))] _ _
  refine st_go hK rfl rfl ?_
  refine st_getr hK rfl qf_0_5 ?_
  refine st_go hK rfl rfl ?_
  refine st_put hK rfl qf_140_5 rfl ?_
  refine st_go hK rfl rfl ?_
  refine st_ret hK rfl rfl ?_
  obtain ⟨mw2, te2, l2, k2, mv2⟩ := hI.mf (τ := (cw_up σ 140 5 (0 : Int32))) (fun p hp => up_ne (by omega))
  refine zi (L := [some (.ref 146), none]) rfl rfl (fun K2 hK2 => ?_)
  refine st_go hK2 rfl rfl ?_
  refine gi (v := nI n) hK2 rfl qf_146_36 (by rw [up_ne (by decide)]; exact x2) ?_
  refine st_go hK2 rfl rfl ?_
  change K2 _ [some (.ref 146), some (.int (nI n))] _ _
  refine st_go hK2 rfl rfl ?_
  refine st_go hK2 rfl rfl ?_
  refine st_put hK2 rfl qf_146_36 rfl ?_
  refine st_go hK2 rfl rfl ?_
  refine st_ret hK2 rfl rfl ?_
  exact Res.mk (hI.txt (n' := 0) (fun p p1 p2 p3 p4 => by rw [up_ne p4, up_ne p1]) (fun k hk => by rw [up_eq, upd_ne hk, up_ne (by decide)]) ⟨by omega, by simp [cw_up, upd]; rfl, by simp [cw_up, upd]; rfl, fun j hj => by omega⟩)
end
