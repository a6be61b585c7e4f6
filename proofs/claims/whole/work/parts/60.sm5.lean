/-! THE CALLS: back, digest -/
section
variable {d : Nat}
theorem sim_back : SimI (d + 16) m_CW_back m_Mo_back [] := by
  intro σ lam ⟨s, nx, c, n, hI⟩
  have g := hI.1.1
  have mw := hI.2.1.1
  have te := hI.2.1.2.1
  have es : σ 1 8 = nI s := g.1.1
  have h8 : s ≤ 8 := g.1.2.1
  obtain ⟨⟨hnx, hc, h661, h662, h13⟩, hh⟩ := hI.2.2.2.1
  have md := hI.1.2.1
  have pd := hI.1.2.2.1
  have vr : VR (mv σ) 1 s := te.vr h8 g.2.1
  cases c with
  | zero =>
    refine zi (L := [some (.ref 0)]) rfl rfl (fun K hK => ?_)
    refine st_go hK rfl rfl ?_
    refine st_getr hK rfl qf_0_4 ?_
    refine gi (v := nI 0) hK rfl qf_66_2 h662 ?_
    refine st_ifn hK rfl rfl (not_congr (nI_eq (a := 0) (b := 0) (by omega) (by omega))) (fun c => absurd c (fun z => z rfl)) (fun _ => ?_)
    refine st_go hK rfl rfl ?_
    refine st_go hK rfl rfl ?_
    refine cv1 hK rfl qc_0 (Nat.le_of_ble_eq_true rfl) ?_
    refine z_rno ?_
    change K _ _ (_ :: _) _
    refine st_ret hK rfl rfl ?_
    obtain ⟨mw2, te2, l2, k2, mv2⟩ := hI.mf (τ := (cw_up σ 0 7 (σ 0 7 + 1))) (fun p hp => up_ne (by omega))
    exact z_mback0 k2 (Res.mk (hI.err (k := 1) (by decide)))
  | succ c =>
    obtain ⟨s', g', kv⟩ := hh c (by omega)
    obtain ⟨t, et⟩ : ∃ t, t = slot nx (c + 1) c := ⟨_, rfl⟩
    rw [← et] at g' kv
    have et2 : t = 68 + 9 * ((nx + 7) % 8) := by rw [et]; unfold slot; omega
    have h8' := g'.1.2.1
    refine zi (L := [some (.ref 0)]) rfl rfl (fun K hK => ?_)
    refine st_go hK rfl rfl ?_
    refine st_getr hK rfl qf_0_4 ?_
    refine gi (v := nI (c + 1)) hK rfl qf_66_2 h662 ?_
    refine st_ifn hK rfl rfl (not_congr (nI_eq (a := c + 1) (b := 0) (by omega) (by omega))) (fun _ => ?_) (fun c => absurd (by omega) c)
    refine st_go hK rfl rfl ?_
    refine st_getr hK rfl qf_0_4 ?_
    refine st_go hK rfl rfl ?_
    refine st_getr hK rfl qf_0_0 ?_
    refine cv1 hK rfl qc_66 (Nat.le_of_ble_eq_true rfl) ?_
    refine z_restore h661 hnx h662 hc (by omega) (fun τ1 hR => ?_)
    have te1 : TE τ1 1 σ t := by rw [et2]; exact hR.2.1
    have g1 : GT τ1 1 s' := te1.gt g'
    change K _ _ _ _
    refine st_go hK rfl rfl ?_
    refine cv0 hK rfl qc_0 (Nat.le_of_ble_eq_true rfl) ?_
    refine z_refresh g1.1 (fun τ lam2 sr fr md2 pd2 h0 => ?_)
    have e662 : τ 66 2 = nI c := by rw [fr 66 (by omega), hR.2.2.2]; rfl
    change K _ _ _ _
    refine st_go hK rfl rfl ?_
    refine st_getr hK rfl qf_0_4 ?_
    refine gi (v := nI c) hK rfl qf_66_2 e662 ?_
    refine st_ret hK rfl rfl ?_
    have hm : ∀ p, 36 < p → p ≠ 66 → τ p = σ p := fun p hp h6 => by rw [fr p (by omega), hR.1 p h6 (by omega)]
    have q155 : ∀ k, τ 155 k = σ 155 k := fun k => congrFun (hm 155 (by decide) (by decide)) k
    have lr := fun x (hx : x < 15) => g'.1.2.lr hx
    refine z_mback (c := c) (A := upF (σ (t + 6))) (B := upF (σ (t + 7))) (E := upF (σ (t + 8))) (D := ndF s' (σ (t + 6))) (by rw [hm 146 (by decide) (by decide)]; exact h13) (by omega) (fun x hx => ?_) (fun υ hB => ?_)
    · have u1 := (up_1 (lr x hx).1).1
      have u2 := (up_1 (lr x hx).2.1).1
      have u3 := (up_1 (lr x hx).2.2).1
      refine ⟨by unfold ndF; split <;> omega, by omega, by omega, by omega, ?_⟩
      rw [q155]
      exact kv.2.2.1 x hx
    · obtain ⟨b1, ⟨b2, b21, b23, b24, b25, b26, b213⟩, b3, b4, b5⟩ := hB
      have b1' : ∀ p, p < 146 → υ p = τ p := fun p hp => b1 p (by omega) (by omega) (by omega)
      have r1 : ∀ x, x < 15 → υ 151 x = σ (t + 6) x := fun x hx => ((b4 x hx (by omega)).2.1).trans (up_1 (lr x hx).1).2.2
      have r2 : ∀ x, x < 15 → υ 152 x = σ (t + 7) x := fun x hx => ((b4 x hx (by omega)).2.2.1).trans (up_1 (lr x hx).2.1).2.2
      have r3 : ∀ x, x < 15 → υ 153 x = σ (t + 8) x := fun x hx => ((b4 x hx (by omega)).2.2.2).trans (up_1 (lr x hx).2.2).2.2
      have v8 : υ 146 1 = σ t 8 := (b21.trans (q155 _)).trans kv.1.1
      have mwn : MW υ s' := by
        refine ⟨v8.trans g'.1.1, g'.1.2.congr r1 r2 r3, fun m hm' => ?_⟩
        have e := (b4 m hm' (by omega)).1
        have nn : nodeN s' (υ 151) m ↔ nodeN s' (σ (t + 6)) m := nodeN_congr r1
        rw [nn, e]
        exact ⟨fun z => by rw [(nd_of hm').1 z]; rfl, fun z => by rw [(nd_of hm').2 z]; rfl⟩
      have ten : TE (mv υ) 1 σ t := by
        refine te_mk (fun j hj => ?_) (fun j hj => ?_) (fun j hj => ?_) (fun j hj => ?_) (fun j hj => ?_) (fun j hj => ?_) (fun j hj => ?_) (fun j hj => ?_) ?_ ?_ ?_ ?_
        · show υ 148 (4 * j) = _
          exact ((b5 (4 * j) (by omega) (by omega)).trans (q155 _)).trans (kv.2.2.2 j hj).1
        · show υ 148 (4 * j + 1) = _
          exact ((b5 (4 * j + 1) (by omega) (by omega)).trans (q155 _)).trans (kv.2.2.2 j hj).2.1
        · show υ 148 (4 * j + 2) = _
          exact ((b5 (4 * j + 2) (by omega) (by omega)).trans (q155 _)).trans (kv.2.2.2 j hj).2.2.1
        · show υ 148 (4 * j + 3) = _
          exact ((b5 (4 * j + 3) (by omega) (by omega)).trans (q155 _)).trans (kv.2.2.2 j hj).2.2.2
        · show υ 149 j = _
          exact ((b3 j hj (by omega)).trans (q155 _)).trans (kv.2.1 j hj)
        · exact r1 j hj
        · exact r2 j hj
        · exact r3 j hj
        · exact v8
        · exact (b23.trans (q155 _)).trans kv.1.2.1
        · exact (b24.trans (q155 _)).trans kv.1.2.2.1
        · exact (b25.trans (q155 _)).trans kv.1.2.2.2.1
      have sr2 : SR τ υ 1 := fun i hi => b1' _ (by omega)
      have gτ : GT τ 1 s' := sr.te.gt g1
      obtain ⟨c0, c1, c2⟩ := hI.2.2.1
      have e0 : υ 0 = σ 0 := by rw [b1' 0 (by decide), fr 0 (by omega), hR.1 0 (by decide) (by omega)]
      have e147 : υ 147 = σ 147 := by rw [b1 147 (by decide) (by decide) (by omega), hm 147 (by decide) (by decide)]
      refine Res.mk (s := s') (nx := (nx + 7) % 8) (c := c) (n := n) ⟨⟨sr2.te.gt gτ, md2.cg gτ.1 sr2 (fun p h1 h2 h3 => b1' p (by omega)), pd2.cg sr2 (fun p h1 h2 => b1' p (by omega)), Or.inl (by rw [b1' 36 (by decide)]; exact h0)⟩, ⟨mwn, (ten.trans te1.symm).trans (sr.te.symm.trans sr2.te.symm), (b26.trans (q155 _)).trans kv.1.2.2.2.2⟩, ⟨?_, ?_, ?_⟩, ⟨⟨Nat.mod_lt _ (by decide), by omega, by rw [b1' 66 (by decide), fr 66 (by omega)]; exact hR.2.2.1, by rw [b1' 66 (by decide)]; exact e662, b213⟩, fun i hi => ?_⟩, hI.2.2.2.2.cg (by rw [b1' 140 (by decide), hm 140 (by decide) (by decide)]) (by rw [b2 36 (by decide) (by omega) (by decide), hm 146 (by decide) (by decide)]) (fun j _ => by rw [b1 170 (by decide) (by decide) (by omega), hm 170 (by decide) (by decide)]) (fun j _ => by rw [b1' 141 (by decide), hm 141 (by decide) (by decide)])⟩
      · rw [e0, e147]; exact c0
      · rw [e0, e147]; exact c1
      · rw [e0, e147]; exact c2
      · obtain ⟨s2, g2, kv2⟩ := hh i (by omega)
        have es2 : slot ((nx + 7) % 8) c i = slot nx (c + 1) i := by unfold slot; omega
        rw [es2]
        have te5 : TE υ (slot nx (c + 1) i) σ (slot nx (c + 1) i) := te_of (fun j hj => by
          have b6 : slot nx (c + 1) i + j ≤ 139 := by unfold slot; omega
          have b7 : 68 ≤ slot nx (c + 1) i + j := by unfold slot; omega
          rw [b1' _ (by omega), hm _ (by omega) (by omega)])
        exact ⟨s2, te5.gt g2, kv2.cg (fun k hk => by rw [b1 155 (by decide) (by decide) (by omega)]; exact q155 _) te5 g2.1.2.1⟩
/-! the digest -/
def fl (f : Nat → Int32) : Nat → Int64 → Int64
  | 0, h => h
  | m + 1, h => 31 * fl f m h + (f m).toInt64
def fnD (σ : cw_V) : Nat → Int64 → Int64
  | 0, h => h
  | m + 1, h => bif hNodeB σ 1 (nI m) then fl (nvC σ m) 11 (31 * fnD σ m h + (nI m).toInt64) else fnD σ m h
def dg2 (σ : cw_V) (s : Nat) : Int64 := fl (σ 148) (4 * s) (fl (tdC σ) 10 1680)
def dgC (σ : cw_V) (s : Nat) : Int64 := fl (tvC σ s) 5 (fnD σ 15 (dg2 σ s))
theorem sim_digest : SimL (d + 16) m_CW_digest m_Mo_digest [] := by
  intro σ lam ⟨s, nx, c, n, hI⟩
  have g := hI.1.1
  have mw := hI.2.1.1
  have te := hI.2.1.2.1
  have es : σ 1 8 = nI s := g.1.1
  have h8 : s ≤ 8 := g.1.2.1
  obtain ⟨⟨hnx, hc, h661, h662, h13⟩, hh⟩ := hI.2.2.2.1
  have md := hI.1.2.1
  have pd := hI.1.2.2.1
  have vr : VR (mv σ) 1 s := te.vr h8 g.2.1
  have nB : ∀ m, m < 15 → (hNodeB σ 1 (nI m) = true ↔ nodeN s (σ 7) m) := fun m hm => by
    rw [hNodeB_iff, hNode_N g.1.1 g.1.2.1]
    exact ⟨fun ⟨m', h1, h2, h3⟩ => (nI_inj (by omega) (by omega) h2) ▸ h3, fun h => ⟨m, hm, rfl, h⟩⟩
  have nB0 : ∀ m, m < 15 → ¬ nodeN s (σ 7) m → hNodeB σ 1 (nI m) = false := fun m hm h => by
    cases e : hNodeB σ 1 (nI m)
    · rfl
    · exact absurd ((nB m hm).mp e) h
  have ev : ∀ i j, i < s → j ≤ 3 → svF σ 1 i j = σ 148 (4 * i + j) := fun i j hi hj => by
    rcases (show j = 0 ∨ j = 1 ∨ j = 2 ∨ j = 3 by omega) with rfl | rfl | rfl | rfl
    · exact (te.lo (i := 1) (by decide) (by decide) (by omega)).symm
    · exact (te.lo (i := 2) (by decide) (by decide) (by omega)).symm
    · exact (te.lo (i := 3) (by decide) (by decide) (by omega)).symm
    · exact (te.lo (i := 4) (by decide) (by decide) (by omega)).symm
  refine zi (L := [some (.ref 0), none, none, none, none]) rfl rfl (fun K hK => ?_)
  have after : cw_Z (d + 16) m_Mo_digest [.ref 146] (cw_B σ lam) (ResL (some (.long (dgC σ s)))) := by
    obtain ⟨mw2, te2, l2, k2, mv2⟩ := hI.mf (τ := σ) (fun _ _ => rfl)
    refine zi (L := [some (.ref 146), none, none, none, none]) rfl rfl (fun K2 hK2 => ?_)
    have l4 : ∀ m i τ (x : Option Value), i + m = 5 → TQ σ τ → K2 133 [some (.ref 146), some (.long (fl (tvC σ s) i (fnD σ 15 (dg2 σ s)))), none, some (.int (nI i)), x] [] (cw_B τ lam) := by
      intro m
      induction m with
      | zero =>
        intro i τ x hi hq
        obtain rfl : i = 5 := by omega
        refine st_go hK2 rfl rfl ?_
        refine st_go hK2 rfl rfl ?_
        refine st_ifn hK2 rfl rfl (nI_leI (a := 5) (b := 5) (by omega) (by omega)) (fun _ => ?_) (fun c => absurd (by omega) c)
        refine st_go hK2 rfl rfl ?_
        refine st_ret hK2 rfl rfl ?_
        exact ResL.mk (hq.sc.inv hI)
      | succ m ih =>
        intro i τ x hi hq
        refine st_go hK2 rfl rfl ?_
        refine st_go hK2 rfl rfl ?_
        refine st_ifn hK2 rfl rfl (nI_leI (a := 5) (b := i) (by omega) (by omega)) (fun c => absurd c (by omega)) (fun _ => ?_)
        refine st_go hK2 rfl rfl ?_
        refine st_go hK2 rfl rfl ?_
        refine st_lbin hK2 rfl ?_
        refine st_go hK2 rfl rfl ?_
        refine st_go hK2 rfl rfl ?_
        refine cv1 hK2 rfl qc_146 (Nat.le_of_ble_eq_true rfl) ?_
        refine z_totalBy (hq.mw mw2) (by rw [hq.mve]; exact vr) (j := i) (by omega) (fun τ2 hq2 => ?_)
        rw [hq.mve, tv_te te2 g.1]
        change K2 _ _ (_ :: _) _
        refine st_go hK2 rfl rfl ?_
        refine st_lbin hK2 rfl ?_
        refine st_go hK2 rfl rfl ?_
        change K2 _ [some (.ref 146), some (.long (((31 : Int64) * (fl (tvC σ s) i (fnD σ 15 (dg2 σ s)))) + (tvC σ s i).toInt64)), _, some (.int (nI i)), _] _ _
        refine st_go hK2 rfl rfl ?_
        rw [nI_1]
        refine st_go hK2 rfl rfl ?_
        exact ih (i + 1) τ2 _ (by omega) (hq.trans hq2)
    have l3 : ∀ τ, TL σ τ s → ∀ m i (x : Option Value), i + m = 15 → K2 69 [some (.ref 146), some (.long (fnD σ i (dg2 σ s))), none, some (.int (nI i)), x] [] (cw_B τ lam) := by
      intro τ hT m
      have r150 := fun q => congrFun (hT.1.1 150 (by decide) (by decide)) q
      induction m with
      | zero =>
        intro i x hi
        obtain rfl : i = 15 := by omega
        refine st_go hK2 rfl rfl ?_
        refine st_go hK2 rfl rfl ?_
        refine st_ifn hK2 rfl rfl (nI_leI (a := 15) (b := 15) (by omega) (by omega)) (fun _ => ?_) (fun c => absurd (by omega) c)
        refine st_go hK2 rfl rfl ?_
        refine st_go hK2 rfl rfl ?_
        change K2 _ [some (.ref 146), some (.long (fnD σ 15 (dg2 σ s))), _, some (.int (0 : Int32)), _] _ _
        exact l4 5 0 τ _ (by omega) hT.1.tq
      | succ m ih =>
        intro i x hi
        by_cases hn : nodeN s (σ 7) i
        · have e1 : τ 150 i = 1 := (r150 i).trans ((mw2.is1 (by omega)).mpr (te2.nn.mpr hn))
          have hs : fnD σ (i + 1) (dg2 σ s) = fl (nvC σ i) 11 (31 * fnD σ i (dg2 σ s) + (nI i).toInt64) := by
            show (bif hNodeB σ 1 (nI i) then _ else _) = _
            rw [(nB i (by omega)).mpr hn]
            rfl
          have inner : ∀ q j, j + q = 11 → K2 97 [some (.ref 146), some (.long (fl (nvC σ i) j (31 * fnD σ i (dg2 σ s) + (nI i).toInt64))), none, some (.int (nI i)), some (.int (nI j))] [] (cw_B τ lam) := by
            intro q
            induction q with
            | zero =>
              intro j hj
              obtain rfl : j = 11 := by omega
              refine st_go hK2 rfl rfl ?_
              refine st_go hK2 rfl rfl ?_
              refine st_ifn hK2 rfl rfl (nI_leI (a := 11) (b := 11) (by omega) (by omega)) (fun _ => ?_) (fun c => absurd (by omega) c)
              refine st_go hK2 rfl rfl ?_
              rw [nI_1]
              refine st_go hK2 rfl rfl ?_
              have := ih (i + 1) (some (.int (nI 11))) (by omega)
              rw [hs] at this
              exact this
            | succ q ih2 =>
              intro j hj
              refine st_go hK2 rfl rfl ?_
              refine st_go hK2 rfl rfl ?_
              refine st_ifn hK2 rfl rfl (nI_leI (a := 11) (b := j) (by omega) (by omega)) (fun c => absurd c (by omega)) (fun _ => ?_)
              refine st_go hK2 rfl rfl ?_
              refine st_go hK2 rfl rfl ?_
              refine st_lbin hK2 rfl ?_
              refine st_go hK2 rfl rfl ?_
              refine st_go hK2 rfl rfl ?_
              refine st_go hK2 rfl rfl ?_
              refine cv2 hK2 rfl qc_146 (Nat.le_of_ble_eq_true rfl) ?_
              refine z_about mw2 hT (te2.nn.mpr hn) (j := j) (by omega) ?_
              rw [nv_te te2 g.1 hn]
              change K2 _ _ (_ :: _) _
              refine st_go hK2 rfl rfl ?_
              refine st_lbin hK2 rfl ?_
              refine st_go hK2 rfl rfl ?_
              change K2 _ [some (.ref 146), some (.long (((31 : Int64) * (fl (nvC σ i) j (31 * fnD σ i (dg2 σ s) + (nI i).toInt64))) + (nvC σ i j).toInt64)), _, some (.int (nI i)), some (.int (nI j))] _ _
              refine st_go hK2 rfl rfl ?_
              rw [nI_1]
              refine st_go hK2 rfl rfl ?_
              exact ih2 (j + 1) (by omega)
          refine st_go hK2 rfl rfl ?_
          refine st_go hK2 rfl rfl ?_
          refine st_ifn hK2 rfl rfl (nI_leI (a := 15) (b := i) (by omega) (by omega)) (fun c => absurd c (by omega)) (fun _ => ?_)
          refine st_go hK2 rfl rfl ?_
          refine st_getr hK2 rfl qf_146_8 ?_
          refine st_go hK2 rfl rfl ?_
          refine ga (e := i) (v := (1 : Int32)) hK2 rfl qa_150 rfl (by omega) rfl e1 ?_
          refine st_go hK2 rfl rfl ?_
          refine st_if hK2 rfl rfl (fun c => absurd c (by decide)) (fun _ => ?_)
          refine st_go hK2 rfl rfl ?_
          refine st_go hK2 rfl rfl ?_
          refine st_lbin hK2 rfl ?_
          refine st_go hK2 rfl rfl ?_
          refine st_go hK2 rfl rfl ?_
          refine st_lbin hK2 rfl ?_
          refine st_go hK2 rfl rfl ?_
          change K2 _ [some (.ref 146), some (.long (((31 : Int64) * (fnD σ i (dg2 σ s))) + (nI i).toInt64)), _, some (.int (nI i)), _] _ _
          refine st_go hK2 rfl rfl ?_
          refine st_go hK2 rfl rfl ?_
          change K2 _ [some (.ref 146), some (.long (((31 : Int64) * (fnD σ i (dg2 σ s))) + (nI i).toInt64)), _, some (.int (nI i)), some (.int (0 : Int32))] _ _
          exact inner 11 0 (by omega)
        · have e0 : ¬ τ 150 i = 1 := fun z => hn (te2.nn.mp ((mw2.is1 (by omega)).mp ((r150 i).symm.trans z)))
          have hs : fnD σ (i + 1) (dg2 σ s) = fnD σ i (dg2 σ s) := by
            show (bif hNodeB σ 1 (nI i) then _ else _) = _
            rw [nB0 i (by omega) hn]
            rfl
          refine st_go hK2 rfl rfl ?_
          refine st_go hK2 rfl rfl ?_
          refine st_ifn hK2 rfl rfl (nI_leI (a := 15) (b := i) (by omega) (by omega)) (fun c => absurd c (by omega)) (fun _ => ?_)
          refine st_go hK2 rfl rfl ?_
          refine st_getr hK2 rfl qf_146_8 ?_
          refine st_go hK2 rfl rfl ?_
          refine ga (e := i) (v := τ 150 i) hK2 rfl qa_150 rfl (by omega) rfl rfl ?_
          refine st_go hK2 rfl rfl ?_
          refine st_if hK2 rfl rfl (fun _ => ?_) (fun c => absurd e0 c)
          refine st_go hK2 rfl rfl ?_
          rw [nI_1]
          refine st_go hK2 rfl rfl ?_
          have := ih (i + 1) x (by omega)
          rw [hs] at this
          exact this
    have l2' : ∀ m i, i + m = 4 * s → K2 33 [some (.ref 146), some (.long (fl (σ 148) i (fl (tdC σ) 10 1680))), none, some (.int (nI i)), none] [] (cw_B σ lam) := by
      intro m
      induction m with
      | zero =>
        intro i hi
        obtain rfl : i = 4 * s := by omega
        refine st_go hK2 rfl rfl ?_
        refine st_go hK2 rfl rfl ?_
        refine st_go hK2 rfl rfl ?_
        refine gi (v := nI s) hK2 rfl qf_146_1 mw2.1 ?_
        refine bnv hK2 rfl (show _ = nI (4 * s) from nI_mul 4 s) ?_
        refine st_ifn hK2 rfl rfl (nI_leI (a := 4 * s) (b := 4 * s) (by omega) (by omega)) (fun _ => ?_) (fun c => absurd (by omega) c)
        refine st_go hK2 rfl rfl ?_
        refine cv0 hK2 rfl qc_146 (Nat.le_of_ble_eq_true rfl) ?_
        refine z_tellsAll mw2 (fun τ hT => ?_)
        change K2 _ _ _ _
        refine st_go hK2 rfl rfl ?_
        refine st_go hK2 rfl rfl ?_
        change K2 _ [some (.ref 146), some (.long (dg2 σ s)), _, some (.int (0 : Int32)), _] _ _
        exact l3 τ hT 15 0 _ (by omega)
      | succ m ih =>
        intro i hi
        refine st_go hK2 rfl rfl ?_
        refine st_go hK2 rfl rfl ?_
        refine st_go hK2 rfl rfl ?_
        refine gi (v := nI s) hK2 rfl qf_146_1 mw2.1 ?_
        refine bnv hK2 rfl (show _ = nI (4 * s) from nI_mul 4 s) ?_
        refine st_ifn hK2 rfl rfl (nI_leI (a := 4 * s) (b := i) (by omega) (by omega)) (fun c => absurd c (by omega)) (fun _ => ?_)
        refine st_go hK2 rfl rfl ?_
        refine st_go hK2 rfl rfl ?_
        refine st_lbin hK2 rfl ?_
        refine st_go hK2 rfl rfl ?_
        refine st_getr hK2 rfl qf_146_2 ?_
        refine st_go hK2 rfl rfl ?_
        refine ga (e := i) (v := σ 148 i) hK2 rfl qa_148 rfl (by omega) rfl rfl ?_
        refine st_go hK2 rfl rfl ?_
        refine st_lbin hK2 rfl ?_
        refine st_go hK2 rfl rfl ?_
        change K2 _ [some (.ref 146), some (.long (((31 : Int64) * (fl (σ 148) i (fl (tdC σ) 10 1680))) + (σ 148 i).toInt64)), _, some (.int (nI i)), _] _ _
        refine st_go hK2 rfl rfl ?_
        rw [nI_1]
        refine st_go hK2 rfl rfl ?_
        exact ih (i + 1) (by omega)
    have l1 : ∀ m i, i + m = 10 → K2 6 [some (.ref 146), some (.long (fl (tdC σ) i 1680)), none, some (.int (nI i)), none] [] (cw_B σ lam) := by
      intro m
      induction m with
      | zero =>
        intro i hi
        obtain rfl : i = 10 := by omega
        refine st_go hK2 rfl rfl ?_
        refine st_go hK2 rfl rfl ?_
        refine st_ifn hK2 rfl rfl (nI_leI (a := 10) (b := 10) (by omega) (by omega)) (fun _ => ?_) (fun c => absurd (by omega) c)
        refine st_go hK2 rfl rfl ?_
        refine st_go hK2 rfl rfl ?_
        change K2 _ [some (.ref 146), some (.long (fl (tdC σ) 10 1680)), _, some (.int (0 : Int32)), _] _ _
        exact l2' (4 * s) 0 (by omega)
      | succ m ih =>
        intro i hi
        refine st_go hK2 rfl rfl ?_
        refine st_go hK2 rfl rfl ?_
        refine st_ifn hK2 rfl rfl (nI_leI (a := 10) (b := i) (by omega) (by omega)) (fun c => absurd c (by omega)) (fun _ => ?_)
        refine st_go hK2 rfl rfl ?_
        refine st_go hK2 rfl rfl ?_
        refine st_lbin hK2 rfl ?_
        refine st_go hK2 rfl rfl ?_
        refine st_go hK2 rfl rfl ?_
        refine cv1 hK2 rfl qc_146 (Nat.le_of_ble_eq_true rfl) ?_
        refine z_toldBy hI (fun _ _ _ _ => rfl) (fun _ _ => rfl) (j := i) (by omega) ?_
        change K2 _ _ (_ :: _) _
        refine st_go hK2 rfl rfl ?_
        refine st_lbin hK2 rfl ?_
        refine st_go hK2 rfl rfl ?_
        change K2 _ [some (.ref 146), some (.long (((31 : Int64) * (fl (tdC σ) i 1680)) + (tdC σ i).toInt64)), _, some (.int (nI i)), _] _ _
        refine st_go hK2 rfl rfl ?_
        rw [nI_1]
        refine st_go hK2 rfl rfl ?_
        exact ih (i + 1) (by omega)
    refine st_go hK2 rfl rfl ?_
    refine st_go hK2 rfl rfl ?_
    change K2 _ [some (.ref 146), some (.long (1680 : Int64)), _, _, _] _ _
    refine st_go hK2 rfl rfl ?_
    refine st_go hK2 rfl rfl ?_
    change K2 _ [some (.ref 146), some (.long (1680 : Int64)), _, some (.int (0 : Int32)), _] _ _
    exact l1 10 0 (by omega)
  have l4 : ∀ m i (x : Option Value), i + m = 5 → K 150 [some (.ref 0), some (.long (fl (tvC σ s) i (fnD σ 15 (dg2 σ s)))), none, some (.int (nI i)), x] [] (cw_B σ lam) := by
    intro m
    induction m with
    | zero =>
      intro i x hi
      obtain rfl : i = 5 := by omega
      refine st_go hK rfl rfl ?_
      refine st_go hK rfl rfl ?_
      refine st_ifn hK rfl rfl (nI_ltI (a := 4) (b := 5) (by omega) (by omega)) (fun _ => ?_) (fun c => absurd (by omega) c)
      refine st_go hK rfl rfl ?_
      refine st_ret hK rfl rfl ?_
      exact after
    | succ m ih =>
      intro i x hi
      refine st_go hK rfl rfl ?_
      refine st_go hK rfl rfl ?_
      refine st_ifn hK rfl rfl (nI_ltI (a := 4) (b := i) (by omega) (by omega)) (fun c => absurd c (by omega)) (fun _ => ?_)
      refine st_go hK rfl rfl ?_
      refine st_go hK rfl rfl ?_
      refine st_lbin hK rfl ?_
      refine st_go hK rfl rfl ?_
      refine st_go hK rfl rfl ?_
      refine cv1 hK rfl qc_0 (Nat.le_of_ble_eq_true rfl) ?_
      refine z_totalValue g.1 md pd (j := i) (by omega) ?_
      change K _ _ (_ :: _) _
      refine st_go hK rfl rfl ?_
      refine st_lbin hK rfl ?_
      refine st_go hK rfl rfl ?_
      change K _ [some (.ref 0), some (.long (((31 : Int64) * (fl (tvC σ s) i (fnD σ 15 (dg2 σ s)))) + (tvC σ s i).toInt64)), _, some (.int (nI i)), _] _ _
      refine st_go hK rfl rfl ?_
      rw [nI_1]
      refine st_go hK rfl rfl ?_
      exact ih (i + 1) _ (by omega)
  have l3 : ∀ m i (x : Option Value), i + m = 15 → K 85 [some (.ref 0), some (.long (fnD σ i (dg2 σ s))), none, some (.int (nI i)), x] [] (cw_B σ lam) := by
    intro m
    induction m with
    | zero =>
      intro i x hi
      obtain rfl : i = 15 := by omega
      refine st_go hK rfl rfl ?_
      refine st_go hK rfl rfl ?_
      refine st_ifn hK rfl rfl (nI_leI (a := 15) (b := 15) (by omega) (by omega)) (fun _ => ?_) (fun c => absurd (by omega) c)
      refine st_go hK rfl rfl ?_
      refine st_go hK rfl rfl ?_
      change K _ [some (.ref 0), some (.long (fnD σ 15 (dg2 σ s))), _, some (.int (0 : Int32)), _] _ _
      exact l4 5 0 _ (by omega)
    | succ m ih =>
      intro i x hi
      by_cases hn : nodeN s (σ 7) i
      · have hnn : ∃ n, n < 15 ∧ nI i = nI n ∧ nodeN s (σ 7) n := ⟨i, by omega, rfl, hn⟩
        have hs : fnD σ (i + 1) (dg2 σ s) = fl (nvC σ i) 11 (31 * fnD σ i (dg2 σ s) + (nI i).toInt64) := by
          show (bif hNodeB σ 1 (nI i) then _ else _) = _
          rw [(nB i (by omega)).mpr hn]
          rfl
        have inner : ∀ q j, j + q = 11 → K 114 [some (.ref 0), some (.long (fl (nvC σ i) j (31 * fnD σ i (dg2 σ s) + (nI i).toInt64))), none, some (.int (nI i)), some (.int (nI j))] [] (cw_B σ lam) := by
          intro q
          induction q with
          | zero =>
            intro j hj
            obtain rfl : j = 11 := by omega
            refine st_go hK rfl rfl ?_
            refine st_go hK rfl rfl ?_
            refine st_ifn hK rfl rfl (nI_ltI (a := 10) (b := 11) (by omega) (by omega)) (fun _ => ?_) (fun c => absurd (by omega) c)
            refine st_go hK rfl rfl ?_
            rw [nI_1]
            refine st_go hK rfl rfl ?_
            have := ih (i + 1) (some (.int (nI 11))) (by omega)
            rw [hs] at this
            exact this
          | succ q ih2 =>
            intro j hj
            refine st_go hK rfl rfl ?_
            refine st_go hK rfl rfl ?_
            refine st_ifn hK rfl rfl (nI_ltI (a := 10) (b := j) (by omega) (by omega)) (fun c => absurd c (by omega)) (fun _ => ?_)
            refine st_go hK rfl rfl ?_
            refine st_go hK rfl rfl ?_
            refine st_lbin hK rfl ?_
            refine st_go hK rfl rfl ?_
            refine st_go hK rfl rfl ?_
            refine st_go hK rfl rfl ?_
            refine cv2 hK rfl qc_0 (Nat.le_of_ble_eq_true rfl) ?_
            refine z_nodeValue g.1 md hn (j := j) (by omega) ?_
            change K _ _ (_ :: _) _
            refine st_go hK rfl rfl ?_
            refine st_lbin hK rfl ?_
            refine st_go hK rfl rfl ?_
            change K _ [some (.ref 0), some (.long (((31 : Int64) * (fl (nvC σ i) j (31 * fnD σ i (dg2 σ s) + (nI i).toInt64))) + (nvC σ i j).toInt64)), _, some (.int (nI i)), some (.int (nI j))] _ _
            refine st_go hK rfl rfl ?_
            rw [nI_1]
            refine st_go hK rfl rfl ?_
            exact ih2 (j + 1) (by omega)
        refine st_go hK rfl rfl ?_
        refine st_go hK rfl rfl ?_
        refine st_ifn hK rfl rfl (nI_leI (a := 15) (b := i) (by omega) (by omega)) (fun c => absurd c (by omega)) (fun _ => ?_)
        refine st_go hK rfl rfl ?_
        refine st_getr hK rfl qf_0_0 ?_
        refine st_go hK rfl rfl ?_
        refine cv1 hK rfl qc_1 (Nat.le_of_ble_eq_true rfl) ?_
        refine z_hasNode' hT1 g.1 (fun _ => ?_) (fun c => absurd hnn c)
        change K _ _ (_ :: _) _
        refine st_if hK rfl rfl (fun c => absurd c (by decide)) (fun _ => ?_)
        refine st_go hK rfl rfl ?_
        refine st_go hK rfl rfl ?_
        refine st_lbin hK rfl ?_
        refine st_go hK rfl rfl ?_
        refine st_go hK rfl rfl ?_
        refine st_lbin hK rfl ?_
        refine st_go hK rfl rfl ?_
        change K _ [some (.ref 0), some (.long (((31 : Int64) * (fnD σ i (dg2 σ s))) + (nI i).toInt64)), _, some (.int (nI i)), _] _ _
        refine st_go hK rfl rfl ?_
        refine st_go hK rfl rfl ?_
        change K _ [some (.ref 0), some (.long (((31 : Int64) * (fnD σ i (dg2 σ s))) + (nI i).toInt64)), _, some (.int (nI i)), some (.int (0 : Int32))] _ _
        exact inner 11 0 (by omega)
      · have hnn : ¬ ∃ n, n < 15 ∧ nI i = nI n ∧ nodeN s (σ 7) n := fun ⟨n, h1, h2, h3⟩ => hn ((nI_inj (by omega) (by omega) h2) ▸ h3)
        have hs : fnD σ (i + 1) (dg2 σ s) = fnD σ i (dg2 σ s) := by
          show (bif hNodeB σ 1 (nI i) then _ else _) = _
          rw [nB0 i (by omega) hn]
          rfl
        refine st_go hK rfl rfl ?_
        refine st_go hK rfl rfl ?_
        refine st_ifn hK rfl rfl (nI_leI (a := 15) (b := i) (by omega) (by omega)) (fun c => absurd c (by omega)) (fun _ => ?_)
        refine st_go hK rfl rfl ?_
        refine st_getr hK rfl qf_0_0 ?_
        refine st_go hK rfl rfl ?_
        refine cv1 hK rfl qc_1 (Nat.le_of_ble_eq_true rfl) ?_
        refine z_hasNode' hT1 g.1 (fun c => absurd c hnn) (fun _ => ?_)
        change K _ _ (_ :: _) _
        refine st_if hK rfl rfl (fun _ => ?_) (fun c => absurd (by decide) c)
        refine st_go hK rfl rfl ?_
        rw [nI_1]
        refine st_go hK rfl rfl ?_
        have := ih (i + 1) x (by omega)
        rw [hs] at this
        exact this
  have l2 : ∀ m i (x : Option Value), i + m = s → K 33 [some (.ref 0), some (.long (fl (σ 148) (4 * i) (fl (tdC σ) 10 1680))), none, some (.int (nI i)), x] [] (cw_B σ lam) := by
    intro m
    induction m with
    | zero =>
      intro i x hi
      obtain rfl : i = s := by omega
      refine st_go hK rfl rfl ?_
      refine st_go hK rfl rfl ?_
      refine st_getr hK rfl qf_0_0 ?_
      refine gi (v := nI i) hK rfl qf_1_8 es ?_
      refine st_ifn hK rfl rfl (nI_leI (a := i) (b := i) (by omega) (by omega)) (fun _ => ?_) (fun c => absurd (by omega) c)
      refine st_go hK rfl rfl ?_
      refine st_go hK rfl rfl ?_
      change K _ [some (.ref 0), some (.long (dg2 σ i)), _, some (.int (0 : Int32)), _] _ _
      exact l3 15 0 _ (by omega)
    | succ m ih =>
      intro i x hi
      have inner : ∀ q j, j + q = 4 → K 47 [some (.ref 0), some (.long (fl (σ 148) (4 * i + j) (fl (tdC σ) 10 1680))), none, some (.int (nI i)), some (.int (nI j))] [] (cw_B σ lam) := by
        intro q
        induction q with
        | zero =>
          intro j hj
          obtain rfl : j = 4 := by omega
          refine st_go hK rfl rfl ?_
          refine st_go hK rfl rfl ?_
          refine st_ifn hK rfl rfl (nI_ltI (a := 3) (b := 4) (by omega) (by omega)) (fun _ => ?_) (fun c => absurd (by omega) c)
          refine st_go hK rfl rfl ?_
          rw [nI_1]
          refine st_go hK rfl rfl ?_
          exact ih (i + 1) _ (by omega)
        | succ q ih2 =>
          intro j hj
          refine st_go hK rfl rfl ?_
          refine st_go hK rfl rfl ?_
          refine st_ifn hK rfl rfl (nI_ltI (a := 3) (b := j) (by omega) (by omega)) (fun c => absurd c (by omega)) (fun _ => ?_)
          refine st_go hK rfl rfl ?_
          refine st_go hK rfl rfl ?_
          refine st_lbin hK rfl ?_
          refine st_go hK rfl rfl ?_
          refine st_getr hK rfl qf_0_0 ?_
          refine st_go hK rfl rfl ?_
          refine st_go hK rfl rfl ?_
          refine cv2 hK rfl qc_1 (Nat.le_of_ble_eq_true rfl) ?_
          refine z_sinkValue hT1 (hSink_nI es h8 (by omega)) (w := j) (by omega) ?_
          rw [nI_clamp (by omega), ev i j (by omega) (by omega)]
          change K _ _ (_ :: _) _
          refine st_go hK rfl rfl ?_
          refine st_lbin hK rfl ?_
          refine st_go hK rfl rfl ?_
          change K _ [some (.ref 0), some (.long (((31 : Int64) * (fl (σ 148) (4 * i + j) (fl (tdC σ) 10 1680))) + (σ 148 (4 * i + j)).toInt64)), _, some (.int (nI i)), some (.int (nI j))] _ _
          refine st_go hK rfl rfl ?_
          rw [nI_1]
          refine st_go hK rfl rfl ?_
          exact ih2 (j + 1) (by omega)
      refine st_go hK rfl rfl ?_
      refine st_go hK rfl rfl ?_
      refine st_getr hK rfl qf_0_0 ?_
      refine gi (v := nI s) hK rfl qf_1_8 es ?_
      refine st_ifn hK rfl rfl (nI_leI (a := s) (b := i) (by omega) (by omega)) (fun c => absurd c (by omega)) (fun _ => ?_)
      refine st_go hK rfl rfl ?_
      refine st_go hK rfl rfl ?_
      change K _ [some (.ref 0), some (.long (fl (σ 148) (4 * i) (fl (tdC σ) 10 1680))), _, some (.int (nI i)), some (.int (0 : Int32))] _ _
      exact inner 4 0 (by omega)
  have l1 : ∀ m i, i + m = 10 → K 6 [some (.ref 0), some (.long (fl (tdC σ) i 1680)), none, some (.int (nI i)), none] [] (cw_B σ lam) := by
    intro m
    induction m with
    | zero =>
      intro i hi
      obtain rfl : i = 10 := by omega
      refine st_go hK rfl rfl ?_
      refine st_go hK rfl rfl ?_
      refine st_ifn hK rfl rfl (nI_ltI (a := 9) (b := 10) (by omega) (by omega)) (fun _ => ?_) (fun c => absurd (by omega) c)
      refine st_go hK rfl rfl ?_
      refine st_go hK rfl rfl ?_
      change K _ [some (.ref 0), some (.long (fl (tdC σ) 10 1680)), _, some (.int (0 : Int32)), _] _ _
      exact l2 s 0 _ (by omega)
    | succ m ih =>
      intro i hi
      refine st_go hK rfl rfl ?_
      refine st_go hK rfl rfl ?_
      refine st_ifn hK rfl rfl (nI_ltI (a := 9) (b := i) (by omega) (by omega)) (fun c => absurd c (by omega)) (fun _ => ?_)
      refine st_go hK rfl rfl ?_
      refine st_go hK rfl rfl ?_
      refine st_lbin hK rfl ?_
      refine st_go hK rfl rfl ?_
      refine st_go hK rfl rfl ?_
      refine cv1 hK rfl qc_0 (Nat.le_of_ble_eq_true rfl) ?_
      refine z_toldValue (j := i) (by omega) ?_
      change K _ _ (_ :: _) _
      refine st_go hK rfl rfl ?_
      refine st_lbin hK rfl ?_
      refine st_go hK rfl rfl ?_
      change K _ [some (.ref 0), some (.long (((31 : Int64) * (fl (tdC σ) i 1680)) + (tdC σ i).toInt64)), _, some (.int (nI i)), _] _ _
      refine st_go hK rfl rfl ?_
      rw [nI_1]
      refine st_go hK rfl rfl ?_
      exact ih (i + 1) (by omega)
  refine st_go hK rfl rfl ?_
  refine st_go hK rfl rfl ?_
  change K _ [some (.ref 0), some (.long (1680 : Int64)), _, _, _] _ _
  refine st_go hK rfl rfl ?_
  refine st_go hK rfl rfl ?_
  change K _ [some (.ref 0), some (.long (1680 : Int64)), _, some (.int (0 : Int32)), _] _ _
  exact l1 10 0 (by omega)
end
