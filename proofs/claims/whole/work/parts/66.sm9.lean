/-! THE CALLS: least, the call itself -/
theorem dc_sh {s : Nat} : ∀ (r k c : Nat) (T : TT), k + r = s → 1 ≤ k → s ≤ 8 → SH s k T → SH s s (dcT r k c T) := by
  intro r
  induction r with
  | zero =>
    intro k c T hk _ _ h
    obtain rfl : k = s := by omega
    exact h
  | succ r ih =>
    intro k c T hk h1 h8 h
    have hok : okN k (rwN (c % (2 * k - 1))) := rw_ok h1 (Nat.mod_lt _ (by omega))
    exact ih (k + 1) _ _ (by omega) (by omega) h8 (h.ins h1 (by omega) hok (by rcases hok with z | z <;> omega))
def pqN : Nat → Nat
  | 0 => 1
  | q + 1 => pqN q * (2 * q + 1)
theorem pq_pc {s : Nat} (h1 : 1 ≤ s) (h6 : s ≤ 6) : pqN (s - 1) = pcN (s - 1) 1 := by
  rcases (show s = 1 ∨ s = 2 ∨ s = 3 ∨ s = 4 ∨ s = 5 ∨ s = 6 by omega) with rfl | rfl | rfl | rfl | rfl | rfl <;> decide
section
variable {d s : Nat} {σ υ : cw_V} {lam : Nat → Int64} {Q : cw_Q}
theorem z_mleast {w : Nat} (hw : w ≤ 1) (hW : WF σ 1 s) (h1 : 1 ≤ s) (h6 : s ≤ 6) (hM : MW υ s) (te : TE (mv υ) 1 σ 1) (kk : ∀ τ, MR υ τ → MW τ s → TE (mv τ) 1 σ 1 → Q (some (.int (if w = 0 then (mfC (cL σ) s (pcN (s - 1) 1)).1 else (mfC (cL σ) s (pcN (s - 1) 1)).2))) (cw_B τ lam)) : cw_Z (d + 6) m_Mo_least [.ref 146, .int (nI w)] (cw_B υ lam) Q := by
  obtain ⟨y1, y2, y3⟩ := te.mrow
  obtain ⟨pp1, pp2⟩ := pc_le h1 h6
  have h8 := hW.2.1
  have hs : (1 : Int32) ≤ nI s ∧ nI s ≤ 6 := ⟨(nI_leI (a := 1) (b := s) (by omega) (by omega)).mpr h1, (nI_leI (a := s) (b := 6) (by omega) (by omega)).mpr h6⟩
  have hw01 : (0 : Int32) ≤ nI w ∧ nI w ≤ 1 := ⟨nI_pos' (by omega), (nI_leI (a := w) (b := 1) (by omega) (by omega)).mpr hw⟩
  have teT0 : TE σ 1 (vT σ (σ 7, σ 8, σ 9)) 1 := ⟨fun i a b j hj => by rw [vT_lo (1 + i) (by omega)], fun i a b j hj => by rcases (show i = 6 ∨ i = 7 ∨ i = 8 by omega) with rfl | rfl | rfl <;> rfl, fun k a b => rfl⟩
  refine zi (L := [some (.ref 146), some (.int (nI w)), none, none, none, none, none]) rfl rfl (fun K hK => ?_)
  have loop : ∀ m i ξ Tv (x6 : Option Value), i + m = pcN (s - 1) 1 → MR υ ξ → MW ξ s → TE (mv ξ) 1 (vT σ Tv) 1 → (∀ x, x < 15 → ξ 154 x = υ 150 x ∧ ξ 154 (15 + x) = υ 151 x ∧ ξ 154 (30 + x) = υ 152 x ∧ ξ 154 (45 + x) = υ 153 x) → K 70 [some (.ref 146), some (.int (nI w)), some (.int (nI (pcN (s - 1) 1))), some (.int (mfC (cL σ) s i).1), some (.int (mfC (cL σ) s i).2), some (.int (nI i)), x6] [] (cw_B ξ lam) := by
    intro m
    induction m with
    | zero =>
      intro i ξ Tv x6 hi hR hMx tex has
      obtain rfl : i = pcN (s - 1) 1 := by omega
      rcases (show w = 0 ∨ w = 1 by omega) with rfl | rfl
      · skip
        refine st_go hK rfl rfl ?_
        refine st_go hK rfl rfl ?_
        refine st_ifn hK rfl rfl (nI_leI (a := pcN (s - 1) 1) (b := pcN (s - 1) 1) (by omega) (by omega)) (fun _ => ?_) (fun c => absurd (by omega) c)
        refine st_go hK rfl rfl ?_
        refine cv0 hK rfl qc_146 (Nat.le_of_ble_eq_true rfl) ?_
        refine z_takesBack (fun ξ3 hTB => ?_)
        have hR3 : MR υ ξ3 := hR.trans hTB.mr
        have b0 : ∀ x, x < 15 → ξ3 150 x = υ 150 x := fun x hx => (hTB.2 x hx).1.trans (has x hx).1
        have b1 : ∀ x, x < 15 → ξ3 151 x = υ 151 x := fun x hx => (hTB.2 x hx).2.1.trans (has x hx).2.1
        have b2 : ∀ x, x < 15 → ξ3 152 x = υ 152 x := fun x hx => (hTB.2 x hx).2.2.1.trans (has x hx).2.2.1
        have b3 : ∀ x, x < 15 → ξ3 153 x = υ 153 x := fun x hx => (hTB.2 x hx).2.2.2.trans (has x hx).2.2.2
        have mw3 : MW ξ3 s := hM.cgr (hR3.2 1 (by decide)) b0 b1 b2 b3
        have te3 : TE (mv ξ3) 1 σ 1 := te_rows te hR3 (fun _ _ => rfl) (fun x hx => (b1 x hx).trans (y1 x hx)) (fun x hx => (b2 x hx).trans (y2 x hx)) (fun x hx => (b3 x hx).trans (y3 x hx))
        change K _ _ _ _
        refine st_go hK rfl rfl ?_
        refine st_if hK rfl rfl (fun c => absurd c (by decide)) (fun _ => ?_)
        refine st_go hK rfl rfl ?_
        refine st_go hK rfl rfl ?_
        refine st_ret hK rfl rfl ?_
        exact kk ξ3 hR3 mw3 te3
      · skip
        refine st_go hK rfl rfl ?_
        refine st_go hK rfl rfl ?_
        refine st_ifn hK rfl rfl (nI_leI (a := pcN (s - 1) 1) (b := pcN (s - 1) 1) (by omega) (by omega)) (fun _ => ?_) (fun c => absurd (by omega) c)
        refine st_go hK rfl rfl ?_
        refine cv0 hK rfl qc_146 (Nat.le_of_ble_eq_true rfl) ?_
        refine z_takesBack (fun ξ3 hTB => ?_)
        have hR3 : MR υ ξ3 := hR.trans hTB.mr
        have b0 : ∀ x, x < 15 → ξ3 150 x = υ 150 x := fun x hx => (hTB.2 x hx).1.trans (has x hx).1
        have b1 : ∀ x, x < 15 → ξ3 151 x = υ 151 x := fun x hx => (hTB.2 x hx).2.1.trans (has x hx).2.1
        have b2 : ∀ x, x < 15 → ξ3 152 x = υ 152 x := fun x hx => (hTB.2 x hx).2.2.1.trans (has x hx).2.2.1
        have b3 : ∀ x, x < 15 → ξ3 153 x = υ 153 x := fun x hx => (hTB.2 x hx).2.2.2.trans (has x hx).2.2.2
        have mw3 : MW ξ3 s := hM.cgr (hR3.2 1 (by decide)) b0 b1 b2 b3
        have te3 : TE (mv ξ3) 1 σ 1 := te_rows te hR3 (fun _ _ => rfl) (fun x hx => (b1 x hx).trans (y1 x hx)) (fun x hx => (b2 x hx).trans (y2 x hx)) (fun x hx => (b3 x hx).trans (y3 x hx))
        change K _ _ _ _
        refine st_go hK rfl rfl ?_
        refine st_if hK rfl rfl (fun _ => ?_) (fun c => absurd (by decide) c)
        refine st_go hK rfl rfl ?_
        refine st_ret hK rfl rfl ?_
        exact kk ξ3 hR3 mw3 te3
    | succ m ih =>
      intro i ξ Tv x6 hi hR hMx tex has
      have hSHd := dc_sh (s := s) (s - 1) 1 i T0 (by omega) (by omega) h8 (SH.t0 h8)
      have hWd : WF (vT σ (dcT (s - 1) 1 i T0)) 1 s := vT_wf hW hSHd.1
      have ms := mf_s (C := cL σ) (s := s) (i := i)
      by_cases hi0 : i = 0
      · skip
        refine st_go hK rfl rfl ?_
        refine st_go hK rfl rfl ?_
        refine st_ifn hK rfl rfl (nI_leI (a := pcN (s - 1) 1) (b := i) (by omega) (by omega)) (fun c => absurd c (by omega)) (fun _ => ?_)
        refine st_go hK rfl rfl ?_
        refine st_go hK rfl rfl ?_
        refine cv1 hK rfl qc_146 (Nat.le_of_ble_eq_true rfl) ?_
        refine z_growsBy hW h1 h6 (c := i) (by omega) hMx tex (fun ξ1 hR1 h154 mw1 te1 => ?_)
        change K _ _ _ _
        refine st_go hK rfl rfl ?_
        refine cv0 hK rfl qc_146 (Nat.le_of_ble_eq_true rfl) ?_
        refine z_costOfAll mw1 (fun ξ2 hT2 => ?_)
        rw [show costOf (mv ξ1) 1 = cL σ (dcT (s - 1) 1 i T0) from te1.cost hWd]
        change K _ _ (_ :: _) _
        refine st_go hK rfl rfl ?_
        change K _ [some (.ref 146), some (.int (nI w)), some (.int (nI (pcN (s - 1) 1))), some (.int ((mfC (cL σ) s i).1)), some (.int ((mfC (cL σ) s i).2)), some (.int (nI i)), some (.int (cL σ (dcT (s - 1) 1 i T0)))] _ _
        refine st_go hK rfl rfl ?_
        refine st_ifn hK rfl rfl (nI_eq (a := i) (b := 0) (by omega) (by omega)) (fun _ => ?_) (fun c => absurd hi0 c)
        refine st_go hK rfl rfl ?_
        refine st_go hK rfl rfl ?_
        refine st_go hK rfl rfl ?_
        change K _ [some (.ref 146), some (.int (nI w)), some (.int (nI (pcN (s - 1) 1))), some (.int ((mfC (cL σ) s i).1)), some (.int (1 : Int32)), some (.int (nI i)), some (.int (cL σ (dcT (s - 1) 1 i T0)))] _ _
        refine st_go hK rfl rfl ?_
        refine st_ifn hK rfl rfl (nI_eq (a := i) (b := 0) (by omega) (by omega)) (fun _ => ?_) (fun c => absurd hi0 c)
        refine st_go hK rfl rfl ?_
        refine st_go hK rfl rfl ?_
        refine st_go hK rfl rfl ?_
        change K _ [some (.ref 146), some (.int (nI w)), some (.int (nI (pcN (s - 1) 1))), some (.int (cL σ (dcT (s - 1) 1 i T0))), some (.int (1 : Int32)), some (.int (nI i)), some (.int (cL σ (dcT (s - 1) 1 i T0)))] _ _
        refine st_go hK rfl rfl ?_
        rw [nI_1]
        refine st_go hK rfl rfl ?_
        have em : mfC (cL σ) s (i + 1) = (cL σ (dcT (s - 1) 1 i T0), 1) := by
          rw [ms]
          exact if_pos (Or.inl (by rw [hi0]; rfl))
        have hh := ih (i + 1) ξ2 (dcT (s - 1) 1 i T0) (some (.int (cL σ (dcT (s - 1) 1 i T0)))) (by omega) ((hR.trans hR1).trans hT2.1.tq.mr) (hT2.1.tq.mw mw1) (by rw [hT2.1.tq.mve]; exact te1) (fun x hx => by rw [hT2.1.1 154 (by decide) (by decide), h154, h154, h154, h154]; exact has x hx)
        rw [em] at hh
        exact hh
      · have hp2 := mf_pos (C := cL σ) (s := s) (i := i) (by omega) (by omega)
        refine st_go hK rfl rfl ?_
        refine st_go hK rfl rfl ?_
        refine st_ifn hK rfl rfl (nI_leI (a := pcN (s - 1) 1) (b := i) (by omega) (by omega)) (fun c => absurd c (by omega)) (fun _ => ?_)
        refine st_go hK rfl rfl ?_
        refine st_go hK rfl rfl ?_
        refine cv1 hK rfl qc_146 (Nat.le_of_ble_eq_true rfl) ?_
        refine z_growsBy hW h1 h6 (c := i) (by omega) hMx tex (fun ξ1 hR1 h154 mw1 te1 => ?_)
        change K _ _ _ _
        refine st_go hK rfl rfl ?_
        refine cv0 hK rfl qc_146 (Nat.le_of_ble_eq_true rfl) ?_
        refine z_costOfAll mw1 (fun ξ2 hT2 => ?_)
        rw [show costOf (mv ξ1) 1 = cL σ (dcT (s - 1) 1 i T0) from te1.cost hWd]
        change K _ _ (_ :: _) _
        refine st_go hK rfl rfl ?_
        change K _ [some (.ref 146), some (.int (nI w)), some (.int (nI (pcN (s - 1) 1))), some (.int ((mfC (cL σ) s i).1)), some (.int ((mfC (cL σ) s i).2)), some (.int (nI i)), some (.int (cL σ (dcT (s - 1) 1 i T0)))] _ _
        refine st_go hK rfl rfl ?_
        refine st_ifn hK rfl rfl (nI_eq (a := i) (b := 0) (by omega) (by omega)) (fun c => absurd c hi0) (fun _ => ?_)
        refine st_go hK rfl rfl ?_
        refine st_go hK rfl rfl ?_
        refine st_if hK rfl rfl (fun c96 => ?_) (fun c96 => ?_)
        · refine st_go hK rfl rfl ?_
          refine st_go hK rfl rfl ?_
          refine st_if hK rfl rfl (fun c106 => ?_) (fun c106 => ?_)
          · refine st_go hK rfl rfl ?_
            refine st_go hK rfl rfl ?_
            change K _ [some (.ref 146), some (.int (nI w)), some (.int (nI (pcN (s - 1) 1))), some (.int ((mfC (cL σ) s i).1)), some (.int ((mfC (cL σ) s i).2)), some (.int (nI i)), some (.int (cL σ (dcT (s - 1) 1 i T0)))] _ _
            refine st_go hK rfl rfl ?_
            refine st_ifn hK rfl rfl (nI_eq (a := i) (b := 0) (by omega) (by omega)) (fun c => absurd c hi0) (fun _ => ?_)
            refine st_go hK rfl rfl ?_
            refine st_go hK rfl rfl ?_
            refine st_if hK rfl rfl (fun c128 => ?_) (fun c128 => ?_)
            · refine st_go hK rfl rfl ?_
              refine st_go hK rfl rfl ?_
              change K _ [some (.ref 146), some (.int (nI w)), some (.int (nI (pcN (s - 1) 1))), some (.int ((mfC (cL σ) s i).1)), some (.int ((mfC (cL σ) s i).2)), some (.int (nI i)), some (.int (cL σ (dcT (s - 1) 1 i T0)))] _ _
              refine st_go hK rfl rfl ?_
              rw [nI_1]
              refine st_go hK rfl rfl ?_
              have hh := ih (i + 1) ξ2 (dcT (s - 1) 1 i T0) (some (.int (cL σ (dcT (s - 1) 1 i T0)))) (by omega) ((hR.trans hR1).trans hT2.1.tq.mr) (hT2.1.tq.mw mw1) (by rw [hT2.1.tq.mve]; exact te1) (fun x hx => by rw [hT2.1.1 154 (by decide) (by decide), h154, h154, h154, h154]; exact has x hx)
              unfold cnt at ms
              rw [ms] at hh
              first
                | exact absurd c96 c128
                | exact absurd c128 c96
                | (rw [if_pos (Or.inr (Int32.not_le.mp c96))] at hh
                   exact hh)
                | (rw [if_neg (fun z => z.elim hp2 (fun q => absurd q (Int32.not_lt.mpr c96))), if_neg c106] at hh
                   exact hh)
                | (rw [if_neg (fun z => z.elim hp2 (fun q => absurd q (Int32.not_lt.mpr c96))), if_pos (Decidable.not_not.mp c106)] at hh
                   exact hh)
            · refine st_go hK rfl rfl ?_
              refine st_go hK rfl rfl ?_
              refine st_go hK rfl rfl ?_
              change K _ [some (.ref 146), some (.int (nI w)), some (.int (nI (pcN (s - 1) 1))), some (.int (cL σ (dcT (s - 1) 1 i T0))), some (.int ((mfC (cL σ) s i).2)), some (.int (nI i)), some (.int (cL σ (dcT (s - 1) 1 i T0)))] _ _
              refine st_go hK rfl rfl ?_
              rw [nI_1]
              refine st_go hK rfl rfl ?_
              have hh := ih (i + 1) ξ2 (dcT (s - 1) 1 i T0) (some (.int (cL σ (dcT (s - 1) 1 i T0)))) (by omega) ((hR.trans hR1).trans hT2.1.tq.mr) (hT2.1.tq.mw mw1) (by rw [hT2.1.tq.mve]; exact te1) (fun x hx => by rw [hT2.1.1 154 (by decide) (by decide), h154, h154, h154, h154]; exact has x hx)
              unfold cnt at ms
              rw [ms] at hh
              first
                | exact absurd c96 c128
                | exact absurd c128 c96
                | (rw [if_pos (Or.inr (Int32.not_le.mp c96))] at hh
                   exact hh)
                | (rw [if_neg (fun z => z.elim hp2 (fun q => absurd q (Int32.not_lt.mpr c96))), if_neg c106] at hh
                   exact hh)
                | (rw [if_neg (fun z => z.elim hp2 (fun q => absurd q (Int32.not_lt.mpr c96))), if_pos (Decidable.not_not.mp c106)] at hh
                   exact hh)
          · refine st_go hK rfl rfl ?_
            refine st_go hK rfl rfl ?_
            refine st_bin hK rfl ?_
            refine st_go hK rfl rfl ?_
            refine st_go hK rfl rfl ?_
            change K _ [some (.ref 146), some (.int (nI w)), some (.int (nI (pcN (s - 1) 1))), some (.int ((mfC (cL σ) s i).1)), some (.int ((mfC (cL σ) s i).2 + (1 : Int32))), some (.int (nI i)), some (.int (cL σ (dcT (s - 1) 1 i T0)))] _ _
            refine st_go hK rfl rfl ?_
            refine st_ifn hK rfl rfl (nI_eq (a := i) (b := 0) (by omega) (by omega)) (fun c => absurd c hi0) (fun _ => ?_)
            refine st_go hK rfl rfl ?_
            refine st_go hK rfl rfl ?_
            refine st_if hK rfl rfl (fun c128 => ?_) (fun c128 => ?_)
            · refine st_go hK rfl rfl ?_
              refine st_go hK rfl rfl ?_
              change K _ [some (.ref 146), some (.int (nI w)), some (.int (nI (pcN (s - 1) 1))), some (.int ((mfC (cL σ) s i).1)), some (.int ((mfC (cL σ) s i).2 + (1 : Int32))), some (.int (nI i)), some (.int (cL σ (dcT (s - 1) 1 i T0)))] _ _
              refine st_go hK rfl rfl ?_
              rw [nI_1]
              refine st_go hK rfl rfl ?_
              have hh := ih (i + 1) ξ2 (dcT (s - 1) 1 i T0) (some (.int (cL σ (dcT (s - 1) 1 i T0)))) (by omega) ((hR.trans hR1).trans hT2.1.tq.mr) (hT2.1.tq.mw mw1) (by rw [hT2.1.tq.mve]; exact te1) (fun x hx => by rw [hT2.1.1 154 (by decide) (by decide), h154, h154, h154, h154]; exact has x hx)
              unfold cnt at ms
              rw [ms] at hh
              first
                | exact absurd c96 c128
                | exact absurd c128 c96
                | (rw [if_pos (Or.inr (Int32.not_le.mp c96))] at hh
                   exact hh)
                | (rw [if_neg (fun z => z.elim hp2 (fun q => absurd q (Int32.not_lt.mpr c96))), if_neg c106] at hh
                   exact hh)
                | (rw [if_neg (fun z => z.elim hp2 (fun q => absurd q (Int32.not_lt.mpr c96))), if_pos (Decidable.not_not.mp c106)] at hh
                   exact hh)
            · refine st_go hK rfl rfl ?_
              refine st_go hK rfl rfl ?_
              refine st_go hK rfl rfl ?_
              change K _ [some (.ref 146), some (.int (nI w)), some (.int (nI (pcN (s - 1) 1))), some (.int (cL σ (dcT (s - 1) 1 i T0))), some (.int ((mfC (cL σ) s i).2 + (1 : Int32))), some (.int (nI i)), some (.int (cL σ (dcT (s - 1) 1 i T0)))] _ _
              refine st_go hK rfl rfl ?_
              rw [nI_1]
              refine st_go hK rfl rfl ?_
              have hh := ih (i + 1) ξ2 (dcT (s - 1) 1 i T0) (some (.int (cL σ (dcT (s - 1) 1 i T0)))) (by omega) ((hR.trans hR1).trans hT2.1.tq.mr) (hT2.1.tq.mw mw1) (by rw [hT2.1.tq.mve]; exact te1) (fun x hx => by rw [hT2.1.1 154 (by decide) (by decide), h154, h154, h154, h154]; exact has x hx)
              unfold cnt at ms
              rw [ms] at hh
              first
                | exact absurd c96 c128
                | exact absurd c128 c96
                | (rw [if_pos (Or.inr (Int32.not_le.mp c96))] at hh
                   exact hh)
                | (rw [if_neg (fun z => z.elim hp2 (fun q => absurd q (Int32.not_lt.mpr c96))), if_neg c106] at hh
                   exact hh)
                | (rw [if_neg (fun z => z.elim hp2 (fun q => absurd q (Int32.not_lt.mpr c96))), if_pos (Decidable.not_not.mp c106)] at hh
                   exact hh)
        · refine st_go hK rfl rfl ?_
          refine st_go hK rfl rfl ?_
          refine st_go hK rfl rfl ?_
          change K _ [some (.ref 146), some (.int (nI w)), some (.int (nI (pcN (s - 1) 1))), some (.int ((mfC (cL σ) s i).1)), some (.int (1 : Int32)), some (.int (nI i)), some (.int (cL σ (dcT (s - 1) 1 i T0)))] _ _
          refine st_go hK rfl rfl ?_
          refine st_ifn hK rfl rfl (nI_eq (a := i) (b := 0) (by omega) (by omega)) (fun c => absurd c hi0) (fun _ => ?_)
          refine st_go hK rfl rfl ?_
          refine st_go hK rfl rfl ?_
          refine st_if hK rfl rfl (fun c128 => ?_) (fun c128 => ?_)
          · refine st_go hK rfl rfl ?_
            refine st_go hK rfl rfl ?_
            change K _ [some (.ref 146), some (.int (nI w)), some (.int (nI (pcN (s - 1) 1))), some (.int ((mfC (cL σ) s i).1)), some (.int (1 : Int32)), some (.int (nI i)), some (.int (cL σ (dcT (s - 1) 1 i T0)))] _ _
            refine st_go hK rfl rfl ?_
            rw [nI_1]
            refine st_go hK rfl rfl ?_
            have hh := ih (i + 1) ξ2 (dcT (s - 1) 1 i T0) (some (.int (cL σ (dcT (s - 1) 1 i T0)))) (by omega) ((hR.trans hR1).trans hT2.1.tq.mr) (hT2.1.tq.mw mw1) (by rw [hT2.1.tq.mve]; exact te1) (fun x hx => by rw [hT2.1.1 154 (by decide) (by decide), h154, h154, h154, h154]; exact has x hx)
            unfold cnt at ms
            rw [ms] at hh
            first
              | exact absurd c96 c128
              | exact absurd c128 c96
              | (rw [if_pos (Or.inr (Int32.not_le.mp c96))] at hh
                 exact hh)
              | (rw [if_neg (fun z => z.elim hp2 (fun q => absurd q (Int32.not_lt.mpr c96))), if_neg c106] at hh
                 exact hh)
              | (rw [if_neg (fun z => z.elim hp2 (fun q => absurd q (Int32.not_lt.mpr c96))), if_pos (Decidable.not_not.mp c106)] at hh
                 exact hh)
          · refine st_go hK rfl rfl ?_
            refine st_go hK rfl rfl ?_
            refine st_go hK rfl rfl ?_
            change K _ [some (.ref 146), some (.int (nI w)), some (.int (nI (pcN (s - 1) 1))), some (.int (cL σ (dcT (s - 1) 1 i T0))), some (.int (1 : Int32)), some (.int (nI i)), some (.int (cL σ (dcT (s - 1) 1 i T0)))] _ _
            refine st_go hK rfl rfl ?_
            rw [nI_1]
            refine st_go hK rfl rfl ?_
            have hh := ih (i + 1) ξ2 (dcT (s - 1) 1 i T0) (some (.int (cL σ (dcT (s - 1) 1 i T0)))) (by omega) ((hR.trans hR1).trans hT2.1.tq.mr) (hT2.1.tq.mw mw1) (by rw [hT2.1.tq.mve]; exact te1) (fun x hx => by rw [hT2.1.1 154 (by decide) (by decide), h154, h154, h154, h154]; exact has x hx)
            unfold cnt at ms
            rw [ms] at hh
            first
              | exact absurd c96 c128
              | exact absurd c128 c96
              | (rw [if_pos (Or.inr (Int32.not_le.mp c96))] at hh
                 exact hh)
              | (rw [if_neg (fun z => z.elim hp2 (fun q => absurd q (Int32.not_lt.mpr c96))), if_neg c106] at hh
                 exact hh)
              | (rw [if_neg (fun z => z.elim hp2 (fun q => absurd q (Int32.not_lt.mpr c96))), if_pos (Decidable.not_not.mp c106)] at hh
                 exact hh)
  have lc : ∀ m q, q + 1 + m = s → K 36 [some (.ref 146), some (.int (nI w)), some (.int (nI (pqN q))), some (.int (nI (q + 1))), none, none, none] [] (cw_B υ lam) := by
    intro m
    induction m with
    | zero =>
      intro q hq
      have eq : pqN q = pcN (s - 1) 1 := by
        rw [← pq_pc h1 h6]
        congr 1
        omega
      rw [eq]
      refine st_go hK rfl rfl ?_
      refine st_go hK rfl rfl ?_
      refine gi (v := nI s) hK rfl qf_146_1 hM.1 ?_
      refine st_ifn hK rfl rfl (nI_leI (a := s) (b := q + 1) (by omega) (by omega)) (fun _ => ?_) (fun c => absurd (by omega) c)
      refine st_go hK rfl rfl ?_
      refine cv0 hK rfl qc_146 (Nat.le_of_ble_eq_true rfl) ?_
      refine z_laysAside (fun ξ0 hA => ?_)
      change K _ _ _ _
      refine st_go hK rfl rfl ?_
      refine st_go hK rfl rfl ?_
      change K _ [some (.ref 146), some (.int (nI w)), some (.int (nI (pcN (s - 1) 1))), some (.int (0 : Int32)), _, _, _] _ _
      refine st_go hK rfl rfl ?_
      refine st_go hK rfl rfl ?_
      change K _ [some (.ref 146), some (.int (nI w)), some (.int (nI (pcN (s - 1) 1))), some (.int (0 : Int32)), some (.int (0 : Int32)), _, _] _ _
      refine st_go hK rfl rfl ?_
      refine st_go hK rfl rfl ?_
      change K _ [some (.ref 146), some (.int (nI w)), some (.int (nI (pcN (s - 1) 1))), some (.int (0 : Int32)), some (.int (0 : Int32)), some (.int (0 : Int32)), _] _ _
      exact loop (pcN (s - 1) 1) 0 ξ0 (σ 7, σ 8, σ 9) none (by omega) hA.mr (hM.cg (by rw [hA.1 146 (by decide)]) (fun p h1 h2 => hA.1 p (by omega))) ((te_rows te hA.mr (fun _ _ => rfl) (fun x hx => by rw [hA.1 151 (by decide)]; exact y1 x hx) (fun x hx => by rw [hA.1 152 (by decide)]; exact y2 x hx) (fun x hx => by rw [hA.1 153 (by decide)]; exact y3 x hx)).trans teT0) hA.2
    | succ m ih =>
      intro q hq
      refine st_go hK rfl rfl ?_
      refine st_go hK rfl rfl ?_
      refine gi (v := nI s) hK rfl qf_146_1 hM.1 ?_
      refine st_ifn hK rfl rfl (nI_leI (a := s) (b := q + 1) (by omega) (by omega)) (fun c => absurd c (by omega)) (fun _ => ?_)
      refine st_go hK rfl rfl ?_
      refine st_go hK rfl rfl ?_
      refine st_go hK rfl rfl ?_
      refine bnv hK rfl (show _ = nI (2 * (q + 1)) from nI_mul 2 (q + 1)) ?_
      refine st_go hK rfl rfl ?_
      refine bnv (v := nI (2 * q + 1)) hK rfl ((nI_sub (a := 2 * (q + 1)) (b := 1) (by omega)).trans (congrArg nI (by omega))) ?_
      refine bnv hK rfl (show _ = nI ((pqN q) * (2 * q + 1)) from nI_mul (pqN q) (2 * q + 1)) ?_
      refine st_go hK rfl rfl ?_
      change K _ [some (.ref 146), some (.int (nI w)), some (.int (nI ((pqN q) * (2 * q + 1)))), some (.int (nI (q + 1))), _, _, _] _ _
      refine st_go hK rfl rfl ?_
      rw [nI_1]
      refine st_go hK rfl rfl ?_
      exact ih (q + 1) (by omega)
  refine st_go hK rfl rfl ?_
  refine st_go hK rfl rfl ?_
  refine st_go hK rfl rfl ?_
  refine cs3 hK rfl (Nat.le_of_ble_eq_true rfl) ?_
  refine z_min (fun _ => ?_) (fun c => absurd hw01 c)
  change K _ _ (_ :: _) _
  refine st_if hK rfl rfl (fun _ => ?_) (fun c => absurd (by decide) c)
  refine st_go hK rfl rfl ?_
  refine gi (v := nI s) hK rfl qf_146_1 hM.1 ?_
  refine st_go hK rfl rfl ?_
  refine st_go hK rfl rfl ?_
  refine cs3 hK rfl (Nat.le_of_ble_eq_true rfl) ?_
  refine z_min (fun _ => ?_) (fun c => absurd hs c)
  change K _ _ (_ :: _) _
  refine st_if hK rfl rfl (fun _ => ?_) (fun c => absurd (by decide) c)
  refine st_go hK rfl rfl ?_
  refine st_go hK rfl rfl ?_
  change K _ [some (.ref 146), some (.int (nI w)), some (.int (1 : Int32)), _, _, _, _] _ _
  refine st_go hK rfl rfl ?_
  refine st_go hK rfl rfl ?_
  change K _ [some (.ref 146), some (.int (nI w)), some (.int (1 : Int32)), some (.int (1 : Int32)), _, _, _] _ _
  exact lc (s - 1) 0 (by omega)
end
section
variable {d : Nat} {w : Int32}
theorem sim_least : SimI (d + 16) m_CW_least m_Mo_least [.int w] := by
  intro σ lam ⟨s, nx, c, n, hI⟩
  have g := hI.1.1
  have mw := hI.2.1.1
  have te := hI.2.1.2.1
  have es : σ 1 8 = nI s := g.1.1
  have h8 : s ≤ 8 := g.1.2.1
  obtain ⟨⟨hnx, hc, h661, h662, h13⟩, hh⟩ := hI.2.2.2.1
  have md := hI.1.2.1
  have pd := hI.1.2.2.1
  have vr : VR (mv σ) 1 s := te.vr h8 g.2.1
  have lk := hI.1.2.2.2
  by_cases hw : 0 ≤ w ∧ w ≤ 1
  · obtain ⟨j, hj, rfl⟩ := (nI_rg (M := 1) (n := 1) rfl (by decide)).mp hw
    by_cases hs : 1 ≤ s ∧ s ≤ 6
    · obtain ⟨h1, h6⟩ := hs
      rcases (show j = 0 ∨ j = 1 by omega) with rfl | rfl
      · skip
        refine zi (L := [some (.ref 0), some (.int (0 : Int32))]) rfl rfl (fun K hK => ?_)
        refine st_go hK rfl rfl ?_
        refine st_if hK rfl rfl (fun _ => ?_) (fun c => absurd (by decide) c)
        refine st_go hK rfl rfl ?_
        refine st_getr hK rfl qf_0_0 ?_
        refine gi (v := nI s) hK rfl qf_1_8 es ?_
        refine st_ifn hK rfl rfl (nI_eq (a := s) (b := 0) (by omega) (by omega)) (fun c => absurd c (by omega)) (fun _ => ?_)
        refine st_go hK rfl rfl ?_
        refine st_getr hK rfl qf_0_0 ?_
        refine gi (v := nI s) hK rfl qf_1_8 es ?_
        refine st_go hK rfl rfl ?_
        refine st_ifn hK rfl rfl (nI_leI (a := s) (b := 6) (by omega) (by omega)) (fun _ => ?_) (fun c => absurd (by omega) c)
        refine st_go hK rfl rfl ?_
        refine st_getr hK rfl qf_0_3 ?_
        refine st_go hK rfl rfl ?_
        refine st_getr hK rfl qf_0_0 ?_
        refine cv1 hK rfl qc_36 (Nat.le_of_ble_eq_true rfl) ?_
        rw [show d + 15 = d + (10 - s) + (s - 1) + 6 by omega]
        refine z_findLeast g.1 h1 h6 lk (fun τ hf h362 hgw => ?_)
        obtain ⟨x, hx⟩ := hgw
        rw [least_eq h1 h6] at hx
        have hL : LK τ s := Or.inr ⟨h362, by omega, h6, x, by rw [hx, vT_cg (fun p hp => hf p (by omega))]; exact (least_eq h1 h6 x).symm⟩
        have hI2 := hI.lk hf hL
        have e3 : τ 36 3 = (mfC (cL σ) s (pcN (s - 1) 1)).1 := congrArg Prod.fst hx
        have e4 : τ 36 4 = (mfC (cL σ) s (pcN (s - 1) 1)).2 := congrArg Prod.snd hx
        change K _ _ _ _
        refine st_go hK rfl rfl ?_
        refine st_if hK rfl rfl (fun c => absurd c (by decide)) (fun _ => ?_)
        refine st_go hK rfl rfl ?_
        refine st_getr hK rfl qf_0_3 ?_
        refine gi (v := (mfC (cL σ) s (pcN (s - 1) 1)).1) hK rfl qf_36_3 e3 ?_
        refine st_go hK rfl rfl ?_
        refine st_ret hK rfl rfl ?_
        obtain ⟨mw2, te2, l2, k2, mv2⟩ := hI.mf (τ := τ) (fun p hp => hf p (by omega))
        refine z_mleast (w := 0) (by omega) g.1 h1 h6 mw2 te2 (fun υ hR mwu teu => ?_)
        exact Res.mk (hI2.mr hR mwu (teu.trans (te_of (fun j hj => hf _ (by omega))).symm))
      · skip
        refine zi (L := [some (.ref 0), some (.int (1 : Int32))]) rfl rfl (fun K hK => ?_)
        refine st_go hK rfl rfl ?_
        refine st_if hK rfl rfl (fun c => absurd c (by decide)) (fun _ => ?_)
        refine st_go hK rfl rfl ?_
        refine st_go hK rfl rfl ?_
        refine st_if hK rfl rfl (fun _ => ?_) (fun c => absurd (by decide) c)
        refine st_go hK rfl rfl ?_
        refine st_getr hK rfl qf_0_0 ?_
        refine gi (v := nI s) hK rfl qf_1_8 es ?_
        refine st_ifn hK rfl rfl (nI_eq (a := s) (b := 0) (by omega) (by omega)) (fun c => absurd c (by omega)) (fun _ => ?_)
        refine st_go hK rfl rfl ?_
        refine st_getr hK rfl qf_0_0 ?_
        refine gi (v := nI s) hK rfl qf_1_8 es ?_
        refine st_go hK rfl rfl ?_
        refine st_ifn hK rfl rfl (nI_leI (a := s) (b := 6) (by omega) (by omega)) (fun _ => ?_) (fun c => absurd (by omega) c)
        refine st_go hK rfl rfl ?_
        refine st_getr hK rfl qf_0_3 ?_
        refine st_go hK rfl rfl ?_
        refine st_getr hK rfl qf_0_0 ?_
        refine cv1 hK rfl qc_36 (Nat.le_of_ble_eq_true rfl) ?_
        rw [show d + 15 = d + (10 - s) + (s - 1) + 6 by omega]
        refine z_findLeast g.1 h1 h6 lk (fun τ hf h362 hgw => ?_)
        obtain ⟨x, hx⟩ := hgw
        rw [least_eq h1 h6] at hx
        have hL : LK τ s := Or.inr ⟨h362, by omega, h6, x, by rw [hx, vT_cg (fun p hp => hf p (by omega))]; exact (least_eq h1 h6 x).symm⟩
        have hI2 := hI.lk hf hL
        have e3 : τ 36 3 = (mfC (cL σ) s (pcN (s - 1) 1)).1 := congrArg Prod.fst hx
        have e4 : τ 36 4 = (mfC (cL σ) s (pcN (s - 1) 1)).2 := congrArg Prod.snd hx
        change K _ _ _ _
        refine st_go hK rfl rfl ?_
        refine st_if hK rfl rfl (fun _ => ?_) (fun c => absurd (by decide) c)
        refine st_go hK rfl rfl ?_
        refine st_getr hK rfl qf_0_3 ?_
        refine gi (v := (mfC (cL σ) s (pcN (s - 1) 1)).2) hK rfl qf_36_4 e4 ?_
        refine st_ret hK rfl rfl ?_
        obtain ⟨mw2, te2, l2, k2, mv2⟩ := hI.mf (τ := τ) (fun p hp => hf p (by omega))
        refine z_mleast (w := 1) (by omega) g.1 h1 h6 mw2 te2 (fun υ hR mwu teu => ?_)
        exact Res.mk (hI2.mr hR mwu (teu.trans (te_of (fun j hj => hf _ (by omega))).symm))
    · skip
      rcases (show j = 0 ∨ j = 1 by omega) with rfl | rfl
      · skip
        refine zi (L := [some (.ref 0), some (.int (0 : Int32))]) rfl rfl (fun K hK => ?_)
        refine st_go hK rfl rfl ?_
        refine st_if hK rfl rfl (fun _ => ?_) (fun c => absurd (by decide) c)
        refine st_go hK rfl rfl ?_
        refine st_getr hK rfl qf_0_0 ?_
        refine gi (v := nI s) hK rfl qf_1_8 es ?_
        refine st_ifn hK rfl rfl (nI_eq (a := s) (b := 0) (by omega) (by omega)) (fun c23 => ?_) (fun c23 => ?_)
        · refine st_go hK rfl rfl ?_
          refine st_go hK rfl rfl ?_
          refine cv1 hK rfl qc_0 (Nat.le_of_ble_eq_true rfl) ?_
          refine z_rno ?_
          change K _ _ (_ :: _) _
          refine st_ret hK rfl rfl ?_
          obtain ⟨mw2, te2, l2, k2, mv2⟩ := hI.mf (τ := (cw_up σ 0 7 (σ 0 7 + 1))) (fun p hp => up_ne (by omega))
          refine zi (L := [some (.ref 146), some (.int (0 : Int32)), none, none, none, none, none]) rfl rfl (fun K2 hK2 => ?_)
          refine st_go hK2 rfl rfl ?_
          refine st_go hK2 rfl rfl ?_
          refine st_go hK2 rfl rfl ?_
          refine cs3 hK2 rfl (Nat.le_of_ble_eq_true rfl) ?_
          refine z_min (fun _ => ?_) (fun c => absurd hw c)
          change K2 _ _ (_ :: _) _
          refine st_if hK2 rfl rfl (fun _ => ?_) (fun c => absurd (by decide) c)
          refine st_go hK2 rfl rfl ?_
          refine gi (v := nI s) hK2 rfl qf_146_1 mw2.1 ?_
          refine st_go hK2 rfl rfl ?_
          refine st_go hK2 rfl rfl ?_
          refine cs3 hK2 rfl (Nat.le_of_ble_eq_true rfl) ?_
          refine z_min (fun c => absurd ⟨(nI_leI (a := 1) (b := s) (by omega) (by omega)).mp c.1, (nI_leI (a := s) (b := 6) (by omega) (by omega)).mp c.2⟩ hs) (fun _ => ?_)
          change K2 _ _ (_ :: _) _
          refine st_if hK2 rfl rfl (fun c => absurd c (by decide)) (fun _ => ?_)
          refine st_go hK2 rfl rfl ?_
          refine cv0 hK2 rfl qc_146 (Nat.le_of_ble_eq_true rfl) ?_
          refine z_mno ?_
          change K2 _ _ (_ :: _) _
          refine st_ret hK2 rfl rfl ?_
          exact Res.mk (hI.err (k := 1) (by decide))
        · refine st_go hK rfl rfl ?_
          refine st_getr hK rfl qf_0_0 ?_
          refine gi (v := nI s) hK rfl qf_1_8 es ?_
          refine st_go hK rfl rfl ?_
          refine st_ifn hK rfl rfl (nI_leI (a := s) (b := 6) (by omega) (by omega)) (fun c => absurd c (by omega)) (fun _ => ?_)
          refine st_go hK rfl rfl ?_
          refine st_go hK rfl rfl ?_
          refine cv1 hK rfl qc_0 (Nat.le_of_ble_eq_true rfl) ?_
          refine z_rno ?_
          change K _ _ (_ :: _) _
          refine st_ret hK rfl rfl ?_
          obtain ⟨mw2, te2, l2, k2, mv2⟩ := hI.mf (τ := (cw_up σ 0 7 (σ 0 7 + 1))) (fun p hp => up_ne (by omega))
          refine zi (L := [some (.ref 146), some (.int (0 : Int32)), none, none, none, none, none]) rfl rfl (fun K2 hK2 => ?_)
          refine st_go hK2 rfl rfl ?_
          refine st_go hK2 rfl rfl ?_
          refine st_go hK2 rfl rfl ?_
          refine cs3 hK2 rfl (Nat.le_of_ble_eq_true rfl) ?_
          refine z_min (fun _ => ?_) (fun c => absurd hw c)
          change K2 _ _ (_ :: _) _
          refine st_if hK2 rfl rfl (fun _ => ?_) (fun c => absurd (by decide) c)
          refine st_go hK2 rfl rfl ?_
          refine gi (v := nI s) hK2 rfl qf_146_1 mw2.1 ?_
          refine st_go hK2 rfl rfl ?_
          refine st_go hK2 rfl rfl ?_
          refine cs3 hK2 rfl (Nat.le_of_ble_eq_true rfl) ?_
          refine z_min (fun c => absurd ⟨(nI_leI (a := 1) (b := s) (by omega) (by omega)).mp c.1, (nI_leI (a := s) (b := 6) (by omega) (by omega)).mp c.2⟩ hs) (fun _ => ?_)
          change K2 _ _ (_ :: _) _
          refine st_if hK2 rfl rfl (fun c => absurd c (by decide)) (fun _ => ?_)
          refine st_go hK2 rfl rfl ?_
          refine cv0 hK2 rfl qc_146 (Nat.le_of_ble_eq_true rfl) ?_
          refine z_mno ?_
          change K2 _ _ (_ :: _) _
          refine st_ret hK2 rfl rfl ?_
          exact Res.mk (hI.err (k := 1) (by decide))
      · skip
        refine zi (L := [some (.ref 0), some (.int (1 : Int32))]) rfl rfl (fun K hK => ?_)
        refine st_go hK rfl rfl ?_
        refine st_if hK rfl rfl (fun c => absurd c (by decide)) (fun _ => ?_)
        refine st_go hK rfl rfl ?_
        refine st_go hK rfl rfl ?_
        refine st_if hK rfl rfl (fun _ => ?_) (fun c => absurd (by decide) c)
        refine st_go hK rfl rfl ?_
        refine st_getr hK rfl qf_0_0 ?_
        refine gi (v := nI s) hK rfl qf_1_8 es ?_
        refine st_ifn hK rfl rfl (nI_eq (a := s) (b := 0) (by omega) (by omega)) (fun c23 => ?_) (fun c23 => ?_)
        · refine st_go hK rfl rfl ?_
          refine st_go hK rfl rfl ?_
          refine cv1 hK rfl qc_0 (Nat.le_of_ble_eq_true rfl) ?_
          refine z_rno ?_
          change K _ _ (_ :: _) _
          refine st_ret hK rfl rfl ?_
          obtain ⟨mw2, te2, l2, k2, mv2⟩ := hI.mf (τ := (cw_up σ 0 7 (σ 0 7 + 1))) (fun p hp => up_ne (by omega))
          refine zi (L := [some (.ref 146), some (.int (1 : Int32)), none, none, none, none, none]) rfl rfl (fun K2 hK2 => ?_)
          refine st_go hK2 rfl rfl ?_
          refine st_go hK2 rfl rfl ?_
          refine st_go hK2 rfl rfl ?_
          refine cs3 hK2 rfl (Nat.le_of_ble_eq_true rfl) ?_
          refine z_min (fun _ => ?_) (fun c => absurd hw c)
          change K2 _ _ (_ :: _) _
          refine st_if hK2 rfl rfl (fun _ => ?_) (fun c => absurd (by decide) c)
          refine st_go hK2 rfl rfl ?_
          refine gi (v := nI s) hK2 rfl qf_146_1 mw2.1 ?_
          refine st_go hK2 rfl rfl ?_
          refine st_go hK2 rfl rfl ?_
          refine cs3 hK2 rfl (Nat.le_of_ble_eq_true rfl) ?_
          refine z_min (fun c => absurd ⟨(nI_leI (a := 1) (b := s) (by omega) (by omega)).mp c.1, (nI_leI (a := s) (b := 6) (by omega) (by omega)).mp c.2⟩ hs) (fun _ => ?_)
          change K2 _ _ (_ :: _) _
          refine st_if hK2 rfl rfl (fun c => absurd c (by decide)) (fun _ => ?_)
          refine st_go hK2 rfl rfl ?_
          refine cv0 hK2 rfl qc_146 (Nat.le_of_ble_eq_true rfl) ?_
          refine z_mno ?_
          change K2 _ _ (_ :: _) _
          refine st_ret hK2 rfl rfl ?_
          exact Res.mk (hI.err (k := 1) (by decide))
        · refine st_go hK rfl rfl ?_
          refine st_getr hK rfl qf_0_0 ?_
          refine gi (v := nI s) hK rfl qf_1_8 es ?_
          refine st_go hK rfl rfl ?_
          refine st_ifn hK rfl rfl (nI_leI (a := s) (b := 6) (by omega) (by omega)) (fun c => absurd c (by omega)) (fun _ => ?_)
          refine st_go hK rfl rfl ?_
          refine st_go hK rfl rfl ?_
          refine cv1 hK rfl qc_0 (Nat.le_of_ble_eq_true rfl) ?_
          refine z_rno ?_
          change K _ _ (_ :: _) _
          refine st_ret hK rfl rfl ?_
          obtain ⟨mw2, te2, l2, k2, mv2⟩ := hI.mf (τ := (cw_up σ 0 7 (σ 0 7 + 1))) (fun p hp => up_ne (by omega))
          refine zi (L := [some (.ref 146), some (.int (1 : Int32)), none, none, none, none, none]) rfl rfl (fun K2 hK2 => ?_)
          refine st_go hK2 rfl rfl ?_
          refine st_go hK2 rfl rfl ?_
          refine st_go hK2 rfl rfl ?_
          refine cs3 hK2 rfl (Nat.le_of_ble_eq_true rfl) ?_
          refine z_min (fun _ => ?_) (fun c => absurd hw c)
          change K2 _ _ (_ :: _) _
          refine st_if hK2 rfl rfl (fun _ => ?_) (fun c => absurd (by decide) c)
          refine st_go hK2 rfl rfl ?_
          refine gi (v := nI s) hK2 rfl qf_146_1 mw2.1 ?_
          refine st_go hK2 rfl rfl ?_
          refine st_go hK2 rfl rfl ?_
          refine cs3 hK2 rfl (Nat.le_of_ble_eq_true rfl) ?_
          refine z_min (fun c => absurd ⟨(nI_leI (a := 1) (b := s) (by omega) (by omega)).mp c.1, (nI_leI (a := s) (b := 6) (by omega) (by omega)).mp c.2⟩ hs) (fun _ => ?_)
          change K2 _ _ (_ :: _) _
          refine st_if hK2 rfl rfl (fun c => absurd c (by decide)) (fun _ => ?_)
          refine st_go hK2 rfl rfl ?_
          refine cv0 hK2 rfl qc_146 (Nat.le_of_ble_eq_true rfl) ?_
          refine z_mno ?_
          change K2 _ _ (_ :: _) _
          refine st_ret hK2 rfl rfl ?_
          exact Res.mk (hI.err (k := 1) (by decide))
  · have w0 : ¬ w = 0 := fun z => hw (by rw [z]; decide)
    have w1 : ¬ w = 1 := fun z => hw (by rw [z]; decide)
    refine zi (L := [some (.ref 0), some (.int w)]) rfl rfl (fun K hK => ?_)
    refine st_go hK rfl rfl ?_
    refine st_if hK rfl rfl (fun c => absurd c w0) (fun _ => ?_)
    refine st_go hK rfl rfl ?_
    refine st_go hK rfl rfl ?_
    refine st_if hK rfl rfl (fun c => absurd c w1) (fun _ => ?_)
    refine st_go hK rfl rfl ?_
    refine st_go hK rfl rfl ?_
    refine cv1 hK rfl qc_0 (Nat.le_of_ble_eq_true rfl) ?_
    refine z_rbad ?_
    change K _ _ (_ :: _) _
    refine st_ret hK rfl rfl ?_
    obtain ⟨mw2, te2, l2, k2, mv2⟩ := hI.mf (τ := (cw_up σ 0 6 (σ 0 6 + 1))) (fun p hp => up_ne (by omega))
    refine zi (L := [some (.ref 146), some (.int w), none, none, none, none, none]) rfl rfl (fun K2 hK2 => ?_)
    refine st_go hK2 rfl rfl ?_
    refine st_go hK2 rfl rfl ?_
    refine st_go hK2 rfl rfl ?_
    refine cs3 hK2 rfl (Nat.le_of_ble_eq_true rfl) ?_
    refine z_min (fun c => absurd c hw) (fun _ => ?_)
    change K2 _ _ (_ :: _) _
    refine st_if hK2 rfl rfl (fun c => absurd c (by decide)) (fun _ => ?_)
    refine st_go hK2 rfl rfl ?_
    refine cv0 hK2 rfl qc_146 (Nat.le_of_ble_eq_true rfl) ?_
    refine z_mbad ?_
    change K2 _ _ (_ :: _) _
    refine st_ret hK2 rfl rfl ?_
    exact Res.mk (hI.err (k := 0) (by decide))
end
