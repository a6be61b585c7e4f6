/-- the nearest pair among the first tc of the list -/
def npS (U : Int32 → Nat → Int32) (sk : Int32) (x y : Int32) (s : Int32 × Int32) : Int32 × Int32 := if s.1 = -1 ∨ spanF (U x) (U y) sk < s.2 then (16 * x + y, spanF (U x) (U y) sk) else s
def np2 (U : Int32 → Nat → Int32) (sk : Int32) (D : List Int32) (i : Nat) : Nat → Nat → Int32 × Int32 → Int32 × Int32
  | 0, _, s => s
  | m + 1, j, s => np2 U sk D i m (j + 1) (npS U sk (D.getD i 0) (D.getD j 0) s)
def np1 (U : Int32 → Nat → Int32) (sk : Int32) (D : List Int32) (tc : Nat) : Nat → Nat → Int32 × Int32 → Int32 × Int32
  | 0, _, s => s
  | m + 1, i, s => np1 U sk D tc m (i + 1) (np2 U sk D i (tc - (i + 1)) (i + 1) s)
section
variable {d w t : Nat} {σ : cw_V} {lam : Nat → Int64} {Q : cw_Q} {U : Int32 → Nat → Int32}
theorem z_nearestPair {D : List Int32} {tc : Nat} (hw : isW w) (ht : isT t) (htc : tc ≤ 15) (h5 : σ w 5 = nI tc) (hl : ∀ j, j < tc → σ (w + 4) j = D.getD j 0) (hin : ∀ k, k < tc → cw_in (D.getD k 0) 15 = true) (hU : ∀ k, k < tc → ev9 (σ (pp w (D.getD k 0))) (U (D.getD k 0)))
    (kk : ∀ τ, (∀ p, p ≠ w + 3 → τ p = σ p) → Q (some (.int (np1 U (skT σ t) D tc tc 0 (-1, 0)).1)) (cw_B τ lam)) : cw_Z (d + 3) m_Wires_nearestPair [.ref w, .ref t] (cw_B σ lam) Q := by
  refine zi (L := [some (.ref w), some (.ref t), none, none, none, none, none]) rfl rfl (fun K hK => ?_)
  have loop1 : ∀ m i τ (x6 : Option Value) (s : Int32 × Int32), i + m = tc → (∀ p, p ≠ w + 3 → τ p = σ p) → np1 U (skT σ t) D tc m i s = np1 U (skT σ t) D tc tc 0 (-1, 0) → K 16 [some (.ref w), some (.ref t), some (.int (skT σ t)), some (.int s.1), some (.int s.2), some (.int (nI i)), x6] [] (cw_B τ lam) := by
    intro m
    induction m with
    | zero =>
      intro i τ x6 s hi hτ e
      refine st_go hK rfl rfl ?_
      refine st_go hK rfl rfl ?_
      refine st_geti hK rfl (Wires_f5 hw) ?_
      rw [hτ w (by omega), h5]
      refine st_if hK rfl rfl (fun _ => ?_) (fun c => absurd ((nI_leI (by omega) (by omega)).mpr (by omega)) c)
      refine st_go hK rfl rfl ?_
      refine st_ret hK rfl rfl ?_
      have := kk τ hτ
      rw [← e] at this
      exact this
    | succ m ih =>
      intro i τ x6 s hi hτ e
      refine st_go hK rfl rfl ?_
      refine st_go hK rfl rfl ?_
      refine st_geti hK rfl (Wires_f5 hw) ?_
      rw [hτ w (by omega), h5]
      refine st_if hK rfl rfl (fun c => absurd ((nI_leI (by omega) (by omega)).mp c) (by omega)) (fun _ => ?_)
      refine st_go hK rfl rfl ?_
      refine st_go hK rfl rfl ?_
      refine st_if hK rfl rfl (fun c => absurd (yle (a := 15) (i := i) (by decide) (by omega) c) (by omega)) (fun _ => ?_)
      refine st_go hK rfl rfl ?_
      refine st_go hK rfl rfl ?_
      refine st_bin hK rfl ?_
      rw [nI_1]
      refine st_go hK rfl rfl ?_
      have e' : np1 U (skT σ t) D tc m (i + 1) (np2 U (skT σ t) D i (tc - (i + 1)) (i + 1) s) = np1 U (skT σ t) D tc tc 0 (-1, 0) := e
      have loop2 : ∀ q j τ (s : Int32 × Int32), j + q = tc → i < j → (∀ p, p ≠ w + 3 → τ p = σ p) → np1 U (skT σ t) D tc m (i + 1) (np2 U (skT σ t) D i q j s) = np1 U (skT σ t) D tc tc 0 (-1, 0) → K 38 [some (.ref w), some (.ref t), some (.int (skT σ t)), some (.int s.1), some (.int s.2), some (.int (nI i)), some (.int (nI j))] [] (cw_B τ lam) := by
        intro q
        induction q with
        | zero =>
          intro j τ s hj hij hτ e
          refine st_go hK rfl rfl ?_
          refine st_go hK rfl rfl ?_
          refine st_geti hK rfl (Wires_f5 hw) ?_
          rw [hτ w (by omega), h5]
          refine st_if hK rfl rfl (fun _ => ?_) (fun c => absurd ((nI_leI (by omega) (by omega)).mpr (by omega)) c)
          refine st_go hK rfl rfl ?_
          refine st_go hK rfl rfl ?_
          have := ih (i + 1) τ (some (.int (nI j))) s (by omega) hτ e
          rw [← nI_1] at this
          exact this
        | succ q ih2 =>
          intro j τ s hj hij hτ e
          have rD : ∀ k, k < tc → k < 2 ^ 31 → τ (w + 4) (nI k).toNatClampNeg = D.getD k 0 := fun k hk h31 => by rw [nI_clamp h31, hτ (w + 4) (by omega), hl k hk]
          have hinI := hin i (by omega)
          have hinJ := hin j (by omega)
          have hPi := isP_of hw hinI
          have hPj := isP_of hw hinJ
          refine st_go hK rfl rfl ?_
          refine st_go hK rfl rfl ?_
          refine st_geti hK rfl (Wires_f5 hw) ?_
          rw [hτ w (by omega), h5]
          refine st_if hK rfl rfl (fun c => absurd ((nI_leI (by omega) (by omega)).mp c) (by omega)) (fun _ => ?_)
          refine st_go hK rfl rfl ?_
          refine st_go hK rfl rfl ?_
          refine st_if hK rfl rfl (fun c => absurd (yle (a := 15) (i := j) (by decide) (by omega) c) (by omega)) (fun _ => ?_)
          refine st_go hK rfl rfl ?_
          refine st_getr hK rfl (Wires_f2 hw) ?_
          refine st_go hK rfl rfl ?_
          refine st_go hK rfl rfl ?_
          refine st_getr hK rfl (Wires_f3 hw) ?_
          refine st_go hK rfl rfl ?_
          refine st_iald hK rfl (Wires_a3 hw) (cw_in_nI (n := 15) (by omega) (by decide)) ?_
          refine cv1 hK rfl (Wires_c hw) (Nat.le_of_ble_eq_true rfl) ?_
          rw [rD i (by omega) (by omega)]
          refine z_part hw hinI ?_
          change K _ _ (_ :: _) _
          refine st_go hK rfl rfl ?_
          refine st_go hK rfl rfl ?_
          refine st_getr hK rfl (Wires_f3 hw) ?_
          refine st_go hK rfl rfl ?_
          refine st_iald hK rfl (Wires_a3 hw) (cw_in_nI (n := 15) (by omega) (by decide)) ?_
          refine cv1 hK rfl (Wires_c hw) (Nat.le_of_ble_eq_true rfl) ?_
          rw [rD j (by omega) (by omega)]
          refine z_part hw hinJ ?_
          change K _ _ (_ :: _) _
          refine st_go hK rfl rfl ?_
          refine cv3 hK rfl (Merge_c (isM_of hw)) (Nat.le_of_ble_eq_true rfl) ?_
          refine z_weigh (isM_of hw) hPi hPj ?_
          change K _ _ _ _
          have lpi := pp_lt (w := w) hinI
          have lpj := pp_lt (w := w) hinJ
          have esp : spanF (τ (pp w (D.getD i 0))) (τ (pp w (D.getD j 0))) (skT σ t) = spanF (U (D.getD i 0)) (U (D.getD j 0)) (skT σ t) := by
            rw [hτ _ (by omega), hτ _ (by omega)]
            exact span_congr (hU i (by omega)).six (hU j (by omega)).six
          have e1 : wgF τ (w + 3) (pp w (D.getD i 0)) (pp w (D.getD j 0)) (skT σ t) (w + 3) 1 = spanF (U (D.getD i 0)) (U (D.getD j 0)) (skT σ t) := by rw [wgF_1, esp]
          have h2 : ∀ p, p ≠ w + 3 → wgF τ (w + 3) (pp w (D.getD i 0)) (pp w (D.getD j 0)) (skT σ t) p = σ p := fun p hp => by rw [wgF_ne hp, hτ p hp]
          change K 84 _ _ (cw_B (wgF τ (w + 3) (pp w (D.getD i 0)) (pp w (D.getD j 0)) (skT σ t)) lam)
          generalize wgF τ (w + 3) (pp w (D.getD i 0)) (pp w (D.getD j 0)) (skT σ t) = τ1 at e1 h2 ⊢
          have rD1 : ∀ k, k < tc → k < 2 ^ 31 → τ1 (w + 4) (nI k).toNatClampNeg = D.getD k 0 := fun k hk h31 => by rw [nI_clamp h31, h2 (w + 4) (by omega), hl k hk]
          have take : (s.1 = -1 ∨ spanF (U (D.getD i 0)) (U (D.getD j 0)) (skT σ t) < s.2) → K 101 [some (.ref w), some (.ref t), some (.int (skT σ t)), some (.int s.1), some (.int s.2), some (.int (nI i)), some (.int (nI j))] [] (cw_B τ1 lam) := by
            intro hc
            refine st_go hK rfl rfl ?_
            refine st_go hK rfl rfl ?_
            refine st_getr hK rfl (Wires_f3 hw) ?_
            refine st_go hK rfl rfl ?_
            refine st_iald hK rfl (Wires_a3 hw) (cw_in_nI (n := 15) (by omega) (by decide)) ?_
            refine st_bin hK rfl ?_
            refine st_go hK rfl rfl ?_
            refine st_getr hK rfl (Wires_f3 hw) ?_
            refine st_go hK rfl rfl ?_
            refine st_iald hK rfl (Wires_a3 hw) (cw_in_nI (n := 15) (by omega) (by decide)) ?_
            refine st_bin hK rfl ?_
            refine st_go hK rfl rfl ?_
            refine st_go hK rfl rfl ?_
            refine st_getr hK rfl (Wires_f2 hw) ?_
            refine st_geti hK rfl (Merge_f1 (isM_of hw)) ?_
            refine st_go hK rfl rfl ?_
            rw [rD1 i (by omega) (by omega), rD1 j (by omega) (by omega), e1]
            refine st_go hK rfl rfl ?_
            refine st_go hK rfl rfl ?_
            have := ih2 (j + 1) τ1 (16 * D.getD i 0 + D.getD j 0, spanF (U (D.getD i 0)) (U (D.getD j 0)) (skT σ t)) (by omega) (by omega) h2 (by rw [← e]; show _ = np1 U (skT σ t) D tc m (i + 1) (np2 U (skT σ t) D i q (j + 1) (npS U (skT σ t) (D.getD i 0) (D.getD j 0) s)); unfold npS; rw [if_pos hc])
            rw [← nI_1] at this
            dsimp only at this
            exact this
          have keep : ¬ (s.1 = -1 ∨ spanF (U (D.getD i 0)) (U (D.getD j 0)) (skT σ t) < s.2) → K 129 [some (.ref w), some (.ref t), some (.int (skT σ t)), some (.int s.1), some (.int s.2), some (.int (nI i)), some (.int (nI j))] [] (cw_B τ1 lam) := by
            intro hc
            refine st_go hK rfl rfl ?_
            refine st_go hK rfl rfl ?_
            have := ih2 (j + 1) τ1 s (by omega) (by omega) h2 (by rw [← e]; show _ = np1 U (skT σ t) D tc m (i + 1) (np2 U (skT σ t) D i q (j + 1) (npS U (skT σ t) (D.getD i 0) (D.getD j 0) s)); unfold npS; rw [if_neg hc])
            rw [← nI_1] at this
            exact this
          refine st_go hK rfl rfl ?_
          refine st_go hK rfl rfl ?_
          refine st_if hK rfl rfl (fun c86 => ?_) (fun c86 => ?_)
          · exact take (Or.inl c86)
          · refine st_go hK rfl rfl ?_
            refine st_getr hK rfl (Wires_f2 hw) ?_
            refine st_geti hK rfl (Merge_f1 (isM_of hw)) ?_
            rw [e1]
            refine st_go hK rfl rfl ?_
            refine st_if hK rfl rfl (fun c98 => ?_) (fun c98 => ?_)
            · exact keep (fun z => z.elim c86 (fun y => absurd y (Int32.not_lt.mpr c98)))
            · exact take (Or.inr (i_nle c98))
      have := loop2 (tc - (i + 1)) (i + 1) τ s (by omega) (by omega) hτ e'
      exact this
  refine st_go hK rfl rfl ?_
  refine st_geti hK rfl (Tree_f9 ht) ?_
  refine st_go hK rfl rfl ?_
  refine st_bin hK rfl ?_
  refine st_go hK rfl rfl ?_
  refine st_go hK rfl rfl ?_
  refine st_go hK rfl rfl ?_
  refine st_go hK rfl rfl ?_
  refine st_go hK rfl rfl ?_
  refine st_go hK rfl rfl ?_
  refine st_go hK rfl rfl ?_
  exact loop1 tc 0 σ none (-1, 0) (by omega) (fun _ _ => rfl) rfl
end
