/-! THE CALLS: class and model answer alike. Ends -/
def Res (r r' : Option Value) (h' : cw_H) : Prop := (∃ v, r = some (.int v) ∧ r' = some (.int v)) ∧ ∃ σ' lam', h' = cw_B σ' lam' ∧ Inv σ' lam'
def SimI (d M M' : Nat) (as : List Value) : Prop := ∀ σ lam, Inv σ lam → cw_Z d M (.ref 0 :: as) (cw_B σ lam) (fun r h => cw_Z d M' (.ref 146 :: as) h (Res r))
theorem Res.mk {v : Int32} {σ : cw_V} {lam : Nat → Int64} {s nx c n : Nat} (hI : INV σ lam s nx c n) : Res (some (.int v)) (some (.int v)) (cw_B σ lam) := ⟨⟨v, rfl, rfl⟩, _, _, rfl, _, _, _, _, hI⟩
theorem rg_i {x a b : Int32} (h1 : a ≤ x) (h2 : x ≤ b) : a.toInt ≤ x.toInt ∧ x.toInt ≤ b.toInt := ⟨Int32.le_iff_toInt_le.mp h1, Int32.le_iff_toInt_le.mp h2⟩
section
variable {σ τ υ : cw_V} {s a i j : Nat} {x y z w : Int32} {f : Nat → Int32}
/-- four numbers of an end -/
theorem e4_0 : upd (upd (upd (upd f (4 * s) x) (4 * s + 1) y) (4 * s + 2) z) (4 * s + 3) w (4 * j) = if j = s then x else f (4 * j) := by
  unfold upd
  (repeat' split) <;> first | rfl | omega
theorem e4_1 : upd (upd (upd (upd f (4 * s) x) (4 * s + 1) y) (4 * s + 2) z) (4 * s + 3) w (4 * j + 1) = if j = s then y else f (4 * j + 1) := by
  unfold upd
  (repeat' split) <;> first | rfl | omega
theorem e4_2 : upd (upd (upd (upd f (4 * s) x) (4 * s + 1) y) (4 * s + 2) z) (4 * s + 3) w (4 * j + 2) = if j = s then z else f (4 * j + 2) := by
  unfold upd
  (repeat' split) <;> first | rfl | omega
theorem e4_3 : upd (upd (upd (upd f (4 * s) x) (4 * s + 1) y) (4 * s + 2) z) (4 * s + 3) w (4 * j + 3) = if j = s then w else f (4 * j + 3) := by
  unfold upd
  (repeat' split) <;> first | rfl | omega
theorem ad_1 : addF σ 1 s x y 1 8 = nI (s + 1) := by simp [addF, rowF, cw_up, upd]
theorem ad_1k {k : Nat} (hk : k ≠ 8) : addF σ 1 s x y 1 k = σ 1 k := by simp [addF, rowF, cw_up, upd, hk]
theorem ad_2 : addF σ 1 s x y 2 j = if j = s then x else σ 2 j := by simp [addF, rowF, cw_up, upd]
theorem ad_3 : addF σ 1 s x y 3 j = if j = s then y else σ 3 j := by simp [addF, rowF, cw_up, upd]
theorem ad_4 : addF σ 1 s x y 4 j = if j = s then 0 else σ 4 j := by simp [addF, rowF, cw_up, upd]
theorem ad_5 : addF σ 1 s x y 5 j = if j = s then 1 else σ 5 j := by simp [addF, rowF, cw_up, upd]
theorem ad_6 : addF σ 1 s x y 6 = tchF (upd (σ 6) s (nI s)) s (nI s) := by simp [addF, rowF]
theorem ad_p {p : Nat} (h : p < 1 ∨ 6 < p) : addF σ 1 s x y p = σ p := by
  unfold addF
  rw [row_ne (by omega), up_ne (by omega), up_ne (by omega), up_ne (by omega), up_ne (by omega), up_ne (by omega), up_ne (by omega)]
theorem gt_add (hG : GT σ 1 s) (h8 : s < 8) (hsp : spot x y) : GT (addF σ 1 s x y) 1 (s + 1) := by
  have r1 := rg_i hsp.1.1 hsp.1.2
  have r2 := rg_i hsp.2.1 hsp.2.2
  have q0 : (0 : Int32).toInt = 0 := by decide
  have q1 : (63 : Int32).toInt = 63 := by decide
  have q2 : (1 : Int32).toInt = 1 := by decide
  rw [q0, q1] at r1 r2
  obtain ⟨hW, ⟨v1, v2, v3, v4⟩, hP⟩ := hG
  refine ⟨⟨ad_1, ?_⟩, ⟨fun k hk => ?_, ?_, ?_, ?_⟩, ?_⟩
  · rw [ad_p (p := 1 + 6) (by omega), ad_p (p := 1 + 7) (by omega), ad_p (p := 1 + 8) (by omega)]
    exact hW.2.sink h8
  · show (0 ≤ (addF σ 1 s x y 2 k).toInt ∧ (addF σ 1 s x y 2 k).toInt ≤ 63) ∧ (0 ≤ (addF σ 1 s x y 3 k).toInt ∧ (addF σ 1 s x y 3 k).toInt ≤ 63) ∧ (0 ≤ (addF σ 1 s x y 4 k).toInt ∧ (addF σ 1 s x y 4 k).toInt ≤ 99) ∧ 1 ≤ (addF σ 1 s x y 5 k).toInt ∧ (addF σ 1 s x y 5 k).toInt ≤ 9
    rw [ad_2, ad_3, ad_4, ad_5]
    by_cases z : k = s
    · rw [if_pos z, if_pos z, if_pos z, if_pos z, q0, q2]
      omega
    · rw [if_neg z, if_neg z, if_neg z, if_neg z]
      exact v1 k (by omega)
  · rw [ad_1k (by decide)]; exact v2
  · rw [ad_1k (by decide)]; exact v3
  · rw [ad_1k (by decide)]; exact v4
  · show PM (addF σ 1 s x y 6) (s + 1)
    rw [ad_6]
    have := (hP.add h8).touch (a := s) (by omega)
    rw [upd_eq] at this
    exact this
/-- the model's tree, but for the ends -/
theorem mw_sink (hM : MW υ s) (h8 : s < 8) (h1 : τ 146 1 = nI (s + 1)) (h150 : τ 150 = upd (υ 150) s 1) (h151 : τ 151 = υ 151) (h152 : τ 152 = υ 152) (h153 : τ 153 = upd (υ 153) s (-1)) : MW τ (s + 1) := by
  have hs : ¬ nodeN s (υ 151) s := by rintro (z | z) <;> omega
  have e : upd (υ 153) s (-1) = υ 153 := by
    funext k
    by_cases z : k = s
    · subst z; rw [upd_eq, hM.2.1.2.2.1 k (by omega) hs]
    · rw [upd_ne z]
  refine ⟨h1, ?_, fun n hn => ?_⟩
  · rw [h151, h152, h153, e]
    exact hM.2.1.sink h8
  · rw [h151, h150]
    have q := hM.2.2 n hn
    by_cases z : n = s
    · subst z
      rw [upd_eq]
      exact ⟨fun _ => rfl, fun w => absurd (Or.inl (by omega)) w⟩
    · rw [upd_ne z]
      refine ⟨fun w => q.1 ?_, fun w => q.2 ?_⟩
      · rcases w with w | w
        · exact Or.inl (by omega)
        · exact Or.inr w
      · rintro (w' | w')
        · exact w (Or.inl (by omega))
        · exact w (Or.inr w')
end
section
variable {d : Nat} {x y v k w : Int32}
theorem sim_skew : SimI (d + 16) m_CW_skew m_Mo_skew [.int v] := by
  intro σ lam ⟨s, nx, c, n, hI⟩
  have g := hI.1.1
  have mw := hI.2.1.1
  have te := hI.2.1.2.1
  have es : σ 1 8 = nI s := g.1.1
  have h8 : s ≤ 8 := g.1.2.1
  obtain ⟨⟨hnx, hc, h661, h662, h13⟩, hh⟩ := hI.2.2.2.1
  by_cases hv : 0 ≤ v ∧ v ≤ 99
  · have rv := rg_i hv.1 hv.2
    have q0 : (0 : Int32).toInt = 0 := by decide
    have q1 : (99 : Int32).toInt = 99 := by decide
    refine zi (L := [some (.ref 0), some (.int v), none]) rfl rfl (fun K hK => ?_)
    refine st_go hK rfl rfl ?_
    refine st_if hK rfl rfl (fun c => absurd c (Int32.not_lt.mpr hv.1)) (fun _ => ?_)
    refine st_go hK rfl rfl ?_
    refine st_go hK rfl rfl ?_
    refine st_if hK rfl rfl (fun _ => ?_) (fun c => absurd hv.2 c)
    refine st_go hK rfl rfl ?_
    refine st_getr hK rfl qf_0_4 ?_
    refine st_go hK rfl rfl ?_
    refine st_getr hK rfl qf_0_0 ?_
    refine cv1 hK rfl qc_66 (Nat.le_of_ble_eq_true rfl) ?_
    refine z_save h661 hnx h662 hc (fun σ1 hS => ?_)
    change K _ _ _ _
    have s1 : ∀ p, p < 66 → σ1 p = σ p := fun p hp => hS.1 p (by omega) (by omega)
    have g1 : GT σ1 1 s := (te_of (fun j hj => s1 _ (by omega))).gt g
    have es1 : σ1 1 8 = nI s := g1.1.1
    refine st_go hK rfl rfl ?_
    refine st_getr hK rfl qf_0_0 ?_
    refine gi (v := σ1 1 9) hK rfl qf_1_9 rfl ?_
    refine st_go hK rfl rfl ?_
    change K _ [some (.ref 0), some (.int v), some (.int (σ1 1 9))] _ _
    refine st_go hK rfl rfl ?_
    refine st_getr hK rfl qf_0_0 ?_
    refine st_go hK rfl rfl ?_
    refine st_put hK rfl qf_1_9 rfl ?_
    refine st_go hK rfl rfl ?_
    refine cv0 hK rfl qc_0 (Nat.le_of_ble_eq_true rfl) ?_
    have hf : ∀ p, (p < 1 ∨ 9 < p) → (cw_up σ1 1 9 v) p = σ1 p := fun p hp => up_ne (by omega)
    have hG : GT (cw_up σ1 1 9 v) 1 s := ⟨⟨by rw [up_eq, upd_ne (by decide)]; exact es1, by rw [up_ne (by decide), up_ne (by decide), up_ne (by decide)]; exact g1.1.2⟩, ⟨fun k hk => by rw [up_ne (by decide), up_ne (by decide), up_ne (by decide), up_ne (by decide)]; exact g1.2.1.1 k hk, by rw [up_eq, upd_eq]; omega, by rw [up_eq, upd_ne (by decide)]; exact g1.2.1.2.2.1, by rw [up_eq, upd_ne (by decide)]; exact g1.2.1.2.2.2⟩, by rw [up_ne (by decide)]; exact g1.2.2⟩
    refine z_cfin hS hnx hf hG (fun τ lam2 hC sr => ?_)
    change K _ _ _ _
    refine st_go hK rfl rfl ?_
    refine st_ret hK rfl rfl ?_
    obtain ⟨mw2, te2, l2, k2, mv2⟩ := hI.mf (τ := τ) (fun p hp => hC.1 p (by omega))
    refine zi (L := [some (.ref 146), some (.int v), none]) rfl rfl (fun K2 hK2 => ?_)
    refine st_go hK2 rfl rfl ?_
    refine st_go hK2 rfl rfl ?_
    refine st_go hK2 rfl rfl ?_
    refine cs3 hK2 rfl (Nat.le_of_ble_eq_true rfl) ?_
    refine z_min (fun _ => ?_) (fun c => absurd hv c)
    change K2 _ _ (_ :: _) _
    refine st_if hK2 rfl rfl (fun _ => ?_) (fun c => absurd (by decide) c)
    refine st_go hK2 rfl rfl ?_
    refine cv0 hK2 rfl qc_146 (Nat.le_of_ble_eq_true rfl) ?_
    refine z_leaves k2 hc (fun υ hL => ?_)
    change K2 _ _ _ _
    obtain ⟨mw3, mv3⟩ := hL.mf mw2
    have te3 : TE (mv υ) 1 σ 1 := by rw [mv3]; exact te2
    have l3 : υ 146 6 = nI s := (hL.2.1 6 (by decide)).trans l2
    refine st_go hK2 rfl rfl ?_
    refine gi (v := υ 146 3) hK2 rfl qf_146_3 rfl ?_
    refine st_go hK2 rfl rfl ?_
    change K2 _ [some (.ref 146), some (.int v), some (.int (υ 146 3))] _ _
    refine st_go hK2 rfl rfl ?_
    refine st_go hK2 rfl rfl ?_
    refine st_put hK2 rfl qf_146_3 rfl ?_
    refine st_go hK2 rfl rfl ?_
    refine st_ret hK2 rfl rfl ?_
    have hTE : TE (mv (cw_up υ 146 3 v)) 1 (cw_up σ1 1 9 v) 1 := by
      have t3 : TE (mv υ) 1 σ1 1 := te3.trans (te_of (fun j hj => s1 _ (by omega))).symm
      have em : ∀ p, p ≠ 1 → mv (cw_up υ 146 3 v) p = mv υ p := fun p hp => by
        unfold mv
        rw [if_neg hp, if_neg hp, up_ne (by decide), up_ne (by decide), up_ne (by decide), up_ne (by decide), up_ne (by decide)]
      refine ⟨fun i a b j hj => ?_, fun i a b j hj => ?_, fun k a b => ?_⟩
      · rw [em _ (by omega), up_ne (by omega)]; exact t3.1 i a b j hj
      · rw [em _ (by omega), up_ne (by omega)]; exact t3.2.1 i a b j hj
      · have t4 := t3.2.2 k a b
        rcases (show k = 8 ∨ k = 9 ∨ k = 10 ∨ k = 11 by omega) with rfl | rfl | rfl | rfl
        · simpa [mv, up_at] using t4
        · simp [mv, up_at]
        · simpa [mv, up_at] using t4
        · simpa [mv, up_at] using t4
    have ev : υ 146 3 = σ 1 9 := te3.e9
    rw [ev, s1 1 (by decide)]
    exact Res.mk (hI.chg hC (mch_of hL (fun p hp => up_ne (by omega)) (by rw [up_eq, upd_ne (by decide)]) (by rw [up_eq, upd_ne (by decide)]) (mw3.cg (by rw [up_eq, upd_ne (by decide)]) (fun p h1 h2 => up_ne (by omega))) (by rw [up_eq, upd_ne (by decide)]; exact l3)) (hTE.trans sr.te.symm))
  · skip
    refine zi (L := [some (.ref 0), some (.int v), none]) rfl rfl (fun K hK => ?_)
    refine st_go hK rfl rfl ?_
    refine st_if hK rfl rfl (fun c1 => ?_) (fun c1 => ?_)
    · refine st_go hK rfl rfl ?_
      refine st_go hK rfl rfl ?_
      refine cv1 hK rfl qc_0 (Nat.le_of_ble_eq_true rfl) ?_
      refine z_rbad ?_
      change K _ _ (_ :: _) _
      refine st_ret hK rfl rfl ?_
      obtain ⟨mw2, te2, l2, k2, mv2⟩ := hI.mf (τ := (cw_up σ 0 6 (σ 0 6 + 1))) (fun p hp => up_ne (by omega))
      refine zi (L := [some (.ref 146), some (.int v), none]) rfl rfl (fun K2 hK2 => ?_)
      refine st_go hK2 rfl rfl ?_
      refine st_go hK2 rfl rfl ?_
      refine st_go hK2 rfl rfl ?_
      refine cs3 hK2 rfl (Nat.le_of_ble_eq_true rfl) ?_
      refine z_min (fun c => absurd c hv) (fun _ => ?_)
      change K2 _ _ (_ :: _) _
      refine st_if hK2 rfl rfl (fun c => absurd c (by decide)) (fun _ => ?_)
      refine st_go hK2 rfl rfl ?_
      refine cv0 hK2 rfl qc_146 (Nat.le_of_ble_eq_true rfl) ?_
      refine z_mbad ?_
      change K2 _ _ (_ :: _) _
      refine st_ret hK2 rfl rfl ?_
      exact Res.mk (hI.err (k := 0) (by decide))
    · refine st_go hK rfl rfl ?_
      refine st_go hK rfl rfl ?_
      refine st_if hK rfl rfl (fun c => absurd c (fun z => hv ⟨Int32.not_lt.mp c1, z⟩)) (fun _ => ?_)
      refine st_go hK rfl rfl ?_
      refine st_go hK rfl rfl ?_
      refine cv1 hK rfl qc_0 (Nat.le_of_ble_eq_true rfl) ?_
      refine z_rbad ?_
      change K _ _ (_ :: _) _
      refine st_ret hK rfl rfl ?_
      obtain ⟨mw2, te2, l2, k2, mv2⟩ := hI.mf (τ := (cw_up σ 0 6 (σ 0 6 + 1))) (fun p hp => up_ne (by omega))
      refine zi (L := [some (.ref 146), some (.int v), none]) rfl rfl (fun K2 hK2 => ?_)
      refine st_go hK2 rfl rfl ?_
      refine st_go hK2 rfl rfl ?_
      refine st_go hK2 rfl rfl ?_
      refine cs3 hK2 rfl (Nat.le_of_ble_eq_true rfl) ?_
      refine z_min (fun c => absurd c hv) (fun _ => ?_)
      change K2 _ _ (_ :: _) _
      refine st_if hK2 rfl rfl (fun c => absurd c (by decide)) (fun _ => ?_)
      refine st_go hK2 rfl rfl ?_
      refine cv0 hK2 rfl qc_146 (Nat.le_of_ble_eq_true rfl) ?_
      refine z_mbad ?_
      change K2 _ _ (_ :: _) _
      refine st_ret hK2 rfl rfl ?_
      exact Res.mk (hI.err (k := 0) (by decide))
theorem sim_at : SimI (d + 16) m_CW_at m_Mo_at [.int x, .int y] := by
  intro σ lam ⟨s, nx, c, n, hI⟩
  have g := hI.1.1
  have mw := hI.2.1.1
  have te := hI.2.1.2.1
  have es : σ 1 8 = nI s := g.1.1
  have h8 : s ≤ 8 := g.1.2.1
  obtain ⟨⟨hnx, hc, h661, h662, h13⟩, hh⟩ := hI.2.2.2.1
  by_cases hsp : spot x y
  · skip
    refine zi (L := [some (.ref 0), some (.int x), some (.int y)]) rfl rfl (fun K hK => ?_)
    refine st_go hK rfl rfl ?_
    refine st_go hK rfl rfl ?_
    refine cs2 hK rfl (Nat.le_of_ble_eq_true rfl) ?_
    refine z_onGrid (fun _ => ?_) (fun c => absurd hsp c)
    change K _ _ (_ :: _) _
    refine st_if hK rfl rfl (fun _ => ?_) (fun c => absurd (by decide) c)
    refine st_go hK rfl rfl ?_
    refine st_getr hK rfl qf_0_0 ?_
    refine st_go hK rfl rfl ?_
    refine st_go hK rfl rfl ?_
    refine cv2 hK rfl qc_1 (Nat.le_of_ble_eq_true rfl) ?_
    refine z_sinkAt hT1 es h8 ?_
    change K _ _ (_ :: _) _
    refine st_ret hK rfl rfl ?_
    obtain ⟨mw2, te2, l2, k2, mv2⟩ := hI.mf (τ := σ) (fun _ _ => rfl)
    refine zi (L := [some (.ref 146), some (.int x), some (.int y)]) rfl rfl (fun K2 hK2 => ?_)
    refine st_go hK2 rfl rfl ?_
    refine st_go hK2 rfl rfl ?_
    refine cs2 hK2 rfl (Nat.le_of_ble_eq_true rfl) ?_
    refine z_misSpot (fun _ => ?_) (fun c => absurd hsp c)
    change K2 _ _ (_ :: _) _
    refine st_if hK2 rfl rfl (fun c => absurd c (by decide)) (fun _ => ?_)
    refine st_go hK2 rfl rfl ?_
    refine st_go hK2 rfl rfl ?_
    refine st_go hK2 rfl rfl ?_
    refine cv2 hK2 rfl qc_146 (Nat.le_of_ble_eq_true rfl) ?_
    refine z_misAt mw2.1 h8 ?_
    rw [at_eq te2 h8]
    change K2 _ _ (_ :: _) _
    refine st_go hK2 rfl rfl ?_
    refine st_ret hK2 rfl rfl ?_
    exact Res.mk hI
  · skip
    refine zi (L := [some (.ref 0), some (.int x), some (.int y)]) rfl rfl (fun K hK => ?_)
    refine st_go hK rfl rfl ?_
    refine st_go hK rfl rfl ?_
    refine cs2 hK rfl (Nat.le_of_ble_eq_true rfl) ?_
    refine z_onGrid (fun c => absurd c hsp) (fun _ => ?_)
    change K _ _ (_ :: _) _
    refine st_if hK rfl rfl (fun c => absurd c (by decide)) (fun _ => ?_)
    refine st_go hK rfl rfl ?_
    refine st_go hK rfl rfl ?_
    refine cv1 hK rfl qc_0 (Nat.le_of_ble_eq_true rfl) ?_
    refine z_rbad ?_
    change K _ _ (_ :: _) _
    refine st_ret hK rfl rfl ?_
    obtain ⟨mw2, te2, l2, k2, mv2⟩ := hI.mf (τ := (cw_up σ 0 6 (σ 0 6 + 1))) (fun p hp => up_ne (by omega))
    refine zi (L := [some (.ref 146), some (.int x), some (.int y)]) rfl rfl (fun K2 hK2 => ?_)
    refine st_go hK2 rfl rfl ?_
    refine st_go hK2 rfl rfl ?_
    refine cs2 hK2 rfl (Nat.le_of_ble_eq_true rfl) ?_
    refine z_misSpot (fun c => absurd c hsp) (fun _ => ?_)
    change K2 _ _ (_ :: _) _
    refine st_if hK2 rfl rfl (fun _ => ?_) (fun c => absurd (by decide) c)
    refine st_go hK2 rfl rfl ?_
    refine cv0 hK2 rfl qc_146 (Nat.le_of_ble_eq_true rfl) ?_
    refine z_mbad ?_
    change K2 _ _ (_ :: _) _
    refine st_ret hK2 rfl rfl ?_
    exact Res.mk (hI.err (k := 0) (by decide))
theorem sim_touched : SimI (d + 16) m_CW_touched m_Mo_touched [.int k] := by
  intro σ lam ⟨s, nx, c, n, hI⟩
  have g := hI.1.1
  have mw := hI.2.1.1
  have te := hI.2.1.2.1
  have es : σ 1 8 = nI s := g.1.1
  have h8 : s ≤ 8 := g.1.2.1
  obtain ⟨⟨hnx, hc, h661, h662, h13⟩, hh⟩ := hI.2.2.2.1
  by_cases hk : 0 ≤ k
  · obtain ⟨j, hj, rfl⟩ := nI_of (Int32.not_lt.mpr hk)
    by_cases hjs : j < s
    · have e5 : σ 149 j = σ 6 j := te.lo (i := 5) (by decide) (by decide) (by omega)
      have hsk := hSink_nI es h8 hjs
      have ecl : (nI j).toNatClampNeg = j := nI_clamp hj
      refine zi (L := [some (.ref 0), some (.int (nI j))]) rfl rfl (fun K hK => ?_)
      refine st_go hK rfl rfl ?_
      refine st_if hK rfl rfl (fun _ => ?_) (fun c => absurd (nI_pos' (by omega)) c)
      refine st_go hK rfl rfl ?_
      refine st_getr hK rfl qf_0_0 ?_
      refine st_go hK rfl rfl ?_
      refine cv1 hK rfl qc_1 (Nat.le_of_ble_eq_true rfl) ?_
      refine z_touchedBefore hT1 (fun _ => ?_) (fun c => absurd hsk c)
      rw [ecl]
      change K _ _ (_ :: _) _
      refine st_ret hK rfl rfl ?_
      obtain ⟨mw2, te2, l2, k2, mv2⟩ := hI.mf (τ := σ) (fun _ _ => rfl)
      refine zi (L := [some (.ref 146), some (.int (nI j))]) rfl rfl (fun K2 hK2 => ?_)
      refine st_go hK2 rfl rfl ?_
      refine st_if hK2 rfl rfl (fun _ => ?_) (fun c => absurd (nI_pos' (by omega)) c)
      refine st_go hK2 rfl rfl ?_
      refine st_go hK2 rfl rfl ?_
      refine gi (v := nI s) hK2 rfl qf_146_6 l2 ?_
      refine st_ifn hK2 rfl rfl (nI_leI (a := s) (b := j) (by omega) (by omega)) (fun c => absurd c (by omega)) (fun _ => ?_)
      refine st_go hK2 rfl rfl ?_
      refine st_getr hK2 rfl qf_146_7 ?_
      refine st_go hK2 rfl rfl ?_
      refine ga (e := j) (v := σ 149 j) hK2 rfl qa_149 rfl (by omega) rfl rfl ?_
      refine st_go hK2 rfl rfl ?_
      refine st_ret hK2 rfl rfl ?_
      rw [e5]
      exact Res.mk hI
    · have hsk : ¬ hSink σ 1 (nI j) := fun z => by
        obtain ⟨i, h1, h2⟩ := (hSink_N es h8).mp z
        exact hjs ((nI_inj hj (by omega) h2) ▸ h1)
      refine zi (L := [some (.ref 0), some (.int (nI j))]) rfl rfl (fun K hK => ?_)
      refine st_go hK rfl rfl ?_
      refine st_if hK rfl rfl (fun _ => ?_) (fun c => absurd (nI_pos' (by omega)) c)
      refine st_go hK rfl rfl ?_
      refine st_getr hK rfl qf_0_0 ?_
      refine st_go hK rfl rfl ?_
      refine cv1 hK rfl qc_1 (Nat.le_of_ble_eq_true rfl) ?_
      refine z_touchedBefore hT1 (fun c => absurd c hsk) (fun _ => ?_)
      change K _ _ (_ :: _) _
      refine st_ret hK rfl rfl ?_
      obtain ⟨mw2, te2, l2, k2, mv2⟩ := hI.mf (τ := σ) (fun _ _ => rfl)
      refine zi (L := [some (.ref 146), some (.int (nI j))]) rfl rfl (fun K2 hK2 => ?_)
      refine st_go hK2 rfl rfl ?_
      refine st_if hK2 rfl rfl (fun _ => ?_) (fun c => absurd (nI_pos' (by omega)) c)
      refine st_go hK2 rfl rfl ?_
      refine st_go hK2 rfl rfl ?_
      refine gi (v := nI s) hK2 rfl qf_146_6 l2 ?_
      refine st_ifn hK2 rfl rfl (nI_leI (a := s) (b := j) (by omega) (by omega)) (fun _ => ?_) (fun c => absurd (by omega) c)
      refine st_go hK2 rfl rfl ?_
      refine st_ret hK2 rfl rfl ?_
      exact Res.mk hI
  · skip
    refine zi (L := [some (.ref 0), some (.int k)]) rfl rfl (fun K hK => ?_)
    refine st_go hK rfl rfl ?_
    refine st_if hK rfl rfl (fun c => absurd c hk) (fun _ => ?_)
    refine st_go hK rfl rfl ?_
    refine st_go hK rfl rfl ?_
    refine cv1 hK rfl qc_0 (Nat.le_of_ble_eq_true rfl) ?_
    refine z_rbad ?_
    change K _ _ (_ :: _) _
    refine st_ret hK rfl rfl ?_
    obtain ⟨mw2, te2, l2, k2, mv2⟩ := hI.mf (τ := (cw_up σ 0 6 (σ 0 6 + 1))) (fun p hp => up_ne (by omega))
    refine zi (L := [some (.ref 146), some (.int k)]) rfl rfl (fun K2 hK2 => ?_)
    refine st_go hK2 rfl rfl ?_
    refine st_if hK2 rfl rfl (fun c => absurd c hk) (fun _ => ?_)
    refine st_go hK2 rfl rfl ?_
    refine cv0 hK2 rfl qc_146 (Nat.le_of_ble_eq_true rfl) ?_
    refine z_mbad ?_
    change K2 _ _ (_ :: _) _
    refine st_ret hK2 rfl rfl ?_
    exact Res.mk (hI.err (k := 0) (by decide))
theorem sim_end : SimI (d + 16) m_CW_end m_Mo_end [.int k, .int w] := by
  intro σ lam ⟨s, nx, c, n, hI⟩
  have g := hI.1.1
  have mw := hI.2.1.1
  have te := hI.2.1.2.1
  have es : σ 1 8 = nI s := g.1.1
  have h8 : s ≤ 8 := g.1.2.1
  obtain ⟨⟨hnx, hc, h661, h662, h13⟩, hh⟩ := hI.2.2.2.1
  by_cases hb : (∃ i, i < s ∧ k = nI i) ∧ 0 ≤ w ∧ w ≤ 3
  · obtain ⟨⟨i, his, rfl⟩, hw⟩ := hb
    have hk : ∃ j, j < s ∧ nI i = nI j := ⟨i, his, rfl⟩
    obtain ⟨j, hj3, rfl⟩ := (nI_rg (M := 3) (n := 3) rfl (by decide)).mp hw
    have ev : svF σ 1 i j = σ 148 (4 * i + j) := by
      rcases (show j = 0 ∨ j = 1 ∨ j = 2 ∨ j = 3 by omega) with rfl | rfl | rfl | rfl
      · exact (te.lo (i := 1) (by decide) (by decide) (by omega)).symm
      · exact (te.lo (i := 2) (by decide) (by decide) (by omega)).symm
      · exact (te.lo (i := 3) (by decide) (by decide) (by omega)).symm
      · exact (te.lo (i := 4) (by decide) (by decide) (by omega)).symm
    refine zi (L := [some (.ref 0), some (.int (nI i)), some (.int (nI j))]) rfl rfl (fun K hK => ?_)
    refine st_go hK rfl rfl ?_
    refine st_getr hK rfl qf_0_0 ?_
    refine st_go hK rfl rfl ?_
    refine cv1 hK rfl qc_1 (Nat.le_of_ble_eq_true rfl) ?_
    refine z_hasSink' hT1 es h8 (fun _ => ?_) (fun c => absurd hk c)
    change K _ _ (_ :: _) _
    refine st_if hK rfl rfl (fun c => absurd c (by decide)) (fun _ => ?_)
    refine st_go hK rfl rfl ?_
    refine st_if hK rfl rfl (fun c => absurd c (nI_pos (by omega))) (fun _ => ?_)
    refine st_go hK rfl rfl ?_
    refine st_go hK rfl rfl ?_
    refine st_ifn hK rfl rfl (nI_leI (a := j) (b := 3) (by omega) (by omega)) (fun _ => ?_) (fun c => absurd (by omega) c)
    refine st_go hK rfl rfl ?_
    refine st_getr hK rfl qf_0_0 ?_
    refine st_go hK rfl rfl ?_
    refine st_go hK rfl rfl ?_
    refine cv2 hK rfl qc_1 (Nat.le_of_ble_eq_true rfl) ?_
    refine z_sinkValue hT1 (hSink_nI es h8 his) (by omega) ?_
    rw [nI_clamp (by omega), ev]
    change K _ _ (_ :: _) _
    refine st_ret hK rfl rfl ?_
    obtain ⟨mw2, te2, l2, k2, mv2⟩ := hI.mf (τ := σ) (fun _ _ => rfl)
    refine zi (L := [some (.ref 146), some (.int (nI i)), some (.int (nI j))]) rfl rfl (fun K2 hK2 => ?_)
    refine st_go hK2 rfl rfl ?_
    refine st_go hK2 rfl rfl ?_
    refine cv1 hK2 rfl qc_146 (Nat.le_of_ble_eq_true rfl) ?_
    refine z_misSink mw2.1 h8 (fun _ => ?_) (fun c => absurd hk c)
    change K2 _ _ (_ :: _) _
    refine st_if hK2 rfl rfl (fun c => absurd c (by decide)) (fun _ => ?_)
    refine st_go hK2 rfl rfl ?_
    refine st_go hK2 rfl rfl ?_
    refine st_go hK2 rfl rfl ?_
    refine cs3 hK2 rfl (Nat.le_of_ble_eq_true rfl) ?_
    refine z_min (fun _ => ?_) (fun c => absurd hw c)
    change K2 _ _ (_ :: _) _
    refine st_if hK2 rfl rfl (fun c => absurd c (by decide)) (fun _ => ?_)
    refine st_go hK2 rfl rfl ?_
    refine st_getr hK2 rfl qf_146_2 ?_
    refine st_go hK2 rfl rfl ?_
    refine st_go hK2 rfl rfl ?_
    refine bnv hK2 rfl (show _ = nI (4 * i) from nI_mul 4 i) ?_
    refine st_go hK2 rfl rfl ?_
    refine bnv hK2 rfl (show _ = nI ((4 * i) + j) from nI_add (4 * i) j) ?_
    refine ga (e := (4 * i) + j) (v := σ 148 ((4 * i) + j)) hK2 rfl qa_148 rfl (by omega) rfl rfl ?_
    refine st_go hK2 rfl rfl ?_
    refine st_ret hK2 rfl rfl ?_
    exact Res.mk hI
  · skip
    refine zi (L := [some (.ref 0), some (.int k), some (.int w)]) rfl rfl (fun K hK => ?_)
    refine st_go hK rfl rfl ?_
    refine st_getr hK rfl qf_0_0 ?_
    refine st_go hK rfl rfl ?_
    refine cv1 hK rfl qc_1 (Nat.le_of_ble_eq_true rfl) ?_
    refine z_hasSink' hT1 es h8 (fun hk => ?_) (fun hk => ?_)
    · change K _ _ (_ :: _) _
      refine st_if hK rfl rfl (fun c => absurd c (by decide)) (fun _ => ?_)
      refine st_go hK rfl rfl ?_
      refine st_if hK rfl rfl (fun c12 => ?_) (fun c12 => ?_)
      · refine st_go hK rfl rfl ?_
        refine st_go hK rfl rfl ?_
        refine cv1 hK rfl qc_0 (Nat.le_of_ble_eq_true rfl) ?_
        refine z_rbad ?_
        change K _ _ (_ :: _) _
        refine st_ret hK rfl rfl ?_
        obtain ⟨mw2, te2, l2, k2, mv2⟩ := hI.mf (τ := (cw_up σ 0 6 (σ 0 6 + 1))) (fun p hp => up_ne (by omega))
        refine zi (L := [some (.ref 146), some (.int k), some (.int w)]) rfl rfl (fun K2 hK2 => ?_)
        refine st_go hK2 rfl rfl ?_
        refine st_go hK2 rfl rfl ?_
        refine cv1 hK2 rfl qc_146 (Nat.le_of_ble_eq_true rfl) ?_
        refine z_misSink mw2.1 h8 (fun hk2 => ?_) (fun hk2 => ?_)
        · change K2 _ _ (_ :: _) _
          refine st_if hK2 rfl rfl (fun c => absurd c (by decide)) (fun _ => ?_)
          refine st_go hK2 rfl rfl ?_
          refine st_go hK2 rfl rfl ?_
          refine st_go hK2 rfl rfl ?_
          refine cs3 hK2 rfl (Nat.le_of_ble_eq_true rfl) ?_
          refine z_min (fun c => absurd ⟨hk2, c⟩ hb) (fun _ => ?_)
          change K2 _ _ (_ :: _) _
          refine st_if hK2 rfl rfl (fun _ => ?_) (fun c => absurd (by decide) c)
          refine st_go hK2 rfl rfl ?_
          refine cv0 hK2 rfl qc_146 (Nat.le_of_ble_eq_true rfl) ?_
          refine z_mbad ?_
          change K2 _ _ (_ :: _) _
          refine st_ret hK2 rfl rfl ?_
          exact Res.mk (hI.err (k := 0) (by decide))
        · change K2 _ _ (_ :: _) _
          refine st_if hK2 rfl rfl (fun _ => ?_) (fun c => absurd (by decide) c)
          refine st_go hK2 rfl rfl ?_
          refine cv0 hK2 rfl qc_146 (Nat.le_of_ble_eq_true rfl) ?_
          refine z_mbad ?_
          change K2 _ _ (_ :: _) _
          refine st_ret hK2 rfl rfl ?_
          exact Res.mk (hI.err (k := 0) (by decide))
      · refine st_go hK rfl rfl ?_
        refine st_go hK rfl rfl ?_
        refine st_if hK rfl rfl (fun c => absurd c (fun z => hb ⟨hk, Int32.not_lt.mp c12, z⟩)) (fun _ => ?_)
        refine st_go hK rfl rfl ?_
        refine st_go hK rfl rfl ?_
        refine cv1 hK rfl qc_0 (Nat.le_of_ble_eq_true rfl) ?_
        refine z_rbad ?_
        change K _ _ (_ :: _) _
        refine st_ret hK rfl rfl ?_
        obtain ⟨mw2, te2, l2, k2, mv2⟩ := hI.mf (τ := (cw_up σ 0 6 (σ 0 6 + 1))) (fun p hp => up_ne (by omega))
        refine zi (L := [some (.ref 146), some (.int k), some (.int w)]) rfl rfl (fun K2 hK2 => ?_)
        refine st_go hK2 rfl rfl ?_
        refine st_go hK2 rfl rfl ?_
        refine cv1 hK2 rfl qc_146 (Nat.le_of_ble_eq_true rfl) ?_
        refine z_misSink mw2.1 h8 (fun hk2 => ?_) (fun hk2 => ?_)
        · change K2 _ _ (_ :: _) _
          refine st_if hK2 rfl rfl (fun c => absurd c (by decide)) (fun _ => ?_)
          refine st_go hK2 rfl rfl ?_
          refine st_go hK2 rfl rfl ?_
          refine st_go hK2 rfl rfl ?_
          refine cs3 hK2 rfl (Nat.le_of_ble_eq_true rfl) ?_
          refine z_min (fun c => absurd ⟨hk2, c⟩ hb) (fun _ => ?_)
          change K2 _ _ (_ :: _) _
          refine st_if hK2 rfl rfl (fun _ => ?_) (fun c => absurd (by decide) c)
          refine st_go hK2 rfl rfl ?_
          refine cv0 hK2 rfl qc_146 (Nat.le_of_ble_eq_true rfl) ?_
          refine z_mbad ?_
          change K2 _ _ (_ :: _) _
          refine st_ret hK2 rfl rfl ?_
          exact Res.mk (hI.err (k := 0) (by decide))
        · change K2 _ _ (_ :: _) _
          refine st_if hK2 rfl rfl (fun _ => ?_) (fun c => absurd (by decide) c)
          refine st_go hK2 rfl rfl ?_
          refine cv0 hK2 rfl qc_146 (Nat.le_of_ble_eq_true rfl) ?_
          refine z_mbad ?_
          change K2 _ _ (_ :: _) _
          refine st_ret hK2 rfl rfl ?_
          exact Res.mk (hI.err (k := 0) (by decide))
    · change K _ _ (_ :: _) _
      refine st_if hK rfl rfl (fun _ => ?_) (fun c => absurd (by decide) c)
      refine st_go hK rfl rfl ?_
      refine st_go hK rfl rfl ?_
      refine cv1 hK rfl qc_0 (Nat.le_of_ble_eq_true rfl) ?_
      refine z_rbad ?_
      change K _ _ (_ :: _) _
      refine st_ret hK rfl rfl ?_
      obtain ⟨mw2, te2, l2, k2, mv2⟩ := hI.mf (τ := (cw_up σ 0 6 (σ 0 6 + 1))) (fun p hp => up_ne (by omega))
      refine zi (L := [some (.ref 146), some (.int k), some (.int w)]) rfl rfl (fun K2 hK2 => ?_)
      refine st_go hK2 rfl rfl ?_
      refine st_go hK2 rfl rfl ?_
      refine cv1 hK2 rfl qc_146 (Nat.le_of_ble_eq_true rfl) ?_
      refine z_misSink mw2.1 h8 (fun hk2 => ?_) (fun hk2 => ?_)
      · change K2 _ _ (_ :: _) _
        refine st_if hK2 rfl rfl (fun c => absurd c (by decide)) (fun _ => ?_)
        refine st_go hK2 rfl rfl ?_
        refine st_go hK2 rfl rfl ?_
        refine st_go hK2 rfl rfl ?_
        refine cs3 hK2 rfl (Nat.le_of_ble_eq_true rfl) ?_
        refine z_min (fun c => absurd ⟨hk2, c⟩ hb) (fun _ => ?_)
        change K2 _ _ (_ :: _) _
        refine st_if hK2 rfl rfl (fun _ => ?_) (fun c => absurd (by decide) c)
        refine st_go hK2 rfl rfl ?_
        refine cv0 hK2 rfl qc_146 (Nat.le_of_ble_eq_true rfl) ?_
        refine z_mbad ?_
        change K2 _ _ (_ :: _) _
        refine st_ret hK2 rfl rfl ?_
        exact Res.mk (hI.err (k := 0) (by decide))
      · change K2 _ _ (_ :: _) _
        refine st_if hK2 rfl rfl (fun _ => ?_) (fun c => absurd (by decide) c)
        refine st_go hK2 rfl rfl ?_
        refine cv0 hK2 rfl qc_146 (Nat.le_of_ble_eq_true rfl) ?_
        refine z_mbad ?_
        change K2 _ _ (_ :: _) _
        refine st_ret hK2 rfl rfl ?_
        exact Res.mk (hI.err (k := 0) (by decide))
end
