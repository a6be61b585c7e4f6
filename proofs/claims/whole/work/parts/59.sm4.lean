/-! THE CALLS: joints -/
section
variable {s : Nat} {lf lf' pa pa' : Nat → Int32} {ρ : Nat → Nat} {σ τ υ υ2 σ1 σ2 : cw_V} {c : Nat}
theorem Dep.cg (h : Dep s lf pa ρ) (h8 : s ≤ 8) (e1 : ∀ x, x < 15 → lf' x = lf x) (e2 : ∀ x, x < 15 → pa' x = pa x) : Dep s lf' pa' ρ := by
  intro n hn
  have hn' : nodeN s lf n := (nodeN_congr e1).mp hn
  rw [e2 n (hn'.lt h8)]
  exact h n hn'
theorem Inr.cg {rt : Nat → Int32} (hW : WFt s lf rt pa) (hρ : Dep s lf pa ρ) (e2 : ∀ x, x < 15 → pa' x = pa x) {x a : Nat} (hx : nodeN s lf x) : Inr pa' ρ x a ↔ Inr pa ρ x a := by
  have key : ∀ i x, nodeN s lf x → i ≤ ρ x → upN pa' i x = upN pa i x := by
    intro i
    induction i with
    | zero => intro x _ _; rfl
    | succ i ih =>
      intro x hx hi
      rw [upN_s, upN_s, e2 x (hW.lt hx)]
      have hp : pa x ≠ -1 := fun z => by have := (hρ x hx).1 z; omega
      obtain ⟨j, j8, j15, j1, j2, j3, j4⟩ := hW.up hx hp
      rw [j1, nI_clamp (by omega)]
      have := (hρ x hx).2 j j15 j1
      exact ih j j3 (by omega)
  constructor
  · rintro ⟨i, hi, e⟩; exact ⟨i, hi, (key i x hx hi).symm.trans e⟩
  · rintro ⟨i, hi, e⟩; exact ⟨i, hi, (key i x hx hi).trans e⟩
/-- the model's ends, texts and kept states are as before -/
def MR (σ τ : cw_V) : Prop := (∀ p, (p < 146 ∨ p = 147 ∨ p = 148 ∨ p = 149 ∨ p = 155 ∨ p = 170) → τ p = σ p) ∧ ∀ k, (k < 25 ∨ k = 36) → τ 146 k = σ 146 k
theorem MR.rf : MR σ σ := ⟨fun _ _ => rfl, fun _ _ => rfl⟩
theorem MR.trans (h : MR σ τ) (h' : MR τ υ) : MR σ υ := ⟨fun p hp => (h'.1 p hp).trans (h.1 p hp), fun k hk => (h'.2 k hk).trans (h.2 k hk)⟩
theorem TQ.mr (h : TQ σ τ) : MR σ τ := ⟨fun p hp => h.1 p (by omega) (by omega), fun k hk => h.2 k (by omega) (by omega)⟩
theorem TP.mr (h : TP σ τ) : MR σ τ := ⟨fun p hp => h.1 p (by omega) (by omega), fun k hk => h.2 k (by omega) (by omega)⟩
theorem MTR.mr {f g h : Nat → Int32} (hT : MTR σ τ f g h) : MR σ τ := ⟨fun p hp => hT.1 p (by omega), fun k hk => by rw [hT.1 146 (by omega)]⟩
theorem AS.mr {i : Nat} (h : AS σ τ i) : MR σ τ := ⟨fun p hp => h.1 p (by omega), fun k hk => by rw [h.1 146 (by omega)]⟩
theorem TB.mr {i : Nat} (h : TB σ τ i) : MR σ τ := ⟨fun p hp => h.1 p (by omega), fun k hk => by rw [h.1 146 (by omega)]⟩
theorem mch_mr (hL : LV τ υ c) (hR : MR υ υ2) (hM : MW υ2 s) (l3 : υ 146 6 = nI s) : MCH τ υ2 s c := mch_of hL (fun p hp => hR.1 p (by omega)) (hR.2 36 (by omega)) (hR.2 13 (by omega)) hM ((hR.2 6 (by omega)).trans l3)
theorem te_mr {f g h : Nat → Int32} (te : TE (mv υ) 1 σ1 1) (hR : MR υ υ2) (r1 : ∀ x, x < 15 → υ2 151 x = f x) (r2 : ∀ x, x < 15 → υ2 152 x = g x) (r3 : ∀ x, x < 15 → υ2 153 x = h x) (hT : TR σ1 σ2 1 f g h) : TE (mv υ2) 1 σ2 1 := by
  have q : ∀ p, p < 6 → σ2 (1 + p) = σ1 (1 + p) := fun p hp => hT.1 _ (by omega) (by omega) (by omega)
  have q0 : σ2 1 = σ1 1 := q 0 (by decide)
  have m8 : υ2 148 = υ 148 := hR.1 148 (by omega)
  have m9 : υ2 149 = υ 149 := hR.1 149 (by omega)
  refine te_mk (fun j hj => ?_) (fun j hj => ?_) (fun j hj => ?_) (fun j hj => ?_) (fun j hj => ?_) (fun j hj => ?_) (fun j hj => ?_) (fun j hj => ?_) ?_ ?_ ?_ ?_
  · rw [q 1 (by decide)]
    show υ2 148 (4 * j) = _
    rw [m8]; exact te.lo (i := 1) (by decide) (by decide) hj
  · rw [q 2 (by decide)]
    show υ2 148 (4 * j + 1) = _
    rw [m8]; exact te.lo (i := 2) (by decide) (by decide) hj
  · rw [q 3 (by decide)]
    show υ2 148 (4 * j + 2) = _
    rw [m8]; exact te.lo (i := 3) (by decide) (by decide) hj
  · rw [q 4 (by decide)]
    show υ2 148 (4 * j + 3) = _
    rw [m8]; exact te.lo (i := 4) (by decide) (by decide) hj
  · rw [q 5 (by decide)]
    show υ2 149 j = _
    rw [m9]; exact te.lo (i := 5) (by decide) (by decide) hj
  · exact (r1 j hj).trans (hT.2.1 j hj).symm
  · exact (r2 j hj).trans (hT.2.2.1 j hj).symm
  · exact (r3 j hj).trans (hT.2.2.2 j hj).symm
  · rw [q0]; exact (hR.2 1 (by omega)).trans te.e8
  · rw [q0]; exact (hR.2 3 (by omega)).trans te.e9
  · rw [q0]; exact (hR.2 4 (by omega)).trans (te.2.2 10 (by decide) (by decide))
  · rw [q0]; exact (hR.2 5 (by omega)).trans (te.2.2 11 (by decide) (by decide))
/-- of the model's rows only those of the joints matter -/
theorem TE.mrow (te : TE (mv υ) 1 σ 1) : (∀ x, x < 15 → υ 151 x = σ 7 x) ∧ (∀ x, x < 15 → υ 152 x = σ 8 x) ∧ ∀ x, x < 15 → υ 153 x = σ 9 x := ⟨fun _ hx => te.hi (i := 6) (by decide) (by decide) hx, fun _ hx => te.hi (i := 7) (by decide) (by decide) hx, fun _ hx => te.hi (i := 8) (by decide) (by decide) hx⟩
end
section
variable {d t s : Nat} {σ : cw_V} {lam : Nat → Int64} {Q : cw_Q}
/-- saved, but for what the search uses -/
def SVw (σ τ : cw_V) (nx c : Nat) : Prop := (∀ p, (p < 37 ∨ 66 < p) → (p < 68 + 9 * nx ∨ 68 + 9 * nx + 8 < p) → τ p = σ p) ∧ TE τ (68 + 9 * nx) σ 1 ∧ τ 66 1 = nI ((nx + 1) % 8) ∧ τ 66 2 = nI (if c = 8 then 8 else c + 1)
theorem SV.w {σ τ : cw_V} {nx c : Nat} (h : SV σ τ nx c) : SVw σ τ nx c := ⟨fun p hp hq => h.1 p (by omega) hq, h.2⟩
theorem z_cfin2 {σ σ1 σ2 : cw_V} {s' nx c : Nat} (hS : SVw σ σ1 nx c) (hn : nx < 8) (hf : ∀ p, (p = 0 ∨ 65 < p) → σ2 p = σ1 p) (hG : GT σ2 1 s') (kk : ∀ τ lam', CHG σ τ lam' s' nx c → SR σ2 τ 1 → Q none (cw_B τ lam')) : cw_Z (d + 5) m_CW_refresh [.ref 0] (cw_B σ2 lam) Q := by
  refine z_refresh hG.1 (fun τ lam' sr fr md pd h0 => kk τ lam' ⟨fun p hp => ?_, ⟨fun p h1 h2 h3 => ?_, ?_, ?_, ?_⟩, sr.te.gt hG, md, pd, Or.inl h0⟩ sr)
  · rw [fr p (by omega), hf p (by omega), hS.1 p (by omega) (by omega)]
  · rw [fr p (by omega), hf p (by omega), hS.1 p (by omega) h3]
  · exact (te_of (fun j hj => by rw [fr _ (by omega), hf _ (by omega)])).trans hS.2.1
  · rw [fr 66 (by omega), hf 66 (by omega)]; exact hS.2.2.1
  · rw [fr 66 (by omega), hf 66 (by omega)]; exact hS.2.2.2
theorem z_isTop' (ht : isT t) (hW : WF σ t s) {n : Nat} (hn : nodeN s (σ (t + 6)) n) (k1 : σ (t + 8) n = -1 → Q (some (.int 1)) (cw_B σ lam)) (k0 : ¬ σ (t + 8) n = -1 → Q (some (.int 0)) (cw_B σ lam)) : cw_Z (d + 2) m_Tree_isTop [.ref t, .int (nI n)] (cw_B σ lam) Q := by
  have ln := hW.2.lt hn
  exact z_isTop ht (fun h => k1 ((hW.top ln).mp h).2) (fun h => k0 (fun z => h ((hW.top ln).mpr ⟨hn, z⟩)))
end
section
variable {d : Nat} {x y v k w : Int32}
theorem sim_joins : SimI (d + 16) m_CW_joins m_Mo_joins [.int x, .int y] := by
  intro σ lam ⟨s, nx, c, n, hI⟩
  have g := hI.1.1
  have mw := hI.2.1.1
  have te := hI.2.1.2.1
  have es : σ 1 8 = nI s := g.1.1
  have h8 : s ≤ 8 := g.1.2.1
  obtain ⟨⟨hnx, hc, h661, h662, h13⟩, hh⟩ := hI.2.2.2.1
  have md := hI.1.2.1
  have pd := hI.1.2.2.1
  have vr : VR (mv σ) 1 s := te.vr h8 g.2.1
  obtain ⟨ρ, hρ⟩ := g.1.2.2.2.2.2.2
  by_cases hb : (∃ n, n < 15 ∧ x = nI n ∧ nodeN s (σ 7) n) ∧ (∃ n, n < 15 ∧ y = nI n ∧ nodeN s (σ 7) n) ∧ x ≠ y
  · obtain ⟨⟨a, a15, rfl, hn1⟩, ⟨b, b15, rfl, hn2⟩, hxy⟩ := hb
    have hna : ∃ n, n < 15 ∧ nI a = nI n ∧ nodeN s (σ 7) n := ⟨a, a15, rfl, hn1⟩
    have hnb : ∃ n, n < 15 ∧ nI b = nI n ∧ nodeN s (σ 7) n := ⟨b, b15, rfl, hn2⟩
    have hab : a ≠ b := fun z => hxy (by rw [z])
    obtain ⟨w1, w2, w3⟩ := te.mrow
    by_cases ht : σ 9 a = -1 ∧ σ 9 b = -1
    · obtain ⟨hat, hkt⟩ := ht
      obtain ⟨j, hj⟩ := g.1.2.free hn1 hn2 hab hat hkt
      have hnk : ¬ Inr (σ 9) ρ a b := fun z => hab ((Inr.top hρ hn1 hat).mp z)
      have hWF := g.1.2.graft hj hn1 hn2 hkt hρ hnk
      refine zi (L := [some (.ref 0), some (.int (nI a)), some (.int (nI b)), none]) rfl rfl (fun K hK => ?_)
      refine st_go hK rfl rfl ?_
      refine st_getr hK rfl qf_0_0 ?_
      refine st_go hK rfl rfl ?_
      refine cv1 hK rfl qc_1 (Nat.le_of_ble_eq_true rfl) ?_
      refine z_hasNode' hT1 g.1 (fun _ => ?_) (fun c => absurd hna c)
      change K _ _ (_ :: _) _
      refine st_if hK rfl rfl (fun c => absurd c (by decide)) (fun _ => ?_)
      refine st_go hK rfl rfl ?_
      refine st_getr hK rfl qf_0_0 ?_
      refine st_go hK rfl rfl ?_
      refine cv1 hK rfl qc_1 (Nat.le_of_ble_eq_true rfl) ?_
      refine z_hasNode' hT1 g.1 (fun _ => ?_) (fun c => absurd hnb c)
      change K _ _ (_ :: _) _
      refine st_if hK rfl rfl (fun c => absurd c (by decide)) (fun _ => ?_)
      refine st_go hK rfl rfl ?_
      refine st_go hK rfl rfl ?_
      refine st_ifn hK rfl rfl (not_congr (nI_eq (a := a) (b := b) (by omega) (by omega))) (fun _ => ?_) (fun c => absurd hab c)
      refine st_go hK rfl rfl ?_
      refine st_getr hK rfl qf_0_0 ?_
      refine st_go hK rfl rfl ?_
      refine cv1 hK rfl qc_1 (Nat.le_of_ble_eq_true rfl) ?_
      refine z_isTop' hT1 g.1 hn1 (fun _ => ?_) (fun c => absurd hat c)
      change K _ _ (_ :: _) _
      refine st_if hK rfl rfl (fun c => absurd c (by decide)) (fun _ => ?_)
      refine st_go hK rfl rfl ?_
      refine st_getr hK rfl qf_0_0 ?_
      refine st_go hK rfl rfl ?_
      refine cv1 hK rfl qc_1 (Nat.le_of_ble_eq_true rfl) ?_
      refine z_isTop' hT1 g.1 hn2 (fun _ => ?_) (fun c => absurd hkt c)
      change K _ _ (_ :: _) _
      refine st_if hK rfl rfl (fun _ => ?_) (fun c => absurd (by decide) c)
      refine st_go hK rfl rfl ?_
      refine st_getr hK rfl qf_0_4 ?_
      refine st_go hK rfl rfl ?_
      refine st_getr hK rfl qf_0_0 ?_
      refine cv1 hK rfl qc_66 (Nat.le_of_ble_eq_true rfl) ?_
      refine z_save h661 hnx h662 hc (fun σ1 hS => ?_)
      change K _ _ _ _
      have s1 : ∀ p, p < 66 → σ1 p = σ p := fun p hp => hS.1 p (by omega) (by omega)
      have g1 : GT σ1 1 s := (te_of (fun j hj => s1 _ (by omega))).gt g
      have es1 : σ1 1 8 = nI s := g1.1.1
      refine st_go hK rfl rfl ?_
      refine st_getr hK rfl qf_0_0 ?_
      refine st_go hK rfl rfl ?_
      refine st_go hK rfl rfl ?_
      refine cv2 hK rfl qc_1 (Nat.le_of_ble_eq_true rfl) ?_
      refine z_addT hT1 g1.1 (j := j) (by rw [s1 (1 + 6) (by decide)]; exact hj) (by rw [s1 (1 + 6) (by decide)]; exact hn1) (by rw [s1 (1 + 6) (by decide)]; exact hn2) hab (by rw [s1 (1 + 8) (by decide)]; exact hat) (fun σ2 hTR => ?_)
      change K _ _ (_ :: _) _
      refine st_go hK rfl rfl ?_
      change K _ [some (.ref 0), some (.int (nI a)), some (.int (nI b)), some (.int (nI j))] _ _
      refine st_go hK rfl rfl ?_
      refine cv0 hK rfl qc_0 (Nat.le_of_ble_eq_true rfl) ?_
      have hf : ∀ p, (p < 1 ∨ 9 < p) → σ2 p = σ1 p := fun p hp => hTR.1 p (by omega) (by omega) (by omega)
      have hG : GT σ2 1 s := gt_tr g1 hTR (by rw [s1 (1 + 6) (by decide), s1 (1 + 7) (by decide), s1 (1 + 8) (by decide)]; exact hWF)
      refine z_cfin hS hnx hf hG (fun τ lam2 hC sr => ?_)
      change K _ _ _ _
      refine st_go hK rfl rfl ?_
      refine st_ret hK rfl rfl ?_
      obtain ⟨mw2, te2, l2, k2, mv2⟩ := hI.mf (τ := τ) (fun p hp => hC.1 p (by omega))
      refine zi (L := [some (.ref 146), some (.int (nI a)), some (.int (nI b))]) rfl rfl (fun K2 hK2 => ?_)
      refine st_go hK2 rfl rfl ?_
      refine st_go hK2 rfl rfl ?_
      refine cv1 hK2 rfl qc_146 (Nat.le_of_ble_eq_true rfl) ?_
      refine z_misNode' hI (fun p hp => hC.1 p (by omega)) (fun _ => ?_) (fun c => absurd hna c)
      change K2 _ _ (_ :: _) _
      refine st_if hK2 rfl rfl (fun c => absurd c (by decide)) (fun _ => ?_)
      refine st_go hK2 rfl rfl ?_
      refine st_go hK2 rfl rfl ?_
      refine cv1 hK2 rfl qc_146 (Nat.le_of_ble_eq_true rfl) ?_
      refine z_misNode' hI (fun p hp => hC.1 p (by omega)) (fun _ => ?_) (fun c => absurd hnb c)
      change K2 _ _ (_ :: _) _
      refine st_if hK2 rfl rfl (fun c => absurd c (by decide)) (fun _ => ?_)
      refine st_go hK2 rfl rfl ?_
      refine st_go hK2 rfl rfl ?_
      refine st_ifn hK2 rfl rfl (not_congr (nI_eq (a := a) (b := b) (by omega) (by omega))) (fun _ => ?_) (fun c => absurd hab c)
      refine st_go hK2 rfl rfl ?_
      refine st_go hK2 rfl rfl ?_
      refine cv1 hK2 rfl qc_146 (Nat.le_of_ble_eq_true rfl) ?_
      refine z_misTop (by omega) (fun _ => ?_) (fun c => absurd ((congrFun (hC.1 153 (by omega)) _).trans ((w3 _ (by omega)).trans hat)) c)
      change K2 _ _ (_ :: _) _
      refine st_if hK2 rfl rfl (fun c => absurd c (by decide)) (fun _ => ?_)
      refine st_go hK2 rfl rfl ?_
      refine st_go hK2 rfl rfl ?_
      refine cv1 hK2 rfl qc_146 (Nat.le_of_ble_eq_true rfl) ?_
      refine z_misTop (by omega) (fun _ => ?_) (fun c => absurd ((congrFun (hC.1 153 (by omega)) _).trans ((w3 _ (by omega)).trans hkt)) c)
      change K2 _ _ (_ :: _) _
      refine st_if hK2 rfl rfl (fun _ => ?_) (fun c => absurd (by decide) c)
      refine st_go hK2 rfl rfl ?_
      refine cv0 hK2 rfl qc_146 (Nat.le_of_ble_eq_true rfl) ?_
      refine z_leaves k2 hc (fun υ hL => ?_)
      change K2 _ _ _ _
      obtain ⟨mw3, mv3⟩ := hL.mf mw2
      have te3 : TE (mv υ) 1 σ 1 := by rw [mv3]; exact te2
      have l3 : υ 146 6 = nI s := (hL.2.1 6 (by decide)).trans l2
      refine st_go hK2 rfl rfl ?_
      refine st_go hK2 rfl rfl ?_
      refine st_go hK2 rfl rfl ?_
      refine cv2 hK2 rfl qc_146 (Nat.le_of_ble_eq_true rfl) ?_
      obtain ⟨w1, w2, w3⟩ := te3.mrow
      have hρ3 : Dep s (υ 151) (υ 153) ρ := Dep.cg hρ h8 w1 w3
      refine z_lays mw3 (isF_cg (fun x hx => (w1 x hx).symm) hj) (te3.nn.mpr hn1) (te3.nn.mpr hn2) ((w3 _ (by omega)).trans hkt) hρ3 (fun z => hnk ((Inr.cg g.1.2 hρ w3 hn1).mp z)) (fun υ2 mw4 hMT => ?_)
      change K2 _ _ (_ :: _) _
      refine st_ret hK2 rfl rfl ?_
      have t3 : TE (mv υ) 1 σ1 1 := te3.trans (te_of (fun j hj => s1 _ (by omega))).symm
      obtain ⟨x1, x2, x3⟩ := t3.mrow
      have hTE : TE (mv υ2) 1 σ2 1 := te_mr t3 hMT.mr (fun x hx => (hMT.2.1 x hx).trans (gL_cg (x1 x hx))) (fun x hx => (hMT.2.2.1 x hx).trans (gR_cg (x2 x hx))) (fun x hx => (hMT.2.2.2 x hx).trans (gP_cg (x3 x hx) (x3 _ (by omega)))) hTR
      exact Res.mk (hI.chg hC (mch_mr hL hMT.mr mw4 l3) (hTE.trans sr.te.symm))
    · skip
      refine zi (L := [some (.ref 0), some (.int (nI a)), some (.int (nI b)), none]) rfl rfl (fun K hK => ?_)
      refine st_go hK rfl rfl ?_
      refine st_getr hK rfl qf_0_0 ?_
      refine st_go hK rfl rfl ?_
      refine cv1 hK rfl qc_1 (Nat.le_of_ble_eq_true rfl) ?_
      refine z_hasNode' hT1 g.1 (fun _ => ?_) (fun c => absurd hna c)
      change K _ _ (_ :: _) _
      refine st_if hK rfl rfl (fun c => absurd c (by decide)) (fun _ => ?_)
      refine st_go hK rfl rfl ?_
      refine st_getr hK rfl qf_0_0 ?_
      refine st_go hK rfl rfl ?_
      refine cv1 hK rfl qc_1 (Nat.le_of_ble_eq_true rfl) ?_
      refine z_hasNode' hT1 g.1 (fun _ => ?_) (fun c => absurd hnb c)
      change K _ _ (_ :: _) _
      refine st_if hK rfl rfl (fun c => absurd c (by decide)) (fun _ => ?_)
      refine st_go hK rfl rfl ?_
      refine st_go hK rfl rfl ?_
      refine st_ifn hK rfl rfl (not_congr (nI_eq (a := a) (b := b) (by omega) (by omega))) (fun _ => ?_) (fun c => absurd hab c)
      refine st_go hK rfl rfl ?_
      refine st_getr hK rfl qf_0_0 ?_
      refine st_go hK rfl rfl ?_
      refine cv1 hK rfl qc_1 (Nat.le_of_ble_eq_true rfl) ?_
      refine z_isTop' hT1 g.1 hn1 (fun q1 => ?_) (fun q1 => ?_)
      · change K _ _ (_ :: _) _
        refine st_if hK rfl rfl (fun c => absurd c (by decide)) (fun _ => ?_)
        refine st_go hK rfl rfl ?_
        refine st_getr hK rfl qf_0_0 ?_
        refine st_go hK rfl rfl ?_
        refine cv1 hK rfl qc_1 (Nat.le_of_ble_eq_true rfl) ?_
        refine z_isTop' hT1 g.1 hn2 (fun q2 => absurd ⟨q1, q2⟩ ht) (fun q2 => ?_)
        change K _ _ (_ :: _) _
        refine st_if hK rfl rfl (fun c => absurd c (by decide)) (fun _ => ?_)
        refine st_go hK rfl rfl ?_
        refine st_go hK rfl rfl ?_
        refine cv1 hK rfl qc_0 (Nat.le_of_ble_eq_true rfl) ?_
        refine z_rno ?_
        change K _ _ (_ :: _) _
        refine st_ret hK rfl rfl ?_
        obtain ⟨mw2, te2, l2, k2, mv2⟩ := hI.mf (τ := (cw_up σ 0 7 (σ 0 7 + 1))) (fun p hp => up_ne (by omega))
        refine zi (L := [some (.ref 146), some (.int (nI a)), some (.int (nI b))]) rfl rfl (fun K2 hK2 => ?_)
        refine st_go hK2 rfl rfl ?_
        refine st_go hK2 rfl rfl ?_
        refine cv1 hK2 rfl qc_146 (Nat.le_of_ble_eq_true rfl) ?_
        refine z_misNode' hI (fun p hp => up_ne (by omega)) (fun _ => ?_) (fun c => absurd hna c)
        change K2 _ _ (_ :: _) _
        refine st_if hK2 rfl rfl (fun c => absurd c (by decide)) (fun _ => ?_)
        refine st_go hK2 rfl rfl ?_
        refine st_go hK2 rfl rfl ?_
        refine cv1 hK2 rfl qc_146 (Nat.le_of_ble_eq_true rfl) ?_
        refine z_misNode' hI (fun p hp => up_ne (by omega)) (fun _ => ?_) (fun c => absurd hnb c)
        change K2 _ _ (_ :: _) _
        refine st_if hK2 rfl rfl (fun c => absurd c (by decide)) (fun _ => ?_)
        refine st_go hK2 rfl rfl ?_
        refine st_go hK2 rfl rfl ?_
        refine st_ifn hK2 rfl rfl (not_congr (nI_eq (a := a) (b := b) (by omega) (by omega))) (fun _ => ?_) (fun c => absurd hab c)
        refine st_go hK2 rfl rfl ?_
        refine st_go hK2 rfl rfl ?_
        refine cv1 hK2 rfl qc_146 (Nat.le_of_ble_eq_true rfl) ?_
        refine z_misTop (by omega) (fun r1 => ?_) (fun r1 => ?_)
        · change K2 _ _ (_ :: _) _
          refine st_if hK2 rfl rfl (fun c => absurd c (by decide)) (fun _ => ?_)
          refine st_go hK2 rfl rfl ?_
          refine st_go hK2 rfl rfl ?_
          refine cv1 hK2 rfl qc_146 (Nat.le_of_ble_eq_true rfl) ?_
          refine z_misTop (by omega) (fun r2 => absurd ⟨(w3 a a15).symm.trans ((congrFun (up_ne (by decide)) _).symm.trans r1), (w3 b b15).symm.trans ((congrFun (up_ne (by decide)) _).symm.trans r2)⟩ ht) (fun r2 => ?_)
          change K2 _ _ (_ :: _) _
          refine st_if hK2 rfl rfl (fun c => absurd c (by decide)) (fun _ => ?_)
          refine st_go hK2 rfl rfl ?_
          refine cv0 hK2 rfl qc_146 (Nat.le_of_ble_eq_true rfl) ?_
          refine z_mno ?_
          change K2 _ _ (_ :: _) _
          refine st_ret hK2 rfl rfl ?_
          exact Res.mk (hI.err (k := 1) (by decide))
        · change K2 _ _ (_ :: _) _
          refine st_if hK2 rfl rfl (fun _ => ?_) (fun c => absurd (by decide) c)
          refine st_go hK2 rfl rfl ?_
          refine cv0 hK2 rfl qc_146 (Nat.le_of_ble_eq_true rfl) ?_
          refine z_mno ?_
          change K2 _ _ (_ :: _) _
          refine st_ret hK2 rfl rfl ?_
          exact Res.mk (hI.err (k := 1) (by decide))
      · change K _ _ (_ :: _) _
        refine st_if hK rfl rfl (fun _ => ?_) (fun c => absurd (by decide) c)
        refine st_go hK rfl rfl ?_
        refine st_go hK rfl rfl ?_
        refine cv1 hK rfl qc_0 (Nat.le_of_ble_eq_true rfl) ?_
        refine z_rno ?_
        change K _ _ (_ :: _) _
        refine st_ret hK rfl rfl ?_
        obtain ⟨mw2, te2, l2, k2, mv2⟩ := hI.mf (τ := (cw_up σ 0 7 (σ 0 7 + 1))) (fun p hp => up_ne (by omega))
        refine zi (L := [some (.ref 146), some (.int (nI a)), some (.int (nI b))]) rfl rfl (fun K2 hK2 => ?_)
        refine st_go hK2 rfl rfl ?_
        refine st_go hK2 rfl rfl ?_
        refine cv1 hK2 rfl qc_146 (Nat.le_of_ble_eq_true rfl) ?_
        refine z_misNode' hI (fun p hp => up_ne (by omega)) (fun _ => ?_) (fun c => absurd hna c)
        change K2 _ _ (_ :: _) _
        refine st_if hK2 rfl rfl (fun c => absurd c (by decide)) (fun _ => ?_)
        refine st_go hK2 rfl rfl ?_
        refine st_go hK2 rfl rfl ?_
        refine cv1 hK2 rfl qc_146 (Nat.le_of_ble_eq_true rfl) ?_
        refine z_misNode' hI (fun p hp => up_ne (by omega)) (fun _ => ?_) (fun c => absurd hnb c)
        change K2 _ _ (_ :: _) _
        refine st_if hK2 rfl rfl (fun c => absurd c (by decide)) (fun _ => ?_)
        refine st_go hK2 rfl rfl ?_
        refine st_go hK2 rfl rfl ?_
        refine st_ifn hK2 rfl rfl (not_congr (nI_eq (a := a) (b := b) (by omega) (by omega))) (fun _ => ?_) (fun c => absurd hab c)
        refine st_go hK2 rfl rfl ?_
        refine st_go hK2 rfl rfl ?_
        refine cv1 hK2 rfl qc_146 (Nat.le_of_ble_eq_true rfl) ?_
        refine z_misTop (by omega) (fun r1 => ?_) (fun r1 => ?_)
        · change K2 _ _ (_ :: _) _
          refine st_if hK2 rfl rfl (fun c => absurd c (by decide)) (fun _ => ?_)
          refine st_go hK2 rfl rfl ?_
          refine st_go hK2 rfl rfl ?_
          refine cv1 hK2 rfl qc_146 (Nat.le_of_ble_eq_true rfl) ?_
          refine z_misTop (by omega) (fun r2 => absurd ⟨(w3 a a15).symm.trans ((congrFun (up_ne (by decide)) _).symm.trans r1), (w3 b b15).symm.trans ((congrFun (up_ne (by decide)) _).symm.trans r2)⟩ ht) (fun r2 => ?_)
          change K2 _ _ (_ :: _) _
          refine st_if hK2 rfl rfl (fun c => absurd c (by decide)) (fun _ => ?_)
          refine st_go hK2 rfl rfl ?_
          refine cv0 hK2 rfl qc_146 (Nat.le_of_ble_eq_true rfl) ?_
          refine z_mno ?_
          change K2 _ _ (_ :: _) _
          refine st_ret hK2 rfl rfl ?_
          exact Res.mk (hI.err (k := 1) (by decide))
        · change K2 _ _ (_ :: _) _
          refine st_if hK2 rfl rfl (fun _ => ?_) (fun c => absurd (by decide) c)
          refine st_go hK2 rfl rfl ?_
          refine cv0 hK2 rfl qc_146 (Nat.le_of_ble_eq_true rfl) ?_
          refine z_mno ?_
          change K2 _ _ (_ :: _) _
          refine st_ret hK2 rfl rfl ?_
          exact Res.mk (hI.err (k := 1) (by decide))
  · skip
    refine zi (L := [some (.ref 0), some (.int x), some (.int y), none]) rfl rfl (fun K hK => ?_)
    refine st_go hK rfl rfl ?_
    refine st_getr hK rfl qf_0_0 ?_
    refine st_go hK rfl rfl ?_
    refine cv1 hK rfl qc_1 (Nat.le_of_ble_eq_true rfl) ?_
    refine z_hasNode' hT1 g.1 (fun h1 => ?_) (fun h1 => ?_)
    · change K _ _ (_ :: _) _
      refine st_if hK rfl rfl (fun c => absurd c (by decide)) (fun _ => ?_)
      refine st_go hK rfl rfl ?_
      refine st_getr hK rfl qf_0_0 ?_
      refine st_go hK rfl rfl ?_
      refine cv1 hK rfl qc_1 (Nat.le_of_ble_eq_true rfl) ?_
      refine z_hasNode' hT1 g.1 (fun h2 => ?_) (fun h2 => ?_)
      · change K _ _ (_ :: _) _
        refine st_if hK rfl rfl (fun c => absurd c (by decide)) (fun _ => ?_)
        refine st_go hK rfl rfl ?_
        refine st_go hK rfl rfl ?_
        refine st_if hK rfl rfl (fun c => absurd c (fun z => hb ⟨h1, h2, z⟩)) (fun _ => ?_)
        refine st_go hK rfl rfl ?_
        refine st_go hK rfl rfl ?_
        refine cv1 hK rfl qc_0 (Nat.le_of_ble_eq_true rfl) ?_
        refine z_rbad ?_
        change K _ _ (_ :: _) _
        refine st_ret hK rfl rfl ?_
        obtain ⟨mw2, te2, l2, k2, mv2⟩ := hI.mf (τ := (cw_up σ 0 6 (σ 0 6 + 1))) (fun p hp => up_ne (by omega))
        refine zi (L := [some (.ref 146), some (.int x), some (.int y)]) rfl rfl (fun K2 hK2 => ?_)
        refine st_go hK2 rfl rfl ?_
        refine st_go hK2 rfl rfl ?_
        refine cv1 hK2 rfl qc_146 (Nat.le_of_ble_eq_true rfl) ?_
        refine z_misNode' hI (fun p hp => up_ne (by omega)) (fun j1 => ?_) (fun j1 => ?_)
        · change K2 _ _ (_ :: _) _
          refine st_if hK2 rfl rfl (fun c => absurd c (by decide)) (fun _ => ?_)
          refine st_go hK2 rfl rfl ?_
          refine st_go hK2 rfl rfl ?_
          refine cv1 hK2 rfl qc_146 (Nat.le_of_ble_eq_true rfl) ?_
          refine z_misNode' hI (fun p hp => up_ne (by omega)) (fun j2 => ?_) (fun j2 => ?_)
          · change K2 _ _ (_ :: _) _
            refine st_if hK2 rfl rfl (fun c => absurd c (by decide)) (fun _ => ?_)
            refine st_go hK2 rfl rfl ?_
            refine st_go hK2 rfl rfl ?_
            refine st_if hK2 rfl rfl (fun c => absurd c (fun z => hb ⟨j1, j2, z⟩)) (fun _ => ?_)
            refine st_go hK2 rfl rfl ?_
            refine cv0 hK2 rfl qc_146 (Nat.le_of_ble_eq_true rfl) ?_
            refine z_mbad ?_
            change K2 _ _ (_ :: _) _
            refine st_ret hK2 rfl rfl ?_
            exact Res.mk (hI.err (k := 0) (by decide))
          · change K2 _ _ (_ :: _) _
            refine st_if hK2 rfl rfl (fun _ => ?_) (fun c => absurd (by decide) c)
            refine st_go hK2 rfl rfl ?_
            refine cv0 hK2 rfl qc_146 (Nat.le_of_ble_eq_true rfl) ?_
            refine z_mbad ?_
            change K2 _ _ (_ :: _) _
            refine st_ret hK2 rfl rfl ?_
            exact Res.mk (hI.err (k := 0) (by decide))
        · change K2 _ _ (_ :: _) _
          refine st_if hK2 rfl rfl (fun _ => ?_) (fun c => absurd (by decide) c)
          refine st_go hK2 rfl rfl ?_
          refine cv0 hK2 rfl qc_146 (Nat.le_of_ble_eq_true rfl) ?_
          refine z_mbad ?_
          change K2 _ _ (_ :: _) _
          refine st_ret hK2 rfl rfl ?_
          exact Res.mk (hI.err (k := 0) (by decide))
      · change K _ _ (_ :: _) _
        refine st_if hK rfl rfl (fun _ => ?_) (fun c => absurd (by decide) c)
        refine st_go hK rfl rfl ?_
        refine st_go hK rfl rfl ?_
        refine cv1 hK rfl qc_0 (Nat.le_of_ble_eq_true rfl) ?_
        refine z_rbad ?_
        change K _ _ (_ :: _) _
        refine st_ret hK rfl rfl ?_
        obtain ⟨mw2, te2, l2, k2, mv2⟩ := hI.mf (τ := (cw_up σ 0 6 (σ 0 6 + 1))) (fun p hp => up_ne (by omega))
        refine zi (L := [some (.ref 146), some (.int x), some (.int y)]) rfl rfl (fun K2 hK2 => ?_)
        refine st_go hK2 rfl rfl ?_
        refine st_go hK2 rfl rfl ?_
        refine cv1 hK2 rfl qc_146 (Nat.le_of_ble_eq_true rfl) ?_
        refine z_misNode' hI (fun p hp => up_ne (by omega)) (fun j1 => ?_) (fun j1 => ?_)
        · change K2 _ _ (_ :: _) _
          refine st_if hK2 rfl rfl (fun c => absurd c (by decide)) (fun _ => ?_)
          refine st_go hK2 rfl rfl ?_
          refine st_go hK2 rfl rfl ?_
          refine cv1 hK2 rfl qc_146 (Nat.le_of_ble_eq_true rfl) ?_
          refine z_misNode' hI (fun p hp => up_ne (by omega)) (fun j2 => ?_) (fun j2 => ?_)
          · change K2 _ _ (_ :: _) _
            refine st_if hK2 rfl rfl (fun c => absurd c (by decide)) (fun _ => ?_)
            refine st_go hK2 rfl rfl ?_
            refine st_go hK2 rfl rfl ?_
            refine st_if hK2 rfl rfl (fun c => absurd c (fun z => hb ⟨j1, j2, z⟩)) (fun _ => ?_)
            refine st_go hK2 rfl rfl ?_
            refine cv0 hK2 rfl qc_146 (Nat.le_of_ble_eq_true rfl) ?_
            refine z_mbad ?_
            change K2 _ _ (_ :: _) _
            refine st_ret hK2 rfl rfl ?_
            exact Res.mk (hI.err (k := 0) (by decide))
          · change K2 _ _ (_ :: _) _
            refine st_if hK2 rfl rfl (fun _ => ?_) (fun c => absurd (by decide) c)
            refine st_go hK2 rfl rfl ?_
            refine cv0 hK2 rfl qc_146 (Nat.le_of_ble_eq_true rfl) ?_
            refine z_mbad ?_
            change K2 _ _ (_ :: _) _
            refine st_ret hK2 rfl rfl ?_
            exact Res.mk (hI.err (k := 0) (by decide))
        · change K2 _ _ (_ :: _) _
          refine st_if hK2 rfl rfl (fun _ => ?_) (fun c => absurd (by decide) c)
          refine st_go hK2 rfl rfl ?_
          refine cv0 hK2 rfl qc_146 (Nat.le_of_ble_eq_true rfl) ?_
          refine z_mbad ?_
          change K2 _ _ (_ :: _) _
          refine st_ret hK2 rfl rfl ?_
          exact Res.mk (hI.err (k := 0) (by decide))
    · change K _ _ (_ :: _) _
      refine st_if hK rfl rfl (fun _ => ?_) (fun c => absurd (by decide) c)
      refine st_go hK rfl rfl ?_
      refine st_go hK rfl rfl ?_
      refine cv1 hK rfl qc_0 (Nat.le_of_ble_eq_true rfl) ?_
      refine z_rbad ?_
      change K _ _ (_ :: _) _
      refine st_ret hK rfl rfl ?_
      obtain ⟨mw2, te2, l2, k2, mv2⟩ := hI.mf (τ := (cw_up σ 0 6 (σ 0 6 + 1))) (fun p hp => up_ne (by omega))
      refine zi (L := [some (.ref 146), some (.int x), some (.int y)]) rfl rfl (fun K2 hK2 => ?_)
      refine st_go hK2 rfl rfl ?_
      refine st_go hK2 rfl rfl ?_
      refine cv1 hK2 rfl qc_146 (Nat.le_of_ble_eq_true rfl) ?_
      refine z_misNode' hI (fun p hp => up_ne (by omega)) (fun j1 => ?_) (fun j1 => ?_)
      · change K2 _ _ (_ :: _) _
        refine st_if hK2 rfl rfl (fun c => absurd c (by decide)) (fun _ => ?_)
        refine st_go hK2 rfl rfl ?_
        refine st_go hK2 rfl rfl ?_
        refine cv1 hK2 rfl qc_146 (Nat.le_of_ble_eq_true rfl) ?_
        refine z_misNode' hI (fun p hp => up_ne (by omega)) (fun j2 => ?_) (fun j2 => ?_)
        · change K2 _ _ (_ :: _) _
          refine st_if hK2 rfl rfl (fun c => absurd c (by decide)) (fun _ => ?_)
          refine st_go hK2 rfl rfl ?_
          refine st_go hK2 rfl rfl ?_
          refine st_if hK2 rfl rfl (fun c => absurd c (fun z => hb ⟨j1, j2, z⟩)) (fun _ => ?_)
          refine st_go hK2 rfl rfl ?_
          refine cv0 hK2 rfl qc_146 (Nat.le_of_ble_eq_true rfl) ?_
          refine z_mbad ?_
          change K2 _ _ (_ :: _) _
          refine st_ret hK2 rfl rfl ?_
          exact Res.mk (hI.err (k := 0) (by decide))
        · change K2 _ _ (_ :: _) _
          refine st_if hK2 rfl rfl (fun _ => ?_) (fun c => absurd (by decide) c)
          refine st_go hK2 rfl rfl ?_
          refine cv0 hK2 rfl qc_146 (Nat.le_of_ble_eq_true rfl) ?_
          refine z_mbad ?_
          change K2 _ _ (_ :: _) _
          refine st_ret hK2 rfl rfl ?_
          exact Res.mk (hI.err (k := 0) (by decide))
      · change K2 _ _ (_ :: _) _
        refine st_if hK2 rfl rfl (fun _ => ?_) (fun c => absurd (by decide) c)
        refine st_go hK2 rfl rfl ?_
        refine cv0 hK2 rfl qc_146 (Nat.le_of_ble_eq_true rfl) ?_
        refine z_mbad ?_
        change K2 _ _ (_ :: _) _
        refine st_ret hK2 rfl rfl ?_
        exact Res.mk (hI.err (k := 0) (by decide))
theorem sim_frees : SimI (d + 16) m_CW_frees m_Mo_frees [] := by
  intro σ lam ⟨s, nx, c, n, hI⟩
  have g := hI.1.1
  have mw := hI.2.1.1
  have te := hI.2.1.2.1
  have es : σ 1 8 = nI s := g.1.1
  have h8 : s ≤ 8 := g.1.2.1
  obtain ⟨⟨hnx, hc, h661, h662, h13⟩, hh⟩ := hI.2.2.2.1
  have md := hI.1.2.1
  have pd := hI.1.2.2.1
  have vr : VR (mv σ) 1 s := te.vr h8 g.2.1
  obtain ⟨ρ, hρ⟩ := g.1.2.2.2.2.2.2

  refine zi (L := [some (.ref 0), none]) rfl rfl (fun K hK => ?_)
  refine st_go hK rfl rfl ?_
  refine st_getr hK rfl qf_0_4 ?_
  refine st_go hK rfl rfl ?_
  refine st_getr hK rfl qf_0_0 ?_
  refine cv1 hK rfl qc_66 (Nat.le_of_ble_eq_true rfl) ?_
  refine z_save h661 hnx h662 hc (fun σ1 hS => ?_)
  change K _ _ _ _
  have s1 : ∀ p, p < 66 → σ1 p = σ p := fun p hp => hS.1 p (by omega) (by omega)
  have g1 : GT σ1 1 s := (te_of (fun j hj => s1 _ (by omega))).gt g
  have es1 : σ1 1 8 = nI s := g1.1.1
  refine st_go hK rfl rfl ?_
  refine st_getr hK rfl qf_0_0 ?_
  refine cv0 hK rfl qc_1 (Nat.le_of_ble_eq_true rfl) ?_
  refine z_jointCount hT1 ?_
  rw [jc_te (te_of (fun j hj => s1 _ (by omega))) 7 (by decide)]
  change K _ _ (_ :: _) _
  refine st_go hK rfl rfl ?_
  change K _ [some (.ref 0), some (.int (nI (jcN σ 1 7)))] _ _
  refine st_go hK rfl rfl ?_
  refine st_getr hK rfl qf_0_0 ?_
  refine cv0 hK rfl qc_1 (Nat.le_of_ble_eq_true rfl) ?_
  refine z_removeJoints hT1 ?_
  have hTR : TR σ1 (rmF σ1 1 15) 1 (fun _ => -1) (fun _ => -1) (fun _ => -1) := ⟨fun p p6 p7 p8 => if_neg (fun z => by omega), fun x hx => by unfold rmF; rw [if_pos (Or.inl rfl), if_pos hx], fun x hx => by unfold rmF; rw [if_pos (Or.inr (Or.inl rfl)), if_pos hx], fun x hx => by unfold rmF; rw [if_pos (Or.inr (Or.inr rfl)), if_pos hx]⟩
  change K _ _ _ _
  refine st_go hK rfl rfl ?_
  refine cv0 hK rfl qc_0 (Nat.le_of_ble_eq_true rfl) ?_
  have hf : ∀ p, (p < 1 ∨ 9 < p) → (rmF σ1 1 15) p = σ1 p := fun p hp => hTR.1 p (by omega) (by omega) (by omega)
  have hG : GT (rmF σ1 1 15) 1 s := gt_tr g1 hTR (WFt.none h8 (fun _ _ => rfl) (fun _ _ => rfl) (fun _ _ => rfl))
  refine z_cfin hS hnx hf hG (fun τ lam2 hC sr => ?_)
  change K _ _ _ _
  refine st_go hK rfl rfl ?_
  refine st_ret hK rfl rfl ?_
  obtain ⟨mw2, te2, l2, k2, mv2⟩ := hI.mf (τ := τ) (fun p hp => hC.1 p (by omega))
  refine zi (L := [some (.ref 146)]) rfl rfl (fun K2 hK2 => ?_)
  refine st_go hK2 rfl rfl ?_
  refine cv0 hK2 rfl qc_146 (Nat.le_of_ble_eq_true rfl) ?_
  refine z_leaves k2 hc (fun υ hL => ?_)
  change K2 _ _ _ _
  obtain ⟨mw3, mv3⟩ := hL.mf mw2
  have te3 : TE (mv υ) 1 σ 1 := by rw [mv3]; exact te2
  have l3 : υ 146 6 = nI s := (hL.2.1 6 (by decide)).trans l2
  refine st_go hK2 rfl rfl ?_
  refine cv0 hK2 rfl qc_146 (Nat.le_of_ble_eq_true rfl) ?_
  refine z_noJoints mw3 (fun υ2 mw4 hMT => ?_)
  rw [jc_te te3 7 (by decide)]
  change K2 _ _ (_ :: _) _
  refine st_ret hK2 rfl rfl ?_
  have t3 : TE (mv υ) 1 σ1 1 := te3.trans (te_of (fun j hj => s1 _ (by omega))).symm
  have hTE : TE (mv υ2) 1 (rmF σ1 1 15) 1 := te_mr t3 hMT.mr hMT.2.1 hMT.2.2.1 hMT.2.2.2 hTR
  exact Res.mk (hI.chg hC (mch_mr hL hMT.mr mw4 l3) (hTE.trans sr.te.symm))
theorem sim_cuts : SimI (d + 16) m_CW_cuts m_Mo_cuts [.int x] := by
  intro σ lam ⟨s, nx, c, n, hI⟩
  have g := hI.1.1
  have mw := hI.2.1.1
  have te := hI.2.1.2.1
  have es : σ 1 8 = nI s := g.1.1
  have h8 : s ≤ 8 := g.1.2.1
  obtain ⟨⟨hnx, hc, h661, h662, h13⟩, hh⟩ := hI.2.2.2.1
  have md := hI.1.2.1
  have pd := hI.1.2.2.1
  have vr : VR (mv σ) 1 s := te.vr h8 g.2.1
  obtain ⟨ρ, hρ⟩ := g.1.2.2.2.2.2.2
  obtain ⟨w1, w2, w3⟩ := te.mrow
  by_cases hb : ∃ n, n < 15 ∧ x = nI n ∧ nodeN s (σ 7) n
  · obtain ⟨a, a15, rfl, hn1⟩ := hb
    have hna : ∃ n, n < 15 ∧ nI a = nI n ∧ nodeN s (σ 7) n := ⟨a, a15, rfl, hn1⟩
    by_cases hat : σ 9 a = -1
    · skip
      refine zi (L := [some (.ref 0), some (.int (nI a)), none]) rfl rfl (fun K hK => ?_)
      refine st_go hK rfl rfl ?_
      refine st_getr hK rfl qf_0_0 ?_
      refine st_go hK rfl rfl ?_
      refine cv1 hK rfl qc_1 (Nat.le_of_ble_eq_true rfl) ?_
      refine z_hasNode' hT1 g.1 (fun _ => ?_) (fun c => absurd hna c)
      change K _ _ (_ :: _) _
      refine st_if hK rfl rfl (fun _ => ?_) (fun c => absurd (by decide) c)
      refine st_go hK rfl rfl ?_
      refine st_getr hK rfl qf_0_0 ?_
      refine st_go hK rfl rfl ?_
      refine cv1 hK rfl qc_1 (Nat.le_of_ble_eq_true rfl) ?_
      refine z_isTop' hT1 g.1 hn1 (fun _ => ?_) (fun c => absurd hat c)
      change K _ _ (_ :: _) _
      refine st_if hK rfl rfl (fun c => absurd c (by decide)) (fun _ => ?_)
      refine st_go hK rfl rfl ?_
      refine st_go hK rfl rfl ?_
      refine cv1 hK rfl qc_0 (Nat.le_of_ble_eq_true rfl) ?_
      refine z_rno ?_
      change K _ _ (_ :: _) _
      refine st_ret hK rfl rfl ?_
      obtain ⟨mw2, te2, l2, k2, mv2⟩ := hI.mf (τ := (cw_up σ 0 7 (σ 0 7 + 1))) (fun p hp => up_ne (by omega))
      refine zi (L := [some (.ref 146), some (.int (nI a))]) rfl rfl (fun K2 hK2 => ?_)
      refine st_go hK2 rfl rfl ?_
      refine st_go hK2 rfl rfl ?_
      refine cv1 hK2 rfl qc_146 (Nat.le_of_ble_eq_true rfl) ?_
      refine z_misNode' hI (fun p hp => up_ne (by omega)) (fun _ => ?_) (fun c => absurd hna c)
      change K2 _ _ (_ :: _) _
      refine st_if hK2 rfl rfl (fun _ => ?_) (fun c => absurd (by decide) c)
      refine st_go hK2 rfl rfl ?_
      refine st_go hK2 rfl rfl ?_
      refine cv1 hK2 rfl qc_146 (Nat.le_of_ble_eq_true rfl) ?_
      refine z_misTop a15 (fun _ => ?_) (fun c => absurd (((congrFun (up_ne (by decide)) _).trans (w3 a a15)).trans hat) c)
      change K2 _ _ (_ :: _) _
      refine st_if hK2 rfl rfl (fun c => absurd c (by decide)) (fun _ => ?_)
      refine st_go hK2 rfl rfl ?_
      refine cv0 hK2 rfl qc_146 (Nat.le_of_ble_eq_true rfl) ?_
      refine z_mno ?_
      change K2 _ _ (_ :: _) _
      refine st_ret hK2 rfl rfl ?_
      exact Res.mk (hI.err (k := 1) (by decide))
    · obtain ⟨p, q, p8, p15, p1, p2, p3, nq, a_q, pq, hch⟩ := g.1.2.sib hn1 hat
      have lq := g.1.2.lt nq
      have hWF := g.1.2.cut hn1 nq a_q p8 p15 p1 pq
      refine zi (L := [some (.ref 0), some (.int (nI a)), none]) rfl rfl (fun K hK => ?_)
      refine st_go hK rfl rfl ?_
      refine st_getr hK rfl qf_0_0 ?_
      refine st_go hK rfl rfl ?_
      refine cv1 hK rfl qc_1 (Nat.le_of_ble_eq_true rfl) ?_
      refine z_hasNode' hT1 g.1 (fun _ => ?_) (fun c => absurd hna c)
      change K _ _ (_ :: _) _
      refine st_if hK rfl rfl (fun _ => ?_) (fun c => absurd (by decide) c)
      refine st_go hK rfl rfl ?_
      refine st_getr hK rfl qf_0_0 ?_
      refine st_go hK rfl rfl ?_
      refine cv1 hK rfl qc_1 (Nat.le_of_ble_eq_true rfl) ?_
      refine z_isTop' hT1 g.1 hn1 (fun c => absurd c hat) (fun _ => ?_)
      change K _ _ (_ :: _) _
      refine st_if hK rfl rfl (fun _ => ?_) (fun c => absurd (by decide) c)
      refine st_go hK rfl rfl ?_
      refine st_getr hK rfl qf_0_4 ?_
      refine st_go hK rfl rfl ?_
      refine st_getr hK rfl qf_0_0 ?_
      refine cv1 hK rfl qc_66 (Nat.le_of_ble_eq_true rfl) ?_
      refine z_save h661 hnx h662 hc (fun σ1 hS => ?_)
      change K _ _ _ _
      have s1 : ∀ p, p < 66 → σ1 p = σ p := fun p hp => hS.1 p (by omega) (by omega)
      have g1 : GT σ1 1 s := (te_of (fun j hj => s1 _ (by omega))).gt g
      have es1 : σ1 1 8 = nI s := g1.1.1
      refine st_go hK rfl rfl ?_
      refine st_getr hK rfl qf_0_0 ?_
      refine st_go hK rfl rfl ?_
      refine cv1 hK rfl qc_1 (Nat.le_of_ble_eq_true rfl) ?_
      refine z_cutT hT1 g1.1 (p := p) (o := q) (by rw [s1 (1 + 6) (by decide)]; exact hn1) p8 p15 (by rw [s1 (1 + 8) (by decide)]; exact p1) (by rw [s1 (1 + 6) (by decide)]; exact p3) (by rw [s1 (1 + 6) (by decide)]; exact nq) a_q (by rw [s1 (1 + 8) (by decide)]; exact pq) (by rw [s1 (1 + 6) (by decide), s1 (1 + 7) (by decide)]; exact hch) (fun σ2 hTR => ?_)
      change K _ _ (_ :: _) _
      refine st_go hK rfl rfl ?_
      change K _ [some (.ref 0), some (.int (nI a)), some (.int (nI p))] _ _
      refine st_go hK rfl rfl ?_
      refine cv0 hK rfl qc_0 (Nat.le_of_ble_eq_true rfl) ?_
      have hf : ∀ p, (p < 1 ∨ 9 < p) → σ2 p = σ1 p := fun p hp => hTR.1 p (by omega) (by omega) (by omega)
      have hG : GT σ2 1 s := gt_tr g1 hTR (by rw [s1 (1 + 6) (by decide), s1 (1 + 7) (by decide), s1 (1 + 8) (by decide)]; exact hWF)
      refine z_cfin hS hnx hf hG (fun τ lam2 hC sr => ?_)
      change K _ _ _ _
      refine st_go hK rfl rfl ?_
      refine st_ret hK rfl rfl ?_
      obtain ⟨mw2, te2, l2, k2, mv2⟩ := hI.mf (τ := τ) (fun p hp => hC.1 p (by omega))
      refine zi (L := [some (.ref 146), some (.int (nI a))]) rfl rfl (fun K2 hK2 => ?_)
      refine st_go hK2 rfl rfl ?_
      refine st_go hK2 rfl rfl ?_
      refine cv1 hK2 rfl qc_146 (Nat.le_of_ble_eq_true rfl) ?_
      refine z_misNode' hI (fun p hp => hC.1 p (by omega)) (fun _ => ?_) (fun c => absurd hna c)
      change K2 _ _ (_ :: _) _
      refine st_if hK2 rfl rfl (fun _ => ?_) (fun c => absurd (by decide) c)
      refine st_go hK2 rfl rfl ?_
      refine st_go hK2 rfl rfl ?_
      refine cv1 hK2 rfl qc_146 (Nat.le_of_ble_eq_true rfl) ?_
      refine z_misTop a15 (fun c => absurd (((congrFun (hC.1 153 (by omega)) _).trans (w3 a a15)).symm.trans c) hat) (fun _ => ?_)
      change K2 _ _ (_ :: _) _
      refine st_if hK2 rfl rfl (fun _ => ?_) (fun c => absurd (by decide) c)
      refine st_go hK2 rfl rfl ?_
      refine cv0 hK2 rfl qc_146 (Nat.le_of_ble_eq_true rfl) ?_
      refine z_leaves k2 hc (fun υ hL => ?_)
      change K2 _ _ _ _
      obtain ⟨mw3, mv3⟩ := hL.mf mw2
      have te3 : TE (mv υ) 1 σ 1 := by rw [mv3]; exact te2
      have l3 : υ 146 6 = nI s := (hL.2.1 6 (by decide)).trans l2
      refine st_go hK2 rfl rfl ?_
      refine st_go hK2 rfl rfl ?_
      refine cv1 hK2 rfl qc_146 (Nat.le_of_ble_eq_true rfl) ?_
      obtain ⟨v1, v2, v3⟩ := te3.mrow
      refine z_takesOff mw3 (p := p) (o := q) (te3.nn.mpr hn1) p8 p15 ((v3 _ (by omega)).trans p1) (te3.nn.mpr p3) (te3.nn.mpr nq) a_q ((v3 _ (by omega)).trans pq) (by rw [v1 p p15, v2 p p15]; exact hch) (fun υ2 mw4 hMT => ?_)
      change K2 _ _ (_ :: _) _
      refine st_ret hK2 rfl rfl ?_
      have t3 : TE (mv υ) 1 σ1 1 := te3.trans (te_of (fun j hj => s1 _ (by omega))).symm
      obtain ⟨x1, x2, x3⟩ := t3.mrow
      have hTE : TE (mv υ2) 1 σ2 1 := te_mr t3 hMT.mr (fun x hx => (hMT.2.1 x hx).trans (cF_cg (x1 x hx))) (fun x hx => (hMT.2.2.1 x hx).trans (cF_cg (x2 x hx))) (fun x hx => (hMT.2.2.2 x hx).trans (cP_cg (x3 x hx) (x3 _ (by omega)))) hTR
      exact Res.mk (hI.chg hC (mch_mr hL hMT.mr mw4 l3) (hTE.trans sr.te.symm))
  · skip
    refine zi (L := [some (.ref 0), some (.int x), none]) rfl rfl (fun K hK => ?_)
    refine st_go hK rfl rfl ?_
    refine st_getr hK rfl qf_0_0 ?_
    refine st_go hK rfl rfl ?_
    refine cv1 hK rfl qc_1 (Nat.le_of_ble_eq_true rfl) ?_
    refine z_hasNode' hT1 g.1 (fun c => absurd c hb) (fun _ => ?_)
    change K _ _ (_ :: _) _
    refine st_if hK rfl rfl (fun c => absurd c (by decide)) (fun _ => ?_)
    refine st_go hK rfl rfl ?_
    refine st_go hK rfl rfl ?_
    refine cv1 hK rfl qc_0 (Nat.le_of_ble_eq_true rfl) ?_
    refine z_rbad ?_
    change K _ _ (_ :: _) _
    refine st_ret hK rfl rfl ?_
    obtain ⟨mw2, te2, l2, k2, mv2⟩ := hI.mf (τ := (cw_up σ 0 6 (σ 0 6 + 1))) (fun p hp => up_ne (by omega))
    refine zi (L := [some (.ref 146), some (.int x)]) rfl rfl (fun K2 hK2 => ?_)
    refine st_go hK2 rfl rfl ?_
    refine st_go hK2 rfl rfl ?_
    refine cv1 hK2 rfl qc_146 (Nat.le_of_ble_eq_true rfl) ?_
    refine z_misNode' hI (fun p hp => up_ne (by omega)) (fun c => absurd c hb) (fun _ => ?_)
    change K2 _ _ (_ :: _) _
    refine st_if hK2 rfl rfl (fun c => absurd c (by decide)) (fun _ => ?_)
    refine st_go hK2 rfl rfl ?_
    refine cv0 hK2 rfl qc_146 (Nat.le_of_ble_eq_true rfl) ?_
    refine z_mbad ?_
    change K2 _ _ (_ :: _) _
    refine st_ret hK2 rfl rfl ?_
    exact Res.mk (hI.err (k := 0) (by decide))
theorem z_exchCmp {σ σ1 : cw_V} {lam : Nat → Int64} {Q : cw_Q} {s nx c a b : Nat} {ρ : Nat → Nat} (hS : SVw σ σ1 nx c) (hnx : nx < 8) (g : GT σ 1 s) (md : MD σ 10 1) (hρ : Dep s (σ 7) (σ 9) ρ) (ha : nodeN s (σ 7) a) (hb : nodeN s (σ 7) b) (hc : cET σ 1 s ρ a b) (s1 : ∀ p, p < 37 → σ1 p = σ p) (kk : ∀ σ2 τ lam', TR σ1 σ2 1 (xF (σ1 7) a b) (xF (σ1 8) a b) (xP (σ1 9) a b) → CHG σ τ lam' s nx c → SR σ2 τ 1 → Q (some (.int (costOf τ 1 - costOf σ 1))) (cw_B τ lam')) : cw_Z (d + 6) m_CW_exchangeAndCompare [.ref 0, .int (nI a), .int (nI b)] (cw_B σ1 lam) Q := by
  have g1 : GT σ1 1 s := (te_of (fun j hj => s1 _ (by omega))).gt g
  have hWF := g.1.2.exch ha hb hc.1 hc.2.1 hc.2.2.1 hρ hc.2.2.2.1 hc.2.2.2.2
  have e6 : σ1 10 6 = costOf σ 1 := (congrFun (s1 10 (by decide)) 6).trans (md.2.2.2.2.trans dn_cost)
  refine zi (L := [some (.ref 0), some (.int (nI a)), some (.int (nI b)), none]) rfl rfl (fun K hK => ?_)
  refine st_go hK rfl rfl ?_
  refine st_getr hK rfl qf_0_1 ?_
  refine gi (v := costOf σ 1) hK rfl qf_10_6 e6 ?_
  refine st_go hK rfl rfl ?_
  change K _ [some (.ref 0), some (.int (nI a)), some (.int (nI b)), some (.int (costOf σ 1))] _ _
  refine st_go hK rfl rfl ?_
  refine st_getr hK rfl qf_0_0 ?_
  refine st_go hK rfl rfl ?_
  refine st_go hK rfl rfl ?_
  refine cv2 hK rfl qc_1 (Nat.le_of_ble_eq_true rfl) ?_
  refine z_exchT (ρ := ρ) hT1 g1.1 (by rw [s1 (1 + 6) (by decide)]; exact ha) (by rw [s1 (1 + 6) (by decide)]; exact hb) (by unfold cET; rw [s1 (1 + 8) (by decide)]; exact hc) (fun σ2 hTR => ?_)
  change K _ _ _ _
  refine st_go hK rfl rfl ?_
  refine cv0 hK rfl qc_0 (Nat.le_of_ble_eq_true rfl) ?_
  have hG : GT σ2 1 s := gt_tr g1 hTR (by rw [s1 (1 + 6) (by decide), s1 (1 + 7) (by decide), s1 (1 + 8) (by decide)]; exact hWF)
  refine z_cfin2 hS hnx (fun p hp => hTR.1 p (by omega) (by omega) (by omega)) hG (fun τ lam2 hC sr => ?_)
  change K _ _ _ _
  refine st_go hK rfl rfl ?_
  refine st_getr hK rfl qf_0_1 ?_
  refine gi (v := τ 10 6) hK rfl qf_10_6 rfl ?_
  refine st_go hK rfl rfl ?_
  refine st_bin hK rfl ?_
  refine st_ret hK rfl rfl ?_
  have ec : τ 10 6 = costOf τ 1 := hC.2.2.2.1.2.2.2.2.trans dn_cost
  rw [ec]
  exact kk σ2 τ lam2 hTR hC sr
theorem sim_exchanges : SimI (d + 16) m_CW_exchanges m_Mo_exchanges [.int x, .int y] := by
  intro σ lam ⟨s, nx, c, n, hI⟩
  have g := hI.1.1
  have mw := hI.2.1.1
  have te := hI.2.1.2.1
  have es : σ 1 8 = nI s := g.1.1
  have h8 : s ≤ 8 := g.1.2.1
  obtain ⟨⟨hnx, hc, h661, h662, h13⟩, hh⟩ := hI.2.2.2.1
  have md := hI.1.2.1
  have pd := hI.1.2.2.1
  have vr : VR (mv σ) 1 s := te.vr h8 g.2.1
  obtain ⟨ρ, hρ⟩ := g.1.2.2.2.2.2.2
  by_cases hb : (∃ n, n < 15 ∧ x = nI n ∧ nodeN s (σ 7) n) ∧ (∃ n, n < 15 ∧ y = nI n ∧ nodeN s (σ 7) n)
  · obtain ⟨⟨a, a15, rfl, hn1⟩, ⟨b, b15, rfl, hn2⟩⟩ := hb
    have hna : ∃ n, n < 15 ∧ nI a = nI n ∧ nodeN s (σ 7) n := ⟨a, a15, rfl, hn1⟩
    have hnb : ∃ n, n < 15 ∧ nI b = nI n ∧ nodeN s (σ 7) n := ⟨b, b15, rfl, hn2⟩
    have cex := cEx_iff g.1 hρ a15 b15
    have mex : ∀ υ, TE (mv υ) 1 σ 1 → (cEM υ ρ a b ↔ cET σ 1 s ρ a b) := fun υ hυ => by
      obtain ⟨w1, w2, w3⟩ := hυ.mrow
      unfold cEM cET
      rw [w3 a a15, w3 b b15, Inr.cg g.1.2 hρ w3 hn1, Inr.cg g.1.2 hρ w3 hn2]
    have dep : ∀ υ, TE (mv υ) 1 σ 1 → Dep s (υ 151) (υ 153) ρ := fun υ hυ => Dep.cg hρ h8 hυ.mrow.1 hυ.mrow.2.2
    by_cases hc2 : cET σ 1 s ρ a b
    · skip
      refine zi (L := [some (.ref 0), some (.int (nI a)), some (.int (nI b))]) rfl rfl (fun K hK => ?_)
      refine st_go hK rfl rfl ?_
      refine st_getr hK rfl qf_0_0 ?_
      refine st_go hK rfl rfl ?_
      refine cv1 hK rfl qc_1 (Nat.le_of_ble_eq_true rfl) ?_
      refine z_hasNode' hT1 g.1 (fun _ => ?_) (fun c => absurd hna c)
      change K _ _ (_ :: _) _
      refine st_if hK rfl rfl (fun c => absurd c (by decide)) (fun _ => ?_)
      refine st_go hK rfl rfl ?_
      refine st_getr hK rfl qf_0_0 ?_
      refine st_go hK rfl rfl ?_
      refine cv1 hK rfl qc_1 (Nat.le_of_ble_eq_true rfl) ?_
      refine z_hasNode' hT1 g.1 (fun _ => ?_) (fun c => absurd hnb c)
      change K _ _ (_ :: _) _
      refine st_if hK rfl rfl (fun _ => ?_) (fun c => absurd (by decide) c)
      refine st_go hK rfl rfl ?_
      refine st_getr hK rfl qf_0_0 ?_
      refine st_go hK rfl rfl ?_
      refine st_go hK rfl rfl ?_
      refine cv2 hK rfl qc_1 (Nat.le_of_ble_eq_true rfl) ?_
      refine z_canExchange hT1 (fun _ => ?_) (fun c => absurd (cex.mpr ⟨hn1, hn2, hc2⟩) c)
      change K _ _ (_ :: _) _
      refine st_if hK rfl rfl (fun _ => ?_) (fun c => absurd (by decide) c)
      refine st_go hK rfl rfl ?_
      refine st_getr hK rfl qf_0_4 ?_
      refine st_go hK rfl rfl ?_
      refine st_getr hK rfl qf_0_0 ?_
      refine cv1 hK rfl qc_66 (Nat.le_of_ble_eq_true rfl) ?_
      refine z_save h661 hnx h662 hc (fun σ1 hS => ?_)
      change K _ _ _ _
      have s1 : ∀ p, p < 66 → σ1 p = σ p := fun p hp => hS.1 p (by omega) (by omega)
      refine st_go hK rfl rfl ?_
      refine st_go hK rfl rfl ?_
      refine st_go hK rfl rfl ?_
      refine cv2 hK rfl qc_0 (Nat.le_of_ble_eq_true rfl) ?_
      refine z_exchCmp hS.w hnx g md hρ hn1 hn2 hc2 (fun p hp => s1 p (by omega)) (fun σ2 τ lam2 hTR hC sr => ?_)
      change K _ _ (_ :: _) _
      refine st_ret hK rfl rfl ?_
      obtain ⟨mw2, te2, l2, k2, mv2⟩ := hI.mf (τ := τ) (fun p hp => hC.1 p (by omega))
      refine zi (L := [some (.ref 146), some (.int (nI a)), some (.int (nI b)), none]) rfl rfl (fun K2 hK2 => ?_)
      refine st_go hK2 rfl rfl ?_
      refine st_go hK2 rfl rfl ?_
      refine cv1 hK2 rfl qc_146 (Nat.le_of_ble_eq_true rfl) ?_
      refine z_misNode' hI (fun p hp => hC.1 p (by omega)) (fun _ => ?_) (fun c => absurd hna c)
      change K2 _ _ (_ :: _) _
      refine st_if hK2 rfl rfl (fun c => absurd c (by decide)) (fun _ => ?_)
      refine st_go hK2 rfl rfl ?_
      refine st_go hK2 rfl rfl ?_
      refine cv1 hK2 rfl qc_146 (Nat.le_of_ble_eq_true rfl) ?_
      refine z_misNode' hI (fun p hp => hC.1 p (by omega)) (fun _ => ?_) (fun c => absurd hnb c)
      change K2 _ _ (_ :: _) _
      refine st_if hK2 rfl rfl (fun _ => ?_) (fun c => absurd (by decide) c)
      refine st_go hK2 rfl rfl ?_
      refine st_go hK2 rfl rfl ?_
      refine st_go hK2 rfl rfl ?_
      refine cv2 hK2 rfl qc_146 (Nat.le_of_ble_eq_true rfl) ?_
      refine z_mcanExchange mw2 (dep _ te2) (te2.nn.mpr hn1) (te2.nn.mpr hn2) (fun _ => ?_) (fun c => absurd ((mex _ te2).mpr hc2) c)
      change K2 _ _ (_ :: _) _
      refine st_if hK2 rfl rfl (fun _ => ?_) (fun c => absurd (by decide) c)
      refine st_go hK2 rfl rfl ?_
      refine cv0 hK2 rfl qc_146 (Nat.le_of_ble_eq_true rfl) ?_
      refine z_leaves k2 hc (fun υ hL => ?_)
      change K2 _ _ _ _
      obtain ⟨mw3, mv3⟩ := hL.mf mw2
      have te3 : TE (mv υ) 1 σ 1 := by rw [mv3]; exact te2
      have l3 : υ 146 6 = nI s := (hL.2.1 6 (by decide)).trans l2
      refine st_go hK2 rfl rfl ?_
      refine cv0 hK2 rfl qc_146 (Nat.le_of_ble_eq_true rfl) ?_
      refine z_costOfAll mw3 (fun υ1 hT1' => ?_)
      rw [te3.cost g.1]
      change K2 _ _ (_ :: _) _
      have t1 : TQ υ υ1 := hT1'.1.tq
      have te4 : TE (mv υ1) 1 σ 1 := by rw [t1.mve]; exact te3
      refine st_go hK2 rfl rfl ?_
      change K2 _ [some (.ref 146), some (.int (nI a)), some (.int (nI b)), some (.int (costOf σ 1))] _ _
      refine st_go hK2 rfl rfl ?_
      refine st_go hK2 rfl rfl ?_
      refine st_go hK2 rfl rfl ?_
      refine cv2 hK2 rfl qc_146 (Nat.le_of_ble_eq_true rfl) ?_
      refine z_swaps (t1.mw mw3) (dep _ te4) (te4.nn.mpr hn1) (te4.nn.mpr hn2) ((mex _ te4).mpr hc2) (fun υ2 mw4 hMT => ?_)
      change K2 _ _ _ _
      refine st_go hK2 rfl rfl ?_
      refine cv0 hK2 rfl qc_146 (Nat.le_of_ble_eq_true rfl) ?_
      have w4 : TE (mv υ1) 1 σ1 1 := te4.trans (te_of (fun j hj => s1 _ (by omega))).symm
      obtain ⟨x1, x2, x3⟩ := w4.mrow
      have hTE : TE (mv υ2) 1 τ 1 := (te_mr w4 hMT.mr (fun x hx => (hMT.2.1 x hx).trans (xF_cg (x1 x hx))) (fun x hx => (hMT.2.2.1 x hx).trans (xF_cg (x2 x hx))) (fun x hx => (hMT.2.2.2 x hx).trans (xP_cg (x3 x hx) (x3 _ (by omega)) (x3 _ (by omega)))) hTR).trans sr.te.symm
      refine z_costOfAll mw4 (fun υ3 hT3 => ?_)
      rw [hTE.cost hC.2.2.1.1]
      change K2 _ _ (_ :: _) _
      refine st_go hK2 rfl rfl ?_
      refine st_bin hK2 rfl ?_
      refine st_ret hK2 rfl rfl ?_
      exact Res.mk (hI.chg hC (mch_mr hL ((t1.mr.trans hMT.mr).trans hT3.1.tq.mr) (hT3.1.tq.mw mw4) l3) (by rw [hT3.1.tq.mve]; exact hTE))
    · skip
      refine zi (L := [some (.ref 0), some (.int (nI a)), some (.int (nI b))]) rfl rfl (fun K hK => ?_)
      refine st_go hK rfl rfl ?_
      refine st_getr hK rfl qf_0_0 ?_
      refine st_go hK rfl rfl ?_
      refine cv1 hK rfl qc_1 (Nat.le_of_ble_eq_true rfl) ?_
      refine z_hasNode' hT1 g.1 (fun _ => ?_) (fun c => absurd hna c)
      change K _ _ (_ :: _) _
      refine st_if hK rfl rfl (fun c => absurd c (by decide)) (fun _ => ?_)
      refine st_go hK rfl rfl ?_
      refine st_getr hK rfl qf_0_0 ?_
      refine st_go hK rfl rfl ?_
      refine cv1 hK rfl qc_1 (Nat.le_of_ble_eq_true rfl) ?_
      refine z_hasNode' hT1 g.1 (fun _ => ?_) (fun c => absurd hnb c)
      change K _ _ (_ :: _) _
      refine st_if hK rfl rfl (fun _ => ?_) (fun c => absurd (by decide) c)
      refine st_go hK rfl rfl ?_
      refine st_getr hK rfl qf_0_0 ?_
      refine st_go hK rfl rfl ?_
      refine st_go hK rfl rfl ?_
      refine cv2 hK rfl qc_1 (Nat.le_of_ble_eq_true rfl) ?_
      refine z_canExchange hT1 (fun c => absurd (cex.mp c).2.2 hc2) (fun _ => ?_)
      change K _ _ (_ :: _) _
      refine st_if hK rfl rfl (fun c => absurd c (by decide)) (fun _ => ?_)
      refine st_go hK rfl rfl ?_
      refine st_go hK rfl rfl ?_
      refine cv1 hK rfl qc_0 (Nat.le_of_ble_eq_true rfl) ?_
      refine z_rno ?_
      change K _ _ (_ :: _) _
      refine st_ret hK rfl rfl ?_
      obtain ⟨mw2, te2, l2, k2, mv2⟩ := hI.mf (τ := (cw_up σ 0 7 (σ 0 7 + 1))) (fun p hp => up_ne (by omega))
      refine zi (L := [some (.ref 146), some (.int (nI a)), some (.int (nI b)), none]) rfl rfl (fun K2 hK2 => ?_)
      refine st_go hK2 rfl rfl ?_
      refine st_go hK2 rfl rfl ?_
      refine cv1 hK2 rfl qc_146 (Nat.le_of_ble_eq_true rfl) ?_
      refine z_misNode' hI (fun p hp => up_ne (by omega)) (fun _ => ?_) (fun c => absurd hna c)
      change K2 _ _ (_ :: _) _
      refine st_if hK2 rfl rfl (fun c => absurd c (by decide)) (fun _ => ?_)
      refine st_go hK2 rfl rfl ?_
      refine st_go hK2 rfl rfl ?_
      refine cv1 hK2 rfl qc_146 (Nat.le_of_ble_eq_true rfl) ?_
      refine z_misNode' hI (fun p hp => up_ne (by omega)) (fun _ => ?_) (fun c => absurd hnb c)
      change K2 _ _ (_ :: _) _
      refine st_if hK2 rfl rfl (fun _ => ?_) (fun c => absurd (by decide) c)
      refine st_go hK2 rfl rfl ?_
      refine st_go hK2 rfl rfl ?_
      refine st_go hK2 rfl rfl ?_
      refine cv2 hK2 rfl qc_146 (Nat.le_of_ble_eq_true rfl) ?_
      refine z_mcanExchange mw2 (dep _ te2) (te2.nn.mpr hn1) (te2.nn.mpr hn2) (fun c => absurd ((mex _ te2).mp c) hc2) (fun _ => ?_)
      change K2 _ _ (_ :: _) _
      refine st_if hK2 rfl rfl (fun c => absurd c (by decide)) (fun _ => ?_)
      refine st_go hK2 rfl rfl ?_
      refine cv0 hK2 rfl qc_146 (Nat.le_of_ble_eq_true rfl) ?_
      refine z_mno ?_
      change K2 _ _ (_ :: _) _
      refine st_ret hK2 rfl rfl ?_
      exact Res.mk (hI.err (k := 1) (by decide))
  · skip
    refine zi (L := [some (.ref 0), some (.int x), some (.int y)]) rfl rfl (fun K hK => ?_)
    refine st_go hK rfl rfl ?_
    refine st_getr hK rfl qf_0_0 ?_
    refine st_go hK rfl rfl ?_
    refine cv1 hK rfl qc_1 (Nat.le_of_ble_eq_true rfl) ?_
    refine z_hasNode' hT1 g.1 (fun h1 => ?_) (fun h1 => ?_)
    · change K _ _ (_ :: _) _
      refine st_if hK rfl rfl (fun c => absurd c (by decide)) (fun _ => ?_)
      refine st_go hK rfl rfl ?_
      refine st_getr hK rfl qf_0_0 ?_
      refine st_go hK rfl rfl ?_
      refine cv1 hK rfl qc_1 (Nat.le_of_ble_eq_true rfl) ?_
      refine z_hasNode' hT1 g.1 (fun h2 => absurd ⟨h1, h2⟩ hb) (fun h2 => ?_)
      change K _ _ (_ :: _) _
      refine st_if hK rfl rfl (fun c => absurd c (by decide)) (fun _ => ?_)
      refine st_go hK rfl rfl ?_
      refine st_go hK rfl rfl ?_
      refine cv1 hK rfl qc_0 (Nat.le_of_ble_eq_true rfl) ?_
      refine z_rbad ?_
      change K _ _ (_ :: _) _
      refine st_ret hK rfl rfl ?_
      obtain ⟨mw2, te2, l2, k2, mv2⟩ := hI.mf (τ := (cw_up σ 0 6 (σ 0 6 + 1))) (fun p hp => up_ne (by omega))
      refine zi (L := [some (.ref 146), some (.int x), some (.int y), none]) rfl rfl (fun K2 hK2 => ?_)
      refine st_go hK2 rfl rfl ?_
      refine st_go hK2 rfl rfl ?_
      refine cv1 hK2 rfl qc_146 (Nat.le_of_ble_eq_true rfl) ?_
      refine z_misNode' hI (fun p hp => up_ne (by omega)) (fun j1 => ?_) (fun j1 => ?_)
      · change K2 _ _ (_ :: _) _
        refine st_if hK2 rfl rfl (fun c => absurd c (by decide)) (fun _ => ?_)
        refine st_go hK2 rfl rfl ?_
        refine st_go hK2 rfl rfl ?_
        refine cv1 hK2 rfl qc_146 (Nat.le_of_ble_eq_true rfl) ?_
        refine z_misNode' hI (fun p hp => up_ne (by omega)) (fun j2 => absurd ⟨j1, j2⟩ hb) (fun j2 => ?_)
        change K2 _ _ (_ :: _) _
        refine st_if hK2 rfl rfl (fun c => absurd c (by decide)) (fun _ => ?_)
        refine st_go hK2 rfl rfl ?_
        refine cv0 hK2 rfl qc_146 (Nat.le_of_ble_eq_true rfl) ?_
        refine z_mbad ?_
        change K2 _ _ (_ :: _) _
        refine st_ret hK2 rfl rfl ?_
        exact Res.mk (hI.err (k := 0) (by decide))
      · change K2 _ _ (_ :: _) _
        refine st_if hK2 rfl rfl (fun _ => ?_) (fun c => absurd (by decide) c)
        refine st_go hK2 rfl rfl ?_
        refine cv0 hK2 rfl qc_146 (Nat.le_of_ble_eq_true rfl) ?_
        refine z_mbad ?_
        change K2 _ _ (_ :: _) _
        refine st_ret hK2 rfl rfl ?_
        exact Res.mk (hI.err (k := 0) (by decide))
    · change K _ _ (_ :: _) _
      refine st_if hK rfl rfl (fun _ => ?_) (fun c => absurd (by decide) c)
      refine st_go hK rfl rfl ?_
      refine st_go hK rfl rfl ?_
      refine cv1 hK rfl qc_0 (Nat.le_of_ble_eq_true rfl) ?_
      refine z_rbad ?_
      change K _ _ (_ :: _) _
      refine st_ret hK rfl rfl ?_
      obtain ⟨mw2, te2, l2, k2, mv2⟩ := hI.mf (τ := (cw_up σ 0 6 (σ 0 6 + 1))) (fun p hp => up_ne (by omega))
      refine zi (L := [some (.ref 146), some (.int x), some (.int y), none]) rfl rfl (fun K2 hK2 => ?_)
      refine st_go hK2 rfl rfl ?_
      refine st_go hK2 rfl rfl ?_
      refine cv1 hK2 rfl qc_146 (Nat.le_of_ble_eq_true rfl) ?_
      refine z_misNode' hI (fun p hp => up_ne (by omega)) (fun j1 => ?_) (fun j1 => ?_)
      · change K2 _ _ (_ :: _) _
        refine st_if hK2 rfl rfl (fun c => absurd c (by decide)) (fun _ => ?_)
        refine st_go hK2 rfl rfl ?_
        refine st_go hK2 rfl rfl ?_
        refine cv1 hK2 rfl qc_146 (Nat.le_of_ble_eq_true rfl) ?_
        refine z_misNode' hI (fun p hp => up_ne (by omega)) (fun j2 => absurd ⟨j1, j2⟩ hb) (fun j2 => ?_)
        change K2 _ _ (_ :: _) _
        refine st_if hK2 rfl rfl (fun c => absurd c (by decide)) (fun _ => ?_)
        refine st_go hK2 rfl rfl ?_
        refine cv0 hK2 rfl qc_146 (Nat.le_of_ble_eq_true rfl) ?_
        refine z_mbad ?_
        change K2 _ _ (_ :: _) _
        refine st_ret hK2 rfl rfl ?_
        exact Res.mk (hI.err (k := 0) (by decide))
      · change K2 _ _ (_ :: _) _
        refine st_if hK2 rfl rfl (fun _ => ?_) (fun c => absurd (by decide) c)
        refine st_go hK2 rfl rfl ?_
        refine cv0 hK2 rfl qc_146 (Nat.le_of_ble_eq_true rfl) ?_
        refine z_mbad ?_
        change K2 _ _ (_ :: _) _
        refine st_ret hK2 rfl rfl ?_
        exact Res.mk (hI.err (k := 0) (by decide))
end
