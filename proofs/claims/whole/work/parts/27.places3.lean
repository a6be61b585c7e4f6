/-- places (0 U, 1 V, 2 loop, 3 the way from the source) and delays, right at each node -/
def PLab (σ : cw_V) (U : Int32 → Nat → Int32) (wr : Int32 → Int32) (top : Int32) (E : Int32 → Nat → Int32) (Ed : Int32 → Int64) : Prop :=
  (E top 0 = movF (suF σ) (U top 0) (U top 1) ∧ E top 1 = movF (svF' σ) (U top 2) (U top 3) ∧ E top 2 = -1 ∧ E top 3 = dsF (suF σ) (svF' σ) (E top 0) (E top 1) ∧ Ed top = dlF (E top 3) (U top)) ∧
  ∀ m, hNode σ 1 m → pof σ 1 m ≠ -1 → E m 0 = movF (E (pof σ 1 m) 0) (U m 0) (U m 1) ∧ E m 1 = movF (E (pof σ 1 m) 1) (U m 2) (U m 3) ∧ E m 2 = wr m - dsF (E m 0) (E m 1) (E (pof σ 1 m) 0) (E (pof σ 1 m) 1) ∧ E m 3 = E (pof σ 1 m) 3 + wr m ∧ Ed m = Ed (pof σ 1 m) + dlF (wr m) (U m)
def lsF (E : Int32 → Nat → Int32) (D : List Int32) : Nat → Int32
  | 0 => 0
  | 1 => 0
  | m + 2 => lsF E D (m + 1) + E (D.getD (m + 1) 0) 2
def lcF (E : Int32 → Nat → Int32) (D : List Int32) : Nat → Int32
  | 0 => 0
  | 1 => 0
  | m + 2 => if 0 < E (D.getD (m + 1) 0) 2 then lcF E D (m + 1) + 1 else lcF E D (m + 1)
theorem dl_congr {w : Int32} {f g : Nat → Int32} (h : ev9 f g) : dlF w f = dlF w g := by
  unfold dlF capF
  rw [h 7 (by decide) (by decide), h 9 (by decide) (by decide)]
/-- embedded up to the i-th of the list -/
def EI (σ τ : cw_V) (lam' : Nat → Int64) (D : List Int32) (E : Int32 → Nat → Int32) (Ed : Int32 → Int64) (i : Nat) : Prop :=
  (∀ q, (q < 30 ∨ 34 < q) → τ q = σ q) ∧ τ 30 5 = 1 ∧ τ 30 6 = E (D.getD 0 0) 3 ∧ τ 30 7 = lsF E D i ∧ τ 30 8 = lcF E D i ∧
  ∀ k, k < i → τ 31 (nd (D.getD k 0)) = E (D.getD k 0) 0 ∧ τ 32 (nd (D.getD k 0)) = E (D.getD k 0) 1 ∧ τ 33 (nd (D.getD k 0)) = E (D.getD k 0) 2 ∧ τ 34 (nd (D.getD k 0)) = E (D.getD k 0) 3 ∧ lam' (nd (D.getD k 0)) = Ed (D.getD k 0)
theorem updL_eq {f : Nat → Int64} {k : Nat} {x : Int64} : vp_updL f k x k = x := if_pos rfl
theorem updL_ne {f : Nat → Int64} {k j : Nat} {x : Int64} (h : j ≠ k) : vp_updL f k x j = f j := if_neg h
theorem spr_congr {f g : Nat → Int32} : ∀ (m i : Nat) (s : Int32 × Int32), (∀ k, i ≤ k → k < i + m → f k = g k) → sprF f m i s = sprF g m i s
  | 0, _, _, _ => rfl
  | m + 1, i, s, h => by
    show sprF f m (i + 1) (mn s.1 (f i), mx s.2 (f i)) = sprF g m (i + 1) (mn s.1 (g i), mx s.2 (g i))
    rw [h i (Nat.le_refl _) (by omega)]
    exact spr_congr m (i + 1) _ (fun k h1 h2 => h k (by omega) (by omega))
section
variable {d : Nat} {σ : cw_V} {lam : Nat → Int64} {Q : cw_Q}
theorem z_embed0 {tc : Nat} (h5 : σ 10 5 = nI tc) (htc : tc ≤ 15) (h1 : tc ≠ 1) (kk : Q none (cw_B (cw_up σ 30 5 0) lam)) : cw_Z (d + 4) m_Places_embed [.ref 30, .ref 1, .ref 10] (cw_B σ lam) Q := by
  refine zi (L := [some (.ref 30), some (.ref 1), some (.ref 10), none, none]) rfl rfl (fun K hK => ?_)
  refine st_go hK rfl rfl ?_
  refine st_go hK rfl rfl ?_
  refine st_geti hK rfl rfl ?_
  rw [h5]
  refine st_go hK rfl rfl ?_
  refine st_if hK rfl rfl (fun _ => ?_) (fun c => absurd ((nI_eq (a := tc) (b := 1) (by omega) (by decide)).mp (Classical.not_not.mp c)) h1)
  refine st_go hK rfl rfl ?_
  refine st_put hK rfl rfl rfl ?_
  refine st_go hK rfl rfl ?_
  refine st_geti hK rfl rfl ?_
  rw [up_eq, upd_eq]
  refine st_if hK rfl rfl (fun c => absurd rfl c) (fun _ => ?_)
  refine st_ret hK rfl rfl ?_
  exact kk
theorem z_embed1 {D : List Int32} {U E : Int32 → Nat → Int32} {Ed : Int32 → Int64} {wr : Int32 → Int32} {s : Nat} (h5 : σ 10 5 = 1) (h4 : σ 10 4 = nI D.length) (hlen : D.length ≤ 15) (hpos : 0 < D.length) (hl : ∀ j, j < D.length → σ (10 + 4) j = D.getD j 0) (hN : ∀ k, k < D.length → hNode σ 1 (D.getD k 0)) (hnd : ∀ k k', k < D.length → k' < D.length → nd (D.getD k 0) = nd (D.getD k' 0) → k = k')
    (hpar : ∀ i, 1 ≤ i → i < D.length → ∃ k, k < i ∧ D.getD k 0 = pof σ 1 (D.getD i 0)) (hU : ∀ k, k < D.length → ev9 (σ (pp 10 (D.getD k 0))) (U (D.getD k 0))) (hwr : ∀ k, 1 ≤ k → k < D.length → σ (pp 10 (D.getD k 0)) 6 = wr (D.getD k 0)) (hE : PLab σ U wr (D.getD 0 0) E Ed)
    (hs : σ 1 8 = nI s) (h8 : s ≤ 8) (h0 : 0 < s) (hall : ∀ k, k < s → ∃ i, i < D.length ∧ D.getD i 0 = nI k)
    (kk : ∀ τ lam', EI σ τ lam' D E Ed D.length → τ 30 9 = (sprF (fun k => E (nI k) 3 + σ (1 + 3) k * 65536) (s - 1) 1 (E (nI 0) 3 + σ (1 + 3) 0 * 65536, E (nI 0) 3 + σ (1 + 3) 0 * 65536)).2 - (sprF (fun k => E (nI k) 3 + σ (1 + 3) k * 65536) (s - 1) 1 (E (nI 0) 3 + σ (1 + 3) 0 * 65536, E (nI 0) 3 + σ (1 + 3) 0 * 65536)).1 → Q none (cw_B τ lam')) : cw_Z (d + 4) m_Places_embed [.ref 30, .ref 1, .ref 10] (cw_B σ lam) Q := by
  refine zi (L := [some (.ref 30), some (.ref 1), some (.ref 10), none, none]) rfl rfl (fun K hK => ?_)
  have loop : ∀ m i τ lam' (x4 : Option Value), i + m = D.length → 1 ≤ i → EI σ τ lam' D E Ed i → K 49 [some (.ref 30), some (.ref 1), some (.ref 10), some (.int (nI i)), x4] [] (cw_B τ lam') := by
    intro m
    induction m with
    | zero =>
      intro i τ lam' x4 hi h1 hI
      have ei : i = D.length := by omega
      subst ei
      obtain ⟨r, r5, r6, r7, r8, rk⟩ := hI
      refine st_go hK rfl rfl ?_
      refine st_go hK rfl rfl ?_
      refine st_geti hK rfl rfl ?_
      rw [r 10 (by decide), h4]
      refine st_if hK rfl rfl (fun _ => ?_) (fun c => absurd ((nI_leI (by omega) (by omega)).mpr (Nat.le_refl _)) c)
      refine st_go hK rfl rfl ?_
      refine st_go hK rfl rfl ?_
      refine cv1 hK rfl rfl (Nat.le_of_ble_eq_true rfl) ?_
      refine z_setSpread (s := s) (by rw [r 1 (by decide)]; exact hs) h8 h0 ?_
      change K _ _ _ _
      refine st_ret hK rfl rfl ?_
      have ear : ∀ k, k < s → arF τ k = E (nI k) 3 + σ (1 + 3) k * 65536 := by
        intro k hk
        obtain ⟨i, hi1, hi2⟩ := hall k hk
        have := (rk i hi1).2.2.2.1
        rw [hi2, show nd (nI k) = k from nI_clamp (by omega)] at this
        unfold arF
        rw [this, r (1 + 3) (by decide)]
      have esp : sprF (arF τ) (s - 1) 1 (arF τ 0, arF τ 0) = sprF (fun k => E (nI k) 3 + σ (1 + 3) k * 65536) (s - 1) 1 (E (nI 0) 3 + σ (1 + 3) 0 * 65536, E (nI 0) 3 + σ (1 + 3) 0 * 65536) := by
        rw [ear 0 h0]
        exact spr_congr _ _ _ (fun k h1 h2 => ear k (by omega))
      rw [esp]
      refine kk _ lam' ⟨fun q hq => ?_, ?_, ?_, ?_, ?_, fun k hk => ?_⟩ ?_
      · rw [up_ne (by omega), r q hq]
      · rw [up_eq, upd_ne (by decide), r5]
      · rw [up_eq, upd_ne (by decide), r6]
      · rw [up_eq, upd_ne (by decide), r7]
      · rw [up_eq, upd_ne (by decide), r8]
      · rw [up_ne (by decide), up_ne (by decide), up_ne (by decide), up_ne (by decide)]
        exact rk k hk
      · rw [up_eq, upd_eq]
    | succ m ih =>
      intro i τ lam' x4 hi h1 hI
      obtain ⟨r, r5, r6, r7, r8, rk⟩ := hI
      have hin := (hN i (by omega)).in
      have hP := isP_of hW10 hin
      have lp := pp_lt (w := 10) hin
      have e1 : τ 1 = σ 1 := r 1 (by decide)
      have e9 : τ (1 + 8) = σ (1 + 8) := r 9 (by decide)
      have e7 : τ (1 + 6) = σ (1 + 6) := r 7 (by decide)
      have hNτ : hNode τ 1 (D.getD i 0) := (hNode_eq (congrFun e1 8) e7).mpr (hN i (by omega))
      have epof : pof τ 1 (D.getD i 0) = pof σ 1 (D.getD i 0) := by rw [pof_1 hNτ, pof_1 (hN i (by omega)), e9]
      obtain ⟨k, hk, ek⟩ := hpar i h1 (by omega)
      have hink := (hN k (by omega)).in
      rw [ek] at hink
      have hkn : nd (pof σ 1 (D.getD i 0)) ≠ nd (D.getD i 0) := fun e => by
        rw [← ek] at e
        have := hnd k i (by omega) (by omega) e
        omega
      refine st_go hK rfl rfl ?_
      refine st_go hK rfl rfl ?_
      refine st_geti hK rfl rfl ?_
      rw [r 10 (by decide), h4]
      refine st_if hK rfl rfl (fun c => absurd ((nI_leI (by omega) (by omega)).mp c) (by omega)) (fun _ => ?_)
      refine st_go hK rfl rfl ?_
      refine st_go hK rfl rfl ?_
      refine st_if hK rfl rfl (fun c => absurd (yle (a := 15) (i := i) (by decide) (by omega) c) (by omega)) (fun _ => ?_)
      refine st_go hK rfl rfl ?_
      refine st_getr hK rfl rfl ?_
      refine st_go hK rfl rfl ?_
      refine st_iald hK rfl rfl (cw_in_nI (n := 15) (by omega) (by decide)) ?_
      have erow : τ 14 = σ (10 + 4) := r 14 (by decide)
      rw [nI_clamp (by omega), erow, hl i (by omega)]
      refine st_go hK rfl rfl ?_
      refine st_go hK rfl rfl ?_
      refine st_go hK rfl rfl ?_
      refine st_go hK rfl rfl ?_
      refine cv1 hK rfl rfl (Nat.le_of_ble_eq_true rfl) ?_
      refine z_part hW10 hin ?_
      change K _ _ (_ :: _) _
      refine st_go hK rfl rfl ?_
      refine st_go hK rfl rfl ?_
      refine st_go hK rfl rfl ?_
      refine cv1 hK rfl rfl (Nat.le_of_ble_eq_true rfl) ?_
      refine z_parentOf' hT1 ?_
      change K _ _ (_ :: _) _
      rw [epof]
      refine cv3 hK rfl rfl (Nat.le_of_ble_eq_true rfl) ?_
      refine z_setChild hP hin hink hkn (fun τ1 hτ1 => ?_)
      change K _ _ _ _
      have epart : τ (pp 10 (D.getD i 0)) = σ (pp 10 (D.getD i 0)) := r _ (by omega)
      have hτ1 : scS τ τ1 (pp 10 (D.getD i 0)) (D.getD i 0) (pof σ 1 (D.getD i 0)) := hτ1
      obtain ⟨s0, s1, s2, s3, s4, s5, s6, s7⟩ := hτ1
      have hpne : pof σ 1 (D.getD i 0) ≠ -1 := fun e => by
        rw [← ek] at e
        exact hNode_pos (hN k (by omega)) e
      obtain ⟨g0, g1, g2, g3, g4⟩ := hE.2 _ (hN i (by omega)) hpne
      have ev := hU i (by omega)
      have rkk := rk k hk
      rw [ek] at rkk
      obtain ⟨k0, k1, k2, k3, k4⟩ := rkk
      have ecu : cuF τ (pp 10 (D.getD i 0)) (pof σ 1 (D.getD i 0)) = E (D.getD i 0) 0 := by
        unfold cuF
        rw [epart, k0, ev 0 (by decide) (by decide), ev 1 (by decide) (by decide), g0]
      have ecv : cvF τ (pp 10 (D.getD i 0)) (pof σ 1 (D.getD i 0)) = E (D.getD i 0) 1 := by
        unfold cvF
        rw [epart, k1, ev 2 (by decide) (by decide), ev 3 (by decide) (by decide), g1]
      have ecl : clF τ (pp 10 (D.getD i 0)) (pof σ 1 (D.getD i 0)) = E (D.getD i 0) 2 := by
        unfold clF
        rw [ecu, ecv, epart, k0, k1, hwr i h1 (by omega), g2]
      have epa : τ 34 (nd (pof σ 1 (D.getD i 0))) + τ (pp 10 (D.getD i 0)) 6 = E (D.getD i 0) 3 := by rw [k3, epart, hwr i h1 (by omega), g3]
      have edl : lam' (nd (pof σ 1 (D.getD i 0))) + dlF (τ (pp 10 (D.getD i 0)) 6) (τ (pp 10 (D.getD i 0))) = Ed (D.getD i 0) := by rw [k4, epart, hwr i h1 (by omega), dl_congr ev, g4]
      refine st_go hK rfl rfl ?_
      refine st_go hK rfl rfl ?_
      have := ih (i + 1) τ1 (vp_updL lam' (nd (D.getD i 0)) (lam' (nd (pof σ 1 (D.getD i 0))) + dlF (τ (pp 10 (D.getD i 0)) 6) (τ (pp 10 (D.getD i 0))))) (some (.int (D.getD i 0))) (by omega) (by omega) ⟨fun q hq => ?_, ?_, ?_, ?_, ?_, fun k' hk' => ?_⟩
      · rw [← nI_1] at this
        exact this
      · rw [s0 q (by omega) (by omega) (by omega) (by omega) (by omega), r q hq]
      · rw [s7 5 (by decide) (by decide), r5]
      · rw [s7 6 (by decide) (by decide), r6]
      · rw [s5, r7, ecl]
        obtain ⟨z, rfl⟩ : ∃ z, i = z + 1 := ⟨i - 1, by omega⟩
        rfl
      · rw [s6, r8, ecl]
        obtain ⟨z, rfl⟩ : ∃ z, i = z + 1 := ⟨i - 1, by omega⟩
        rfl
      · rw [s1, s2, s3, s4, ecu, ecv, ecl, epa, edl]
        by_cases e : k' = i
        · subst e
          exact ⟨upd_eq, upd_eq, upd_eq, upd_eq, updL_eq⟩
        · have hne : nd (D.getD k' 0) ≠ nd (D.getD i 0) := fun z => e (hnd k' i (by omega) (by omega) z)
          rw [upd_ne hne, upd_ne hne, upd_ne hne, upd_ne hne, updL_ne hne]
          exact rk k' (by omega)
  have hn0 := hN 0 hpos
  have hin0 := hn0.in
  have lp0 := pp_lt (w := 10) hin0
  refine st_go hK rfl rfl ?_
  refine st_go hK rfl rfl ?_
  refine st_geti hK rfl rfl ?_
  rw [h5]
  refine st_go hK rfl rfl ?_
  refine st_if hK rfl rfl (fun c => absurd rfl c) (fun _ => ?_)
  refine st_go hK rfl rfl ?_
  refine st_go hK rfl rfl ?_
  refine st_put hK rfl rfl rfl ?_
  refine st_go hK rfl rfl ?_
  refine st_geti hK rfl rfl ?_
  rw [up_eq, upd_eq]
  refine st_if hK rfl rfl (fun _ => ?_) (fun c => absurd (by decide) c)
  refine st_go hK rfl rfl ?_
  refine st_go hK rfl rfl ?_
  refine st_put hK rfl rfl rfl ?_
  refine st_go hK rfl rfl ?_
  refine st_go hK rfl rfl ?_
  refine st_put hK rfl rfl rfl ?_
  refine st_go hK rfl rfl ?_
  refine st_go hK rfl rfl ?_
  refine st_go hK rfl rfl ?_
  refine st_go hK rfl rfl ?_
  refine st_getr hK rfl rfl ?_
  refine st_go hK rfl rfl ?_
  refine st_iald hK rfl rfl (by decide) ?_
  have e0 : cw_up (cw_up (cw_up σ 30 5 1) 30 7 0) 30 8 0 14 (0 : Int32).toNatClampNeg = D.getD 0 0 := by
    rw [up_ne (by decide), up_ne (by decide), up_ne (by decide)]
    exact hl 0 hpos
  rw [e0]
  generalize eτ : cw_up (cw_up (cw_up σ 30 5 1) 30 7 0) 30 8 0 = τ0
  have t0 : ∀ q, q ≠ 30 → τ0 q = σ q := fun q hq => by rw [← eτ, up_ne hq, up_ne hq, up_ne hq]
  have t5 : τ0 30 5 = 1 := by rw [← eτ, up_eq, up_eq, up_eq, upd_ne (by decide), upd_ne (by decide), upd_eq]
  have t7 : τ0 30 7 = 0 := by rw [← eτ, up_eq, up_eq, up_eq, upd_ne (by decide), upd_eq]
  have t8 : τ0 30 8 = 0 := by rw [← eτ, up_eq, upd_eq]
  refine cv3 hK rfl rfl (Nat.le_of_ble_eq_true rfl) ?_
  refine z_setTop ((hNode_eq (congrFun (t0 1 (by decide)) 8) (t0 7 (by decide))).mpr hn0) ?_
  change K _ _ _ _
  refine st_go hK rfl rfl ?_
  refine st_go hK rfl rfl ?_
  have ev := hU 0 hpos
  have epart : τ0 (pp 10 (D.getD 0 0)) = σ (pp 10 (D.getD 0 0)) := t0 _ (by omega)
  have esu : suF τ0 = suF σ := by unfold suF; rw [t0 1 (by decide)]
  have esv : svF' τ0 = svF' σ := by unfold svF'; rw [t0 1 (by decide)]
  obtain ⟨g0, g1, g2, g3, g4⟩ := hE.1
  have eu : u0F τ0 (pp 10 (D.getD 0 0)) = E (D.getD 0 0) 0 := by
    unfold u0F
    rw [esu, epart, ev 0 (by decide) (by decide), ev 1 (by decide) (by decide), g0]
  have evv : v0F τ0 (pp 10 (D.getD 0 0)) = E (D.getD 0 0) 1 := by
    unfold v0F
    rw [esv, epart, ev 2 (by decide) (by decide), ev 3 (by decide) (by decide), g1]
  have etr : trF τ0 (pp 10 (D.getD 0 0)) = E (D.getD 0 0) 3 := by
    unfold trF
    rw [esu, esv, eu, evv, g3]
  have edl : dlF (E (D.getD 0 0) 3) (τ0 (pp 10 (D.getD 0 0))) = Ed (D.getD 0 0) := by rw [epart, dl_congr ev, g4]
  unfold stS
  rw [eu, evv, etr, edl]
  refine loop (D.length - 1) 1 _ _ none (by omega) (Nat.le_refl 1) ⟨fun q hq => ?_, ?_, ?_, ?_, ?_, fun k hk => ?_⟩
  · rw [up_ne (by omega), up_ne (by omega), up_ne (by omega), up_ne (by omega), up_ne (by omega), t0 q (by omega)]
  · rw [up_ne (by decide), up_eq, upd_ne (by decide), up_ne (by decide), up_ne (by decide), up_ne (by decide), t5]
  · rw [up_ne (by decide), up_eq, upd_eq]
  · rw [up_ne (by decide), up_eq, upd_ne (by decide), up_ne (by decide), up_ne (by decide), up_ne (by decide), t7]
    rfl
  · rw [up_ne (by decide), up_eq, upd_ne (by decide), up_ne (by decide), up_ne (by decide), up_ne (by decide), t8]
    rfl
  · have : k = 0 := by omega
    subst this
    refine ⟨?_, ?_, ?_, ?_, updL_eq⟩
    · rw [up_ne (by decide), up_ne (by decide), up_ne (by decide), up_ne (by decide), up_eq, upd_eq]
    · rw [up_ne (by decide), up_ne (by decide), up_ne (by decide), up_eq, upd_eq]
    · rw [up_ne (by decide), up_ne (by decide), up_eq, upd_eq, g2]
    · rw [up_eq, upd_eq]
end
