/-! THE MODEL'S PLACES -/
theorem ab_sub {x y : Int32} : ab (x - y) = ab (y - x) := by
  have e : x - y = -(y - x) := by grind
  rw [e]
  generalize y - x = z
  unfold ab
  rw [Int32.zero_sub, Int32.zero_sub]
  by_cases h : z = Int32.minValue
  · subst h
    decide
  · have h1 := z.le_toInt
    have h2 : z.toInt ≠ -2147483648 := fun q => h (Int32.toInt_inj.mp (by rw [q]; decide))
    have h3 : (-z).toInt = -z.toInt := ti_neg (by omega)
    by_cases c : 0 ≤ z
    · have c' := Int32.le_iff_toInt_le.mp c
      rw [Int32.toInt_zero] at c'
      rw [if_pos c]
      by_cases c2 : 0 ≤ -z
      · have c2' := Int32.le_iff_toInt_le.mp c2
        rw [Int32.toInt_zero, h3] at c2'
        rw [if_pos c2]
        apply Int32.toInt_inj.mp
        rw [h3]
        omega
      · rw [if_neg c2, Int32.neg_neg]
    · rw [if_neg c]
      have c' := Int32.lt_iff_toInt_lt.mp (Int32.not_le.mp c)
      rw [Int32.toInt_zero] at c'
      rw [if_pos (Int32.le_iff_toInt_le.mpr (by rw [Int32.toInt_zero, h3]; omega))]
theorem one_top {σ : cw_V} {t s : Nat} (hW : WF σ t s) (h : (tlF σ t 15).length = 1) : ∃ top, nodeN s (σ (t + 6)) top ∧ σ (t + 8) top = -1 ∧ tlF σ t 15 = [nI top] ∧ (dnF σ t).getD 0 0 = nI top ∧ ∀ n, nodeN s (σ (t + 6)) n → σ (t + 8) n = -1 → n = top := by
  obtain ⟨k1, k2, k3⟩ := tl_ok hW 15 (by omega)
  obtain ⟨x, hx⟩ := List.length_eq_one_iff.mp h
  obtain ⟨n, n15, n1, n2, n3⟩ := k1 0 (by omega)
  rw [hx] at n1
  have n1' : x = nI n := n1
  refine ⟨n, n2, n3, by rw [hx, n1'], by rw [dn_gd (by omega), hx, n1']; rfl, fun m hm hp => ?_⟩
  have m15 := hW.2.lt hm
  obtain ⟨k, hk, e⟩ := k3 m m15 hm hp
  obtain rfl : k = 0 := by omega
  rw [hx] at e
  have e' : x = nI m := e
  exact nI_inj (by omega) (by omega) (e'.symm.trans n1')
def mE (σ : cw_V) : Int32 → Nat → Int32 := EV (mv σ) (UV (mv σ) 1) (wrF (mv σ) 1 (UV (mv σ) 1))
def mEd (σ : cw_V) : Int32 → Int64 := EVd (mv σ) (UV (mv σ) 1) (wrF (mv σ) 1 (UV (mv σ) 1))
/-- but for labels and places -/
def TQ (σ τ : cw_V) : Prop := (∀ p, p ≠ 146 → (p < 156 ∨ 168 < p) → τ p = σ p) ∧ ∀ k, (k < 25 ∨ 28 < k) → k ≠ 32 → τ 146 k = σ 146 k
/-- laid -/
def AL (σ τ : cw_V) (s top : Nat) : Prop := TQ σ τ ∧ (∀ n, nodeN s (σ 151) n → ∀ i, i < 9 → i ≠ 6 → τ (156 + i) n = mU σ (nI n) i) ∧ (∀ n, nodeN s (σ 151) n → σ 153 n ≠ -1 → τ 162 n = mWr σ (nI n)) ∧ τ 146 32 = nI top ∧ ∀ n, nodeN s (σ 151) n → τ 166 n = mE σ (nI n) 0 ∧ τ 167 n = mE σ (nI n) 1
section
variable {d s : Nat} {σ τ : cw_V} {lam : Nat → Int64} {Q : cw_Q}
theorem z_minto {v lo hi : Int32} {h : cw_H} (hl : lo ≤ hi) (kk : Q (some (.int (movF v lo hi))) h) : cw_Z (d + 1) m_Mo_into [.int v, .int lo, .int hi] h Q := by
  refine zi (L := [some (.int v), some (.int lo), some (.int hi)]) rfl rfl (fun K hK => ?_)
  refine st_go hK rfl rfl ?_
  refine st_go hK rfl rfl ?_
  refine st_if hK rfl rfl (fun c2 => ?_) (fun c2 => ?_)
  · refine st_go hK rfl rfl ?_
    refine st_go hK rfl rfl ?_
    refine st_if hK rfl rfl (fun c11 => ?_) (fun c11 => ?_)
    · refine st_go hK rfl rfl ?_
      refine st_ret hK rfl rfl ?_
      unfold movF at kk
      first
        | (rw [mn_le (Int32.le_trans (Int32.le_of_lt (Int32.not_le.mp c2)) hl), mx_le (fun z => c2 z)] at kk; exact kk)
        | (rw [mn_ge c11, mx_ge hl] at kk; exact kk)
        | (rw [mn_le c11, mx_ge c2] at kk; exact kk)
    · refine st_go hK rfl rfl ?_
      refine st_go hK rfl rfl ?_
      refine st_ret hK rfl rfl ?_
      unfold movF at kk
      first
        | (rw [mn_le (Int32.le_trans (Int32.le_of_lt (Int32.not_le.mp c2)) hl), mx_le (fun z => c2 z)] at kk; exact kk)
        | (rw [mn_ge c11, mx_ge hl] at kk; exact kk)
        | (rw [mn_le c11, mx_ge c2] at kk; exact kk)
  · refine st_go hK rfl rfl ?_
    refine st_go hK rfl rfl ?_
    refine st_ret hK rfl rfl ?_
    unfold movF at kk
    first
      | (rw [mn_le (Int32.le_trans (Int32.le_of_lt (Int32.not_le.mp c2)) hl), mx_le (fun z => c2 z)] at kk; exact kk)
      | (rw [mn_ge c11, mx_ge hl] at kk; exact kk)
      | (rw [mn_le c11, mx_ge c2] at kk; exact kk)
theorem z_settles {n : Nat} {u v : Int32} (hn : n < 15) (h1 : σ 156 n ≤ σ 157 n) (h2 : σ 158 n ≤ σ 159 n) (kk : Q none (cw_B (cw_up (cw_up (cw_up σ 166 n (movF u (σ 156 n) (σ 157 n))) 167 n (movF v (σ 158 n) (σ 159 n))) 168 n 1) lam)) : cw_Z (d + 2) m_Mo_settles [.ref 146, .int (nI n), .int u, .int v] (cw_B σ lam) Q := by
  refine zi (L := [some (.ref 146), some (.int (nI n)), some (.int u), some (.int v)]) rfl rfl (fun K hK => ?_)
  refine st_go hK rfl rfl ?_
  refine st_getr hK rfl qf_146_29 ?_
  refine st_go hK rfl rfl ?_
  refine st_go hK rfl rfl ?_
  refine st_go hK rfl rfl ?_
  refine st_getr hK rfl qf_146_15 ?_
  refine st_go hK rfl rfl ?_
  refine ga (e := n) (v := σ 156 n) hK rfl qa_156 rfl (by omega) rfl rfl ?_
  refine st_go hK rfl rfl ?_
  refine st_getr hK rfl qf_146_16 ?_
  refine st_go hK rfl rfl ?_
  refine ga (e := n) (v := σ 157 n) hK rfl qa_157 rfl (by omega) rfl rfl ?_
  refine cs3 hK rfl (Nat.le_of_ble_eq_true rfl) ?_
  refine z_minto h1 ?_
  change K _ _ (_ :: _) _
  refine sa (e := n) hK rfl qa_166 rfl (by omega) rfl ?_
  refine st_go hK rfl rfl ?_
  refine st_getr hK rfl qf_146_30 ?_
  refine st_go hK rfl rfl ?_
  refine st_go hK rfl rfl ?_
  refine st_go hK rfl rfl ?_
  refine st_getr hK rfl qf_146_17 ?_
  refine st_go hK rfl rfl ?_
  refine ga (e := n) (v := σ 158 n) hK rfl qa_158 rfl (by omega) rfl (by rw [up_ne (by decide)]) ?_
  refine st_go hK rfl rfl ?_
  refine st_getr hK rfl qf_146_18 ?_
  refine st_go hK rfl rfl ?_
  refine ga (e := n) (v := σ 159 n) hK rfl qa_159 rfl (by omega) rfl (by rw [up_ne (by decide)]) ?_
  refine cs3 hK rfl (Nat.le_of_ble_eq_true rfl) ?_
  refine z_minto h2 ?_
  change K _ _ (_ :: _) _
  refine sa (e := n) hK rfl qa_167 rfl (by omega) rfl ?_
  refine st_go hK rfl rfl ?_
  refine st_getr hK rfl qf_146_31 ?_
  refine st_go hK rfl rfl ?_
  refine st_go hK rfl rfl ?_
  refine sa (e := n) hK rfl qa_168 rfl (by omega) rfl ?_
  refine st_ret hK rfl rfl ?_
  exact kk
/-- while being laid -/
def PI (σ τ : cw_V) (s top : Nat) : Prop := TQ σ τ ∧ (∀ n, nodeN s (σ 151) n → ∀ i, i < 9 → i ≠ 6 → τ (156 + i) n = mU σ (nI n) i) ∧ (∀ n, nodeN s (σ 151) n → σ 153 n ≠ -1 → τ 162 n = mWr σ (nI n)) ∧ τ 146 32 = nI top ∧ τ 168 top = 1 ∧ ∀ n, n < 15 → τ 168 n = 0 ∨ (τ 168 n = 1 ∧ nodeN s (σ 151) n ∧ τ 166 n = mE σ (nI n) 0 ∧ τ 167 n = mE σ (nI n) 1)
theorem PI.step {top : Nat} (hM : MW σ s) (h : PI σ τ s top) {n : Nat} (hn : nodeN s (σ 151) n) {u v : Int32} (hu : movF u (τ 156 n) (τ 157 n) = mE σ (nI n) 0) (hv : movF v (τ 158 n) (τ 159 n) = mE σ (nI n) 1) : PI σ (cw_up (cw_up (cw_up τ 166 n (movF u (τ 156 n) (τ 157 n))) 167 n (movF v (τ 158 n) (τ 159 n))) 168 n 1) s top := by
  obtain ⟨h1, h2, h3, h4, h5, h6⟩ := h
  rw [hu, hv]
  refine ⟨⟨fun p p0 hp => ?_, fun k hk k2 => ?_⟩, fun x hx i hi i6 => ?_, fun x hx xp => ?_, ?_, ?_, fun x hx => ?_⟩
  · rw [up_ne (by omega), up_ne (by omega), up_ne (by omega)]
    exact h1.1 p p0 hp
  · rw [up_ne (by omega), up_ne (by omega), up_ne (by omega)]
    exact h1.2 k hk k2
  · rw [up_ne (by omega), up_ne (by omega), up_ne (by omega)]
    exact h2 x hx i hi i6
  · rw [up_ne (by omega), up_ne (by omega), up_ne (by omega)]
    exact h3 x hx xp
  · rw [up_ne (by omega), up_ne (by omega), up_ne (by omega)]
    exact h4
  · simp only [up_at]
    grind
  · have h7 := h6 x hx
    simp only [up_at]
    by_cases e : x = n
    · subst e
      exact Or.inr (by simp [hn])
    · simp only [e, if_false]
      simpa using h7
/-- not whole -/
theorem z_areLaid0 (hM : MW σ s) (h1 : (tlF (mv σ) 1 15).length ≠ 1) (kk : Q (some (.int 0)) (cw_B σ lam)) : cw_Z (d + 3) m_Mo_areLaid [.ref 146] (cw_B σ lam) Q := by
  have hl : tmC σ 15 ≤ 15 := tmC_le 15
  have h1' : tmC σ 15 ≠ 1 := by rw [hM.tm 15 (by omega)]; exact h1
  refine zi (L := [some (.ref 146), none, none]) rfl rfl (fun K hK => ?_)
  refine st_go hK rfl rfl ?_
  refine cv0 hK rfl qc_146 (Nat.le_of_ble_eq_true rfl) ?_
  refine z_topMany ?_
  change K _ _ (_ :: _) _
  refine st_go hK rfl rfl ?_
  refine st_ifn hK rfl rfl (nI_eq (a := tmC σ 15) (b := 1) (by omega) (by omega)) (fun c => absurd c h1') (fun _ => ?_)
  refine st_go hK rfl rfl ?_
  refine st_zret hK rfl (Or.inl rfl) ?_
  exact kk
theorem z_areLaid1 (hM : MW σ s) (hV : VR (mv σ) 1 s) (h1 : (tlF (mv σ) 1 15).length = 1) (kk : ∀ τ top, AL σ τ s top → nodeN s (σ 151) top → σ 153 top = -1 → Q (some (.int 1)) (cw_B τ lam)) : cw_Z (d + 5) m_Mo_areLaid [.ref 146] (cw_B σ lam) Q := by
  have hl : tmC σ 15 ≤ 15 := tmC_le 15
  have h1' : tmC σ 15 = 1 := by rw [hM.tm 15 (by omega)]; exact h1
  obtain ⟨top, t1, t2, t3, t4, t5⟩ := one_top hM.wf h1
  have hW := hM.2.1
  have ltop := hW.lt t1
  obtain ⟨ρ, hρ⟩ := hW.2.2.2.2.2
  have hE := EV_lab (U := UV (mv σ) 1) (wr := wrF (mv σ) 1 (UV (mv σ) 1)) hM.wf t1 t2
  have le := fun n (hn : nodeN s (σ 151) n) => lab_le hM.wf hV (UV_lab hM.wf) hn
  refine zi (L := [some (.ref 146), none, none]) rfl rfl (fun K hK => ?_)
  refine st_go hK rfl rfl ?_
  refine cv0 hK rfl qc_146 (Nat.le_of_ble_eq_true rfl) ?_
  refine z_topMany ?_
  change K _ _ (_ :: _) _
  refine st_go hK rfl rfl ?_
  refine st_ifn hK rfl rfl (nI_eq (a := tmC σ 15) (b := 1) (by omega) (by omega)) (fun _ => ?_) (fun c => absurd h1' c)
  refine st_go hK rfl rfl ?_
  refine cv0 hK rfl qc_146 (Nat.le_of_ble_eq_true rfl) ?_
  refine z_tellsAll hM (fun τ hT => ?_)
  change K _ _ _ _
  have e150 : ∀ x, τ 150 x = σ 150 x := fun x => congrFun (hT.1.1 150 (by omega) (by omega)) x
  have e153 : ∀ x, τ 153 x = σ 153 x := fun x => congrFun (hT.1.1 153 (by omega) (by omega)) x
  have loop2 : ∀ m r τ (x2 : Option Value), r + m = 7 → PI σ τ s top → (∀ n, nodeN s (σ 151) n → ρ n ≤ r → τ 168 n = 1) → K 99 [some (.ref 146), some (.int (nI r)), x2] [] (cw_B τ lam) := by
    intro m
    induction m with
    | zero =>
      intro r τ x2 hr hP hD
      obtain rfl : r = 7 := by omega
      refine st_go hK rfl rfl ?_
      refine st_go hK rfl rfl ?_
      refine st_ifn hK rfl rfl (nI_leI (a := 7) (b := 7) (by omega) (by omega)) (fun _ => ?_) (fun c => absurd (by omega) c)
      refine st_go hK rfl rfl ?_
      refine st_zret hK rfl (Or.inr rfl) ?_
      refine kk τ top ⟨hP.1, hP.2.1, hP.2.2.1, hP.2.2.2.1, fun n hn => ?_⟩ t1 t2
      rcases hP.2.2.2.2.2 n (hW.lt hn) with z | z
      · rw [hD n hn (hW.depth hρ hn)] at z
        exact absurd z (by decide)
      · exact z.2.2
    | succ m ih =>
      intro r τ x2 hr hP hD
      have loop3 : ∀ q i τ, i + q = 15 → PI σ τ s top → (∀ n, nodeN s (σ 151) n → ρ n ≤ r → τ 168 n = 1) → (∀ n, nodeN s (σ 151) n → n < i → ρ n ≤ r + 1 → τ 168 n = 1) → K 107 [some (.ref 146), some (.int (nI r)), some (.int (nI i))] [] (cw_B τ lam) := by
        intro q
        induction q with
        | zero =>
          intro i τ hi hP hD hF
          obtain rfl : i = 15 := by omega
          refine st_go hK rfl rfl ?_
          refine st_go hK rfl rfl ?_
          refine st_ifn hK rfl rfl (nI_leI (a := 15) (b := 15) (by omega) (by omega)) (fun _ => ?_) (fun c => absurd (by omega) c)
          refine st_go hK rfl rfl ?_
          rw [nI_1]
          refine st_go hK rfl rfl ?_
          exact ih (r + 1) τ _ (by omega) hP (fun n hn h7 => hF n hn (hW.lt hn) h7)
        | succ q ih3 =>
          intro i τ hi hP hD hF
          have a150 : τ 150 i = σ 150 i := congrFun (hP.1.1 150 (by omega) (by omega)) i
          have skip : (nodeN s (σ 151) i → ρ i ≤ r + 1 → τ 168 i = 1) → K 174 [some (.ref 146), some (.int (nI r)), some (.int (nI i))] [] (cw_B τ lam) := by
            intro hsk
            refine st_go hK rfl rfl ?_
            rw [nI_1]
            refine st_go hK rfl rfl ?_
            refine ih3 (i + 1) τ (by omega) hP hD (fun n hn hlt h7 => ?_)
            by_cases e : n = i
            · subst e
              exact hsk hn h7
            · exact hF n hn (by omega) h7
          refine st_go hK rfl rfl ?_
          refine st_go hK rfl rfl ?_
          refine st_ifn hK rfl rfl (nI_leI (a := 15) (b := i) (by omega) (by omega)) (fun c => absurd c (by omega)) (fun _ => ?_)
          refine st_go hK rfl rfl ?_
          refine st_getr hK rfl qf_146_8 ?_
          refine st_go hK rfl rfl ?_
          refine ga (e := i) (v := σ 150 i) hK rfl qa_150 rfl (by omega) rfl a150 ?_
          refine st_go hK rfl rfl ?_
          refine st_if hK rfl rfl (fun c120 => ?_) (fun c120 => ?_)
          · refine skip (fun h1 h2 => ?_)
            first
              | exact absurd ((hM.is1 (by omega)).mpr h1) c120
              | exact ((hP.2.2.2.2.2 i (by omega)).resolve_left c129).1
              | exact absurd (hD j j3 (by omega)) c144
          · refine st_go hK rfl rfl ?_
            refine st_getr hK rfl qf_146_31 ?_
            refine st_go hK rfl rfl ?_
            refine ga (e := i) (v := τ 168 i) hK rfl qa_168 rfl (by omega) rfl rfl ?_
            refine st_if hK rfl rfl (fun c129 => ?_) (fun c129 => ?_)
            · refine skip (fun h1 h2 => ?_)
              first
                | exact absurd ((hM.is1 (by omega)).mpr h1) c120
                | exact ((hP.2.2.2.2.2 i (by omega)).resolve_left c129).1
                | exact absurd (hD j j3 (by omega)) c144
            · have ni : nodeN s (σ 151) i := (hM.is1 (by omega)).mp (Decidable.not_not.mp c120)
              have i_t : i ≠ top := fun z => c129 (by rw [z, hP.2.2.2.2.1]; decide)
              have hpi : σ 153 i ≠ -1 := fun z => i_t (t5 i ni z)
              obtain ⟨j, j8, j15, j1, j2, j3, j4⟩ := hW.up ni hpi
              have b153 : τ 153 i = nI j := (congrFun (hP.1.1 153 (by omega) (by omega)) i).trans j1
              have rj := (hρ i ni).2 j j15 j1
              refine st_go hK rfl rfl ?_
              refine st_getr hK rfl qf_146_31 ?_
              refine st_go hK rfl rfl ?_
              refine st_getr hK rfl qf_146_11 ?_
              refine st_go hK rfl rfl ?_
              refine ga (e := i) (v := nI j) hK rfl qa_153 rfl (by omega) rfl b153 ?_
              refine ga (e := j) (v := τ 168 j) hK rfl qa_168 rfl (by omega) rfl rfl ?_
              refine st_go hK rfl rfl ?_
              refine st_if hK rfl rfl (fun c144 => ?_) (fun c144 => ?_)
              · refine skip (fun h1 h2 => ?_)
                first
                  | exact absurd ((hM.is1 (by omega)).mpr h1) c120
                  | exact ((hP.2.2.2.2.2 i (by omega)).resolve_left c129).1
                  | exact absurd (hD j j3 (by omega)) c144
              · refine st_go hK rfl rfl ?_
                refine st_go hK rfl rfl ?_
                refine st_go hK rfl rfl ?_
                refine st_getr hK rfl qf_146_29 ?_
                refine st_go hK rfl rfl ?_
                refine st_getr hK rfl qf_146_11 ?_
                refine st_go hK rfl rfl ?_
                refine ga (e := i) (v := nI j) hK rfl qa_153 rfl (by omega) rfl b153 ?_
                refine ga (e := j) (v := τ 166 j) hK rfl qa_166 rfl (by omega) rfl rfl ?_
                refine st_go hK rfl rfl ?_
                refine st_getr hK rfl qf_146_30 ?_
                refine st_go hK rfl rfl ?_
                refine st_getr hK rfl qf_146_11 ?_
                refine st_go hK rfl rfl ?_
                refine ga (e := i) (v := nI j) hK rfl qa_153 rfl (by omega) rfl b153 ?_
                refine ga (e := j) (v := τ 167 j) hK rfl qa_167 rfl (by omega) rfl rfl ?_
                refine cv3 hK rfl qc_146 (Nat.le_of_ble_eq_true rfl) ?_
                have hm := hE.2 (nI i) (hM.wf.node ni) (by rw [pof_n hM.wf ni]; exact hpi)
                rw [pof_n hM.wf ni] at hm
                have hpj' : mv σ (1 + 8) i = nI j := j1
                rw [hpj'] at hm
                have x0 : τ 156 i = mU σ (nI i) 0 := hP.2.1 i ni 0 (by omega) (by omega)
                have x1 : τ 157 i = mU σ (nI i) 1 := hP.2.1 i ni 1 (by omega) (by omega)
                have x2 : τ 158 i = mU σ (nI i) 2 := hP.2.1 i ni 2 (by omega) (by omega)
                have x3 : τ 159 i = mU σ (nI i) 3 := hP.2.1 i ni 3 (by omega) (by omega)
                have pj := (hP.2.2.2.2.2 j j15).resolve_left (by rw [Decidable.not_not.mp c144]; decide)
                refine z_settles (by omega) (by rw [x0, x1]; exact (le i ni).1) (by rw [x2, x3]; exact (le i ni).2) ?_
                have hS := hP.step hM ni (u := τ 166 j) (v := τ 167 j) (by rw [x0, x1, pj.2.2.1]; exact hm.1.symm) (by rw [x2, x3, pj.2.2.2]; exact hm.2.1.symm)
                have d1 : ∀ x, τ 168 x = 1 → cw_up (cw_up (cw_up τ 166 i (movF (τ 166 j) (τ 156 i) (τ 157 i))) 167 i (movF (τ 167 j) (τ 158 i) (τ 159 i))) 168 i 1 168 x = 1 := fun x hx => by
                  simp only [up_at]
                  grind
                have d2 : cw_up (cw_up (cw_up τ 166 i (movF (τ 166 j) (τ 156 i) (τ 157 i))) 167 i (movF (τ 167 j) (τ 158 i) (τ 159 i))) 168 i 1 168 i = 1 := by
                  rw [up_eq, upd_eq]
                generalize cw_up (cw_up (cw_up τ 166 i (movF (τ 166 j) (τ 156 i) (τ 157 i))) 167 i (movF (τ 167 j) (τ 158 i) (τ 159 i))) 168 i 1 = τ9 at hS d1 d2 ⊢
                change K _ _ _ _
                refine st_go hK rfl rfl ?_
                rw [nI_1]
                refine st_go hK rfl rfl ?_
                refine ih3 (i + 1) τ9 (by omega) hS (fun n hn h7 => d1 n (hD n hn h7)) (fun n hn hlt h7 => ?_)
                by_cases e : n = i
                · subst e
                  exact d2
                · exact d1 n (hF n hn (by omega) h7)
      refine st_go hK rfl rfl ?_
      refine st_go hK rfl rfl ?_
      refine st_ifn hK rfl rfl (nI_leI (a := 7) (b := r) (by omega) (by omega)) (fun c => absurd c (by omega)) (fun _ => ?_)
      refine st_go hK rfl rfl ?_
      refine st_go hK rfl rfl ?_
      change K _ [some (.ref 146), some (.int (nI r)), some (.int (0 : Int32))] _ _
      exact loop3 15 0 τ (by omega) hP hD (fun n hn h0 => by omega)
  have loop1 : ∀ m i τ', i + m = 15 → (∀ p, p ≠ 146 → p ≠ 168 → τ' p = τ p) → (∀ k, k ≠ 32 → τ' 146 k = τ 146 k) → (∀ x, x < i → τ' 168 x = 0) → (top < i → τ' 146 32 = nI top) → K 16 [some (.ref 146), some (.int (nI i)), none] [] (cw_B τ' lam) := by
    intro m
    induction m with
    | zero =>
      intro i τ' hi f1 f2 f3 f4
      obtain rfl : i = 15 := by omega
      have ft := f4 ltop
      refine st_go hK rfl rfl ?_
      refine st_go hK rfl rfl ?_
      refine st_ifn hK rfl rfl (nI_leI (a := 15) (b := 15) (by omega) (by omega)) (fun _ => ?_) (fun c => absurd (by omega) c)
      refine st_go hK rfl rfl ?_
      refine st_go hK rfl rfl ?_
      refine gi (v := nI top) hK rfl qf_146_32 ft ?_
      refine st_go hK rfl rfl ?_
      refine gi (v := σ 146 4) hK rfl qf_146_4 ((f2 4 (by omega)).trans (hT.1.2 4 (by omega))) ?_
      refine st_go hK rfl rfl ?_
      refine gi (v := σ 146 5) hK rfl qf_146_5 ((f2 5 (by omega)).trans (hT.1.2 5 (by omega))) ?_
      refine st_bin hK rfl ?_
      refine st_go hK rfl rfl ?_
      refine st_bin hK rfl ?_
      refine st_go hK rfl rfl ?_
      refine gi (v := σ 146 4) hK rfl qf_146_4 ((f2 4 (by omega)).trans (hT.1.2 4 (by omega))) ?_
      refine st_go hK rfl rfl ?_
      refine gi (v := σ 146 5) hK rfl qf_146_5 ((f2 5 (by omega)).trans (hT.1.2 5 (by omega))) ?_
      refine st_bin hK rfl ?_
      refine st_go hK rfl rfl ?_
      refine st_bin hK rfl ?_
      refine cv3 hK rfl qc_146 (Nat.le_of_ble_eq_true rfl) ?_
      have nl : ∀ i, i < 9 → i ≠ 6 → τ' (156 + i) top = mU σ (nI top) i := fun i hi h6 => by rw [f1 (156 + i) (by omega) (by omega)]; exact hT.2.1 top t1 i hi h6
      have x0 : τ' 156 top = mU σ (nI top) 0 := nl 0 (by omega) (by omega)
      have x1 : τ' 157 top = mU σ (nI top) 1 := nl 1 (by omega) (by omega)
      have x2 : τ' 158 top = mU σ (nI top) 2 := nl 2 (by omega) (by omega)
      have x3 : τ' 159 top = mU σ (nI top) 3 := nl 3 (by omega) (by omega)
      refine z_settles ltop (by rw [x0, x1]; exact (le top t1).1) (by rw [x2, x3]; exact (le top t1).2) ?_
      have hS : PI σ (cw_up (cw_up (cw_up τ' 166 top (movF ((σ 146 4 + σ 146 5) * 65536) (τ' 156 top) (τ' 157 top))) 167 top (movF ((σ 146 4 - σ 146 5) * 65536) (τ' 158 top) (τ' 159 top))) 168 top 1) s top := by
        refine ⟨⟨fun p p0 hp => ?_, fun k hk k2 => ?_⟩, fun x hx i hi i6 => ?_, fun x hx xp => ?_, ?_, ?_, fun x hx => ?_⟩
        · rw [up_ne (by omega), up_ne (by omega), up_ne (by omega), f1 p p0 (by omega)]
          exact hT.1.1 p p0 (by omega)
        · rw [up_ne (by omega), up_ne (by omega), up_ne (by omega), f2 k k2]
          exact hT.1.2 k hk
        · rw [up_ne (by omega), up_ne (by omega), up_ne (by omega), f1 (156 + i) (by omega) (by omega)]
          exact hT.2.1 x hx i hi i6
        · rw [up_ne (by omega), up_ne (by omega), up_ne (by omega), f1 162 (by omega) (by omega)]
          exact hT.2.2 x hx xp
        · rw [up_ne (by omega), up_ne (by omega), up_ne (by omega)]
          exact ft
        · rw [up_eq, upd_eq]
        · by_cases e : x = top
          · subst e
            refine Or.inr ⟨by rw [up_eq, upd_eq], t1, ?_, ?_⟩
            · rw [up_ne (by omega), up_ne (by omega), up_eq, upd_eq, x0, x1]
              exact hE.1.1.symm
            · rw [up_ne (by omega), up_eq, upd_eq, x2, x3]
              exact hE.1.2.1.symm
          · refine Or.inl ?_
            rw [up_eq, upd_ne e, up_ne (by omega), up_ne (by omega)]
            exact f3 x hx
      have dt : cw_up (cw_up (cw_up τ' 166 top (movF ((σ 146 4 + σ 146 5) * 65536) (τ' 156 top) (τ' 157 top))) 167 top (movF ((σ 146 4 - σ 146 5) * 65536) (τ' 158 top) (τ' 159 top))) 168 top 1 168 top = 1 := by rw [up_eq, upd_eq]
      generalize cw_up (cw_up (cw_up τ' 166 top (movF ((σ 146 4 + σ 146 5) * 65536) (τ' 156 top) (τ' 157 top))) 167 top (movF ((σ 146 4 - σ 146 5) * 65536) (τ' 158 top) (τ' 159 top))) 168 top 1 = τ9 at hS dt ⊢
      change K _ _ _ _
      refine st_go hK rfl rfl ?_
      refine st_go hK rfl rfl ?_
      change K _ [some (.ref 146), some (.int (0 : Int32)), _] _ _
      refine loop2 7 0 τ9 none (by omega) hS (fun n hn h0 => ?_)
      have : n = top := by
        refine t5 n hn ?_
        rcases Classical.em (σ 153 n = -1) with z | z
        · exact z
        · obtain ⟨j, j8, j15, j1, j2, j3, j4⟩ := hW.up hn z
          have := (hρ n hn).2 j j15 j1
          omega
      rw [this]
      exact dt
    | succ m ih =>
      intro i τ' hi f1 f2 f3 f4
      have a150 : τ' 150 i = σ 150 i := by rw [f1 150 (by omega) (by omega)]; exact e150 i
      have a153 : τ' 153 i = σ 153 i := by rw [f1 153 (by omega) (by omega)]; exact e153 i
      refine st_go hK rfl rfl ?_
      refine st_go hK rfl rfl ?_
      refine st_ifn hK rfl rfl (nI_leI (a := 15) (b := i) (by omega) (by omega)) (fun c => absurd c (by omega)) (fun _ => ?_)
      refine st_go hK rfl rfl ?_
      refine st_getr hK rfl qf_146_31 ?_
      refine st_go hK rfl rfl ?_
      refine st_go hK rfl rfl ?_
      refine sa (e := i) hK rfl qa_168 rfl (by omega) rfl ?_
      refine st_go hK rfl rfl ?_
      refine st_go hK rfl rfl ?_
      refine st_getr hK rfl qf_146_8 ?_
      refine st_go hK rfl rfl ?_
      refine ga (e := i) (v := σ 150 i) hK rfl qa_150 rfl (by omega) rfl (by rw [up_ne (by decide), a150]) ?_
      refine st_go hK rfl rfl ?_
      refine st_if hK rfl rfl (fun c37 => ?_) (fun c37 => ?_)
      · refine st_go hK rfl rfl ?_
        refine gi (v := τ' 146 32) hK rfl qf_146_32 (by rw [up_ne (by decide)]) ?_
        refine st_put hK rfl qf_146_32 rfl ?_
        refine st_go hK rfl rfl ?_
        rw [nI_1]
        refine st_go hK rfl rfl ?_
        have : i ≠ top := fun z => by
          subst z
          first | exact c37 ((hM.is1 (by omega)).mpr t1) | exact ht t2
        refine ih (i + 1) _ (by omega) (fun p p0 p1 => ?_) (fun k hk => ?_) (fun x hx => ?_) (fun z => ?_)
        · rw [up_ne p0, up_ne p1]
          exact f1 p p0 p1
        · rw [up_eq, upd_ne hk, up_ne (by omega)]
          exact f2 k hk
        · rw [up_ne (by omega), up_eq]
          unfold upd
          split
          · rfl
          · exact f3 x (by omega)
        · rw [up_eq, upd_eq]
          exact f4 (by omega)
      · refine st_go hK rfl rfl ?_
        refine st_go hK rfl rfl ?_
        refine cv1 hK rfl qc_146 (Nat.le_of_ble_eq_true rfl) ?_
        refine z_misTop (by omega) (fun ht => ?_) (fun ht => ?_)
        · change K _ _ (_ :: _) _
          rw [up_ne (by decide), a153] at ht
          refine st_if hK rfl rfl (fun c => absurd c (by decide)) (fun _ => ?_)
          refine st_go hK rfl rfl ?_
          refine st_go hK rfl rfl ?_
          refine st_put hK rfl qf_146_32 rfl ?_
          refine st_go hK rfl rfl ?_
          rw [nI_1]
          refine st_go hK rfl rfl ?_
          have : i = top := t5 i ((hM.is1 (by omega)).mp (Decidable.not_not.mp c37)) ht
          refine ih (i + 1) _ (by omega) (fun p p0 p1 => ?_) (fun k hk => ?_) (fun x hx => ?_) (fun _ => ?_)
          · rw [up_ne p0, up_ne p1]
            exact f1 p p0 p1
          · rw [up_eq, upd_ne hk, up_ne (by omega)]
            exact f2 k hk
          · rw [up_ne (by omega), up_eq]
            unfold upd
            split
            · rfl
            · exact f3 x (by omega)
          · rw [up_eq, upd_eq, this]
        · change K _ _ (_ :: _) _
          rw [up_ne (by decide), a153] at ht
          refine st_if hK rfl rfl (fun _ => ?_) (fun c => absurd (by decide) c)
          refine st_go hK rfl rfl ?_
          refine gi (v := τ' 146 32) hK rfl qf_146_32 (by rw [up_ne (by decide)]) ?_
          refine st_put hK rfl qf_146_32 rfl ?_
          refine st_go hK rfl rfl ?_
          rw [nI_1]
          refine st_go hK rfl rfl ?_
          have : i ≠ top := fun z => by
            subst z
            first | exact c37 ((hM.is1 (by omega)).mpr t1) | exact ht t2
          refine ih (i + 1) _ (by omega) (fun p p0 p1 => ?_) (fun k hk => ?_) (fun x hx => ?_) (fun z => ?_)
          · rw [up_ne p0, up_ne p1]
            exact f1 p p0 p1
          · rw [up_eq, upd_ne hk, up_ne (by omega)]
            exact f2 k hk
          · rw [up_ne (by omega), up_eq]
            unfold upd
            split
            · rfl
            · exact f3 x (by omega)
          · rw [up_eq, upd_eq]
            exact f4 (by omega)
  refine st_go hK rfl rfl ?_
  refine st_go hK rfl rfl ?_
  exact loop1 15 0 τ (by omega) (fun _ _ _ => rfl) (fun _ _ => rfl) (fun x hx => by omega) (fun z => by omega)
end

