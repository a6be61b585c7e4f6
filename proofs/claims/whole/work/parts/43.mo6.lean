/-! THE MODEL TELLS ALL -/
def TI (σ τ : cw_V) : Prop := (∀ p, p ≠ 146 → (p < 156 ∨ 165 < p) → τ p = σ p) ∧ ∀ k, (k < 25 ∨ 28 < k) → τ 146 k = σ 146 k
theorem TI.mve {σ τ : cw_V} (h : TI σ τ) : mv τ = mv σ := by
  funext p
  unfold mv
  rw [h.2 1 (by omega), h.2 3 (by omega), h.2 4 (by omega), h.2 5 (by omega), h.1 148 (by omega) (by omega), h.1 149 (by omega) (by omega), h.1 151 (by omega) (by omega), h.1 152 (by omega) (by omega), h.1 153 (by omega) (by omega)]
theorem TI.mw {σ τ : cw_V} {s : Nat} (h : TI σ τ) (hM : MW σ s) : MW τ s := by
  unfold MW
  rw [h.2 1 (by omega), h.1 150 (by omega) (by omega), h.1 151 (by omega) (by omega), h.1 152 (by omega) (by omega), h.1 153 (by omega) (by omega)]
  exact hM
theorem TI.trans {σ τ υ : cw_V} (h : TI σ τ) (h' : TI τ υ) : TI σ υ := ⟨fun p h0 h1 => (h'.1 p h0 h1).trans (h.1 p h0 h1), fun k hk => (h'.2 k hk).trans (h.2 k hk)⟩
theorem TI.rf {σ : cw_V} : TI σ σ := ⟨fun _ _ _ => rfl, fun _ _ => rfl⟩
/-- the true labels, the true wires of the model's tree -/
def mU (σ : cw_V) : Int32 → Nat → Int32 := UV (mv σ) 1
def mWr (σ : cw_V) : Int32 → Int32 := wrF (mv σ) 1 (UV (mv σ) 1)
def LI (σ τ : cw_V) (s : Nat) : Prop := TI σ τ ∧ (∀ n, n < 15 → τ 165 n = 0 ∨ (τ 165 n = 1 ∧ nodeN s (σ 151) n ∧ ∀ i, i < 9 → i ≠ 6 → τ (156 + i) n = mU σ (nI n) i)) ∧ (∀ n j, nodeN s (σ 151) n → j < 15 → σ 153 n = nI j → τ 165 j = 1 → τ 162 n = mWr σ (nI n)) ∧ ∀ n, n < s → τ 165 n = 1
/-- told -/
def TL (σ τ : cw_V) (s : Nat) : Prop := TI σ τ ∧ (∀ n, nodeN s (σ 151) n → ∀ i, i < 9 → i ≠ 6 → τ (156 + i) n = mU σ (nI n) i) ∧ ∀ n, nodeN s (σ 151) n → σ 153 n ≠ -1 → τ 162 n = mWr σ (nI n)
theorem jn9 {f f' a a' b b' : Nat → Int32} {l r : Int32} (ha : ∀ i, i < 9 → i ≠ 6 → a i = a' i) (hb : ∀ i, i < 9 → i ≠ 6 → b i = b' i) {i : Nat} (hi : i < 9) (h6 : i ≠ 6) : jnF f a b l r i = jnF f' a' b' l r i := by
  have h := ha i hi h6
  have h' := hb i hi h6
  have : i = 0 ∨ i = 1 ∨ i = 2 ∨ i = 3 ∨ i = 4 ∨ i = 5 ∨ i = 7 ∨ i = 8 := by omega
  rcases this with rfl | rfl | rfl | rfl | rfl | rfl | rfl | rfl <;> (unfold jnF; simp [h, h'])
section
variable {d s : Nat} {σ τ : cw_V} {lam : Nat → Int64} {Q : cw_Q} {ρ : Nat → Nat}
theorem pof_n {t : Nat} (hW : WF σ t s) {n : Nat} (hn : nodeN s (σ (t + 6)) n) : pof σ t (nI n) = σ (t + 8) n := by
  have := hW.2.lt hn
  rw [pof_1 (hW.node hn), nI_clamp (by omega)]
/-- the wire of a left, of a right child -/
theorem wr_l {t : Nat} (hW : WF σ t s) {U : Int32 → Nat → Int32} {n b j : Nat} (hn : nodeN s (σ (t + 6)) n) (hj : j < 15) (hp : σ (t + 8) n = nI j) (hl : σ (t + 6) j = nI n) (hr : σ (t + 7) j = nI b) : wrF σ t U (nI n) = lwF (U (nI n)) (U (nI b)) (skT σ t) := by
  unfold wrF
  rw [pof_n hW hn, hp]
  have e1 : lfT σ t (nI j) = nI n := by unfold lfT nd; rw [nI_clamp (by omega), hl]
  have e2 : rtT σ t (nI j) = nI b := by unfold rtT nd; rw [nI_clamp (by omega), hr]
  rw [e1, e2, decide_eq_true rfl]
  rfl
theorem wr_r {t : Nat} (hW : WF σ t s) {U : Int32 → Nat → Int32} {n a j : Nat} (hn : nodeN s (σ (t + 6)) n) (hj : j < 15) (hp : σ (t + 8) n = nI j) (hl : σ (t + 6) j = nI a) (hr : σ (t + 7) j = nI n) (han : nI a ≠ nI n) : wrF σ t U (nI n) = rwF (U (nI a)) (U (nI n)) (skT σ t) := by
  unfold wrF
  rw [pof_n hW hn, hp]
  have e1 : lfT σ t (nI j) = nI a := by unfold lfT nd; rw [nI_clamp (by omega), hl]
  have e2 : rtT σ t (nI j) = nI n := by unfold rtT nd; rw [nI_clamp (by omega), hr]
  rw [e1, e2, decide_eq_false han]
  rfl
theorem LI.step (hM : MW σ s) (h : LI σ τ s) {j a b : Nat} (j8 : 8 ≤ j) (j15 : j < 15) (hj : σ 151 j ≠ -1) (ea : σ 151 j = nI a) (eb : σ 152 j = nI b) (na : nodeN s (σ 151) a) (nb : nodeN s (σ 151) b) (nab : a ≠ b) (pa_a : σ 153 a = nI j) (pa_b : σ 153 b = nI j) (da : τ 165 a = 1) (db : τ 165 b = 1) {τ' : cw_V} (h' : tjS τ τ' j a b) : LI σ τ' s ∧ (∀ x, τ 165 x = 1 → τ' 165 x = 1) ∧ τ' 165 j = 1 := by
  have hW := hM.2.1
  have la := hW.lt na
  have lb := hW.lt nb
  obtain ⟨f1, f2, f3, f4⟩ := h
  obtain ⟨g1, g2, g3, g4, g5⟩ := h'
  have one : ∀ {x : Nat}, x < 15 → τ 165 x = 1 → ∀ i, i < 9 → i ≠ 6 → mP τ x i = mU σ (nI x) i := fun {x} hx h1 => by
    rcases f2 x hx with z | z
    · rw [z] at h1; exact absurd h1 (by decide)
    · exact z.2.2
  have A := one la da
  have B := one lb db
  have A6 : ∀ k, k < 6 → mP τ a k = mU σ (nI a) k := fun k hk => A k (by omega) (by omega)
  have B6 : ∀ k, k < 6 → mP τ b k = mU σ (nI b) k := fun k hk => B k (by omega) (by omega)
  have esk : mSk τ = skT (mv σ) 1 := by
    unfold mSk
    rw [f1.2 3 (by omega)]
    rfl
  have el : lwF (mP τ a) (mP τ b) (mSk τ) = lwF (mU σ (nI a)) (mU σ (nI b)) (skT (mv σ) 1) := by rw [esk]; exact lw_congr A6 B6
  have er : rwF (mP τ a) (mP τ b) (mSk τ) = rwF (mU σ (nI a)) (mU σ (nI b)) (skT (mv σ) 1) := by rw [esk]; exact rw_congr A6 B6
  have hT : TI σ τ' := f1.trans ⟨g1, g2⟩
  have mono : ∀ x, τ 165 x = 1 → τ' 165 x = 1 := fun x hx => by
    rw [g5]
    unfold upd
    split
    · rfl
    · exact hx
  have dj : τ' 165 j = 1 := by rw [g5, upd_eq]
  have nj : nodeN s (σ 151) j := Or.inr ⟨j8, j15, hj⟩
  refine ⟨⟨hT, fun n hn => ?_, fun n k hn hk hp hd => ?_, fun n hn => mono n (f4 n hn)⟩, mono, dj⟩
  · by_cases e : n = j
    · subst e
      refine Or.inr ⟨dj, nj, fun i hi h6 => ?_⟩
      rw [g3 i hi h6, upd_eq, el, er]
      have L := (UV_lab hM.wf).1 (nI n) ((hJoint_nI j8 j15).mpr hj)
      have e1 : lfT (mv σ) 1 (nI n) = nI a := by unfold lfT nd; rw [nI_clamp (by omega)]; exact ea
      have e2 : rtT (mv σ) 1 (nI n) = nI b := by unfold rtT nd; rw [nI_clamp (by omega)]; exact eb
      rw [e1, e2] at L
      show _ = UV (mv σ) 1 (nI n) i
      rw [L i (by omega) h6]
      exact jn9 A B hi h6
    · rw [g5, upd_ne e]
      refine (f2 n hn).imp id (fun z => ⟨z.1, z.2.1, fun i hi h6 => ?_⟩)
      rw [g3 i hi h6, upd_ne e]
      exact z.2.2 i hi h6
  · rw [g4]
    by_cases e : k = j
    · subst e
      rcases hW.2.2.2.2.1 n hn (by rw [hp]; exact nI_ne1 (by omega)) with ⟨k', k8, k15, hk', hc⟩
      obtain rfl : k' = k := nI_inj (by omega) (by omega) (hk'.symm.trans hp)
      have ln := hW.lt hn
      rcases hc with hc | hc
      · obtain rfl : n = a := nI_inj (by omega) (by omega) (hc.symm.trans ea)
        rw [upd_ne nab, upd_eq, el]
        exact (wr_l hM.wf hn hk hp ea eb).symm
      · obtain rfl : n = b := nI_inj (by omega) (by omega) (hc.symm.trans eb)
        rw [upd_eq, er]
        exact (wr_r hM.wf hn hk hp ea eb (fun z => nab (nI_inj (by omega) (by omega) z))).symm
    · rw [g5, upd_ne e] at hd
      have n_a : n ≠ a := fun z => e (nI_inj (by omega) (by omega) (hp.symm.trans (by rw [z]; exact pa_a)))
      have n_b : n ≠ b := fun z => e (nI_inj (by omega) (by omega) (hp.symm.trans (by rw [z]; exact pa_b)))
      rw [upd_ne n_b, upd_ne n_a]
      exact f3 n k hn hk hp hd
def L1 (σ τ : cw_V) (s i : Nat) : Prop := TI σ τ ∧ ∀ x, x < i → (x < s → τ 165 x = 1 ∧ ∀ i, i < 9 → i ≠ 6 → τ (156 + i) x = mU σ (nI x) i) ∧ (s ≤ x → τ 165 x = 0)
theorem z_tellsAll (hM : MW σ s) (kk : ∀ τ, TL σ τ s → Q none (cw_B τ lam)) : cw_Z (d + 4) m_Mo_tellsAll [.ref 146] (cw_B σ lam) Q := by
  have hW := hM.2.1
  obtain ⟨ρ, hρ⟩ := hW.2.2.2.2.2
  have hs8 := hW.1
  refine zi (L := [some (.ref 146), none, none]) rfl rfl (fun K hK => ?_)
  have loop2 : ∀ m r τ (x2 : Option Value), r + m = 7 → LI σ τ s → (∀ n, nodeN s (σ 151) n → 7 ≤ ρ n + r → τ 165 n = 1) → K 43 [some (.ref 146), some (.int (nI r)), x2] [] (cw_B τ lam) := by
    intro m
    induction m with
    | zero =>
      intro r τ x2 hr hL hD
      obtain rfl : r = 7 := by omega
      refine st_go hK rfl rfl ?_
      refine st_go hK rfl rfl ?_
      refine st_ifn hK rfl rfl (nI_leI (a := 7) (b := 7) (by omega) (by omega)) (fun _ => ?_) (fun c => absurd (by omega) c)
      refine st_ret hK rfl rfl ?_
      refine kk τ ⟨hL.1, fun n hn => ?_, fun n hn hp => ?_⟩
      · rcases hL.2.1 n (hW.lt hn) with z | z
        · rw [hD n hn (by omega)] at z
          exact absurd z (by decide)
        · exact z.2.2
      · obtain ⟨j, j8, j15, j1, j2, j3, j4⟩ := hW.up hn hp
        exact hL.2.2.1 n j hn j15 j1 (hD j j3 (by omega))
    | succ m ih =>
      intro r τ x2 hr hL hD
      have loop3 : ∀ q i τ, i + q = 7 → LI σ τ s → (∀ n, nodeN s (σ 151) n → 7 ≤ ρ n + r → τ 165 n = 1) → (∀ n, nodeN s (σ 151) n → n < 8 + i → 7 ≤ ρ n + (r + 1) → τ 165 n = 1) → K 52 [some (.ref 146), some (.int (nI r)), some (.int (nI (8 + i)))] [] (cw_B τ lam) := by
        intro q
        induction q with
        | zero =>
          intro i τ hi hL hD hE
          obtain rfl : i = 7 := by omega
          refine st_go hK rfl rfl ?_
          refine st_go hK rfl rfl ?_
          refine st_ifn hK rfl rfl (nI_leI (a := 15) (b := 8 + 7) (by omega) (by omega)) (fun _ => ?_) (fun c => absurd (by omega) c)
          refine st_go hK rfl rfl ?_
          rw [nI_1]
          refine st_go hK rfl rfl ?_
          exact ih (r + 1) τ _ (by omega) hL (fun n hn h7 => hE n hn (by have := hW.lt hn; omega) h7)
        | succ q ih3 =>
          intro i τ hi hL hD hE
          have skip : (nodeN s (σ 151) (8 + i) → 7 ≤ ρ (8 + i) + (r + 1) → τ 165 (8 + i) = 1) → K 112 [some (.ref 146), some (.int (nI r)), some (.int (nI (8 + i)))] [] (cw_B τ lam) := by
            intro hsk
            refine st_go hK rfl rfl ?_
            rw [nI_1]
            refine st_go hK rfl rfl ?_
            refine ih3 (i + 1) τ (by omega) hL hD (fun n hn hlt h7 => ?_)
            by_cases e : n = 8 + i
            · subst e
              exact hsk hn h7
            · exact hE n hn (by omega) h7
          have e150 : τ 150 (8 + i) = σ 150 (8 + i) := congrFun (hL.1.1 150 (by omega) (by omega)) _
          refine st_go hK rfl rfl ?_
          refine st_go hK rfl rfl ?_
          refine st_ifn hK rfl rfl (nI_leI (a := 15) (b := 8 + i) (by omega) (by omega)) (fun c => absurd c (by omega)) (fun _ => ?_)
          refine st_go hK rfl rfl ?_
          refine st_getr hK rfl qf_146_8 ?_
          refine st_go hK rfl rfl ?_
          refine ga (e := 8 + i) (v := σ 150 (8 + i)) hK rfl qa_150 rfl (by omega) rfl e150 ?_
          refine st_go hK rfl rfl ?_
          refine st_if hK rfl rfl (fun c65 => ?_) (fun c65 => ?_)
          · refine skip (fun h1 h2 => ?_)
            first
              | exact absurd ((hM.is1 (by omega)).mpr h1) c65
              | exact ((hL.2.1 (8 + i) (by omega)).resolve_left c74).1
              | exact absurd (hD a na (by omega)) c89
              | exact absurd (hD b nb (by omega)) c104
          · refine st_go hK rfl rfl ?_
            refine st_getr hK rfl qf_146_24 ?_
            refine st_go hK rfl rfl ?_
            refine ga (e := 8 + i) (v := τ 165 (8 + i)) hK rfl qa_165 rfl (by omega) rfl rfl ?_
            refine st_if hK rfl rfl (fun c74 => ?_) (fun c74 => ?_)
            · refine skip (fun h1 h2 => ?_)
              first
                | exact absurd ((hM.is1 (by omega)).mpr h1) c65
                | exact ((hL.2.1 (8 + i) (by omega)).resolve_left c74).1
                | exact absurd (hD a na (by omega)) c89
                | exact absurd (hD b nb (by omega)) c104
            · have nj : nodeN s (σ 151) (8 + i) := (hM.is1 (by omega)).mp (Decidable.not_not.mp c65)
              have hlj : σ 151 (8 + i) ≠ -1 := by
                rcases nj with z | z
                · omega
                · exact z.2.2
              obtain ⟨a, b, ea, eb, na, nb, nab, pa_a, pa_b⟩ := hW.dn (by omega) (by omega) hlj
              have la := hW.lt na
              have lb := hW.lt nb
              have e151 : τ 151 (8 + i) = nI a := (congrFun (hL.1.1 151 (by omega) (by omega)) _).trans ea
              have e152 : τ 152 (8 + i) = nI b := (congrFun (hL.1.1 152 (by omega) (by omega)) _).trans eb
              have ra := (hρ a na).2 (8 + i) (by omega) pa_a
              have rb := (hρ b nb).2 (8 + i) (by omega) pa_b
              refine st_go hK rfl rfl ?_
              refine st_getr hK rfl qf_146_24 ?_
              refine st_go hK rfl rfl ?_
              refine st_getr hK rfl qf_146_9 ?_
              refine st_go hK rfl rfl ?_
              refine ga (e := 8 + i) (v := nI a) hK rfl qa_151 rfl (by omega) rfl e151 ?_
              refine ga (e := a) (v := τ 165 a) hK rfl qa_165 rfl (by omega) rfl rfl ?_
              refine st_go hK rfl rfl ?_
              refine st_if hK rfl rfl (fun c89 => ?_) (fun c89 => ?_)
              · refine skip (fun h1 h2 => ?_)
                first
                  | exact absurd ((hM.is1 (by omega)).mpr h1) c65
                  | exact ((hL.2.1 (8 + i) (by omega)).resolve_left c74).1
                  | exact absurd (hD a na (by omega)) c89
                  | exact absurd (hD b nb (by omega)) c104
              · refine st_go hK rfl rfl ?_
                refine st_getr hK rfl qf_146_24 ?_
                refine st_go hK rfl rfl ?_
                refine st_getr hK rfl qf_146_10 ?_
                refine st_go hK rfl rfl ?_
                refine ga (e := 8 + i) (v := nI b) hK rfl qa_152 rfl (by omega) rfl e152 ?_
                refine ga (e := b) (v := τ 165 b) hK rfl qa_165 rfl (by omega) rfl rfl ?_
                refine st_go hK rfl rfl ?_
                refine st_if hK rfl rfl (fun c104 => ?_) (fun c104 => ?_)
                · refine skip (fun h1 h2 => ?_)
                  first
                    | exact absurd ((hM.is1 (by omega)).mpr h1) c65
                    | exact ((hL.2.1 (8 + i) (by omega)).resolve_left c74).1
                    | exact absurd (hD a na (by omega)) c89
                    | exact absurd (hD b nb (by omega)) c104
                · refine st_go hK rfl rfl ?_
                  refine st_go hK rfl rfl ?_
                  refine cv1 hK rfl qc_146 (Nat.le_of_ble_eq_true rfl) ?_
                  refine z_tellsJoint (by omega) la lb e151 e152 (fun τ' h' => ?_)
                  change K _ _ _ _
                  obtain ⟨s1, s2, s3⟩ := hL.step hM (by omega) (by omega) hlj ea eb na nb nab pa_a pa_b (Decidable.not_not.mp c89) (Decidable.not_not.mp c104) h'
                  refine st_go hK rfl rfl ?_
                  rw [nI_1]
                  refine st_go hK rfl rfl ?_
                  refine ih3 (i + 1) τ' (by omega) s1 (fun n hn h7 => s2 n (hD n hn h7)) (fun n hn hlt h7 => ?_)
                  by_cases e : n = 8 + i
                  · subst e
                    exact s3
                  · exact s2 n (hE n hn (by omega) h7)
      refine st_go hK rfl rfl ?_
      refine st_go hK rfl rfl ?_
      refine st_ifn hK rfl rfl (nI_leI (a := 7) (b := r) (by omega) (by omega)) (fun c => absurd c (by omega)) (fun _ => ?_)
      refine st_go hK rfl rfl ?_
      refine st_go hK rfl rfl ?_
      change K _ [some (.ref 146), some (.int (nI r)), some (.int (8 : Int32))] _ _
      refine loop3 7 0 τ (by omega) hL hD (fun n hn h8 _ => ?_)
      rcases hn with z | z
      · exact hL.2.2.2 n z
      · omega
  have loop1 : ∀ m i τ, i + m = 15 → L1 σ τ s i → K 2 [some (.ref 146), some (.int (nI i)), none] [] (cw_B τ lam) := by
    intro m
    induction m with
    | zero =>
      intro i τ hi h
      obtain rfl : i = 15 := by omega
      refine st_go hK rfl rfl ?_
      refine st_go hK rfl rfl ?_
      refine st_ifn hK rfl rfl (nI_leI (a := 15) (b := 15) (by omega) (by omega)) (fun _ => ?_) (fun c => absurd (by omega) c)
      refine st_go hK rfl rfl ?_
      refine st_go hK rfl rfl ?_
      change K _ [some (.ref 146), some (.int (0 : Int32)), _] _ _
      have hL : LI σ τ s := by
        refine ⟨h.1, fun n hn => ?_, fun n j hn hj hp hd => ?_, fun n hn => ((h.2 n (by omega)).1 hn).1⟩
        · by_cases e : n < s
          · exact Or.inr ⟨((h.2 n hn).1 e).1, Or.inl e, ((h.2 n hn).1 e).2⟩
          · exact Or.inl ((h.2 n hn).2 (by omega))
        · obtain ⟨j', j8, j15, j1, -⟩ := hW.up hn (by rw [hp]; exact nI_ne1 (by omega))
          obtain rfl : j' = j := nI_inj (by omega) (by omega) (j1.symm.trans hp)
          rw [(h.2 j' hj).2 (by omega)] at hd
          exact absurd hd (by decide)
      refine loop2 7 0 τ none (by omega) hL (fun n hn h7 => ?_)
      rcases hn with z | ⟨z1, z2, z3⟩
      · exact hL.2.2.2 n z
      · obtain ⟨a, b, ea, eb, na, nb, nab, pa_a, pa_b⟩ := hW.dn z1 z2 z3
        have ra := (hρ a na).2 n z2 pa_a
        have := hW.depth hρ na
        omega
    | succ m ih =>
      intro i τ hi h
      refine st_go hK rfl rfl ?_
      refine st_go hK rfl rfl ?_
      refine st_ifn hK rfl rfl (nI_leI (a := 15) (b := i) (by omega) (by omega)) (fun c => absurd c (by omega)) (fun _ => ?_)
      refine st_go hK rfl rfl ?_
      refine st_getr hK rfl qf_146_24 ?_
      refine st_go hK rfl rfl ?_
      refine st_go hK rfl rfl ?_
      refine sa (e := i) hK rfl qa_165 rfl (by omega) rfl ?_
      refine st_go hK rfl rfl ?_
      refine st_getr hK rfl qf_146_21 ?_
      refine st_go hK rfl rfl ?_
      refine st_go hK rfl rfl ?_
      refine sa (e := i) hK rfl qa_162 rfl (by omega) rfl ?_
      refine st_go hK rfl rfl ?_
      refine st_go hK rfl rfl ?_
      refine gi (v := nI s) hK rfl qf_146_1 (by rw [up_ne (by decide), up_ne (by decide), (h.1.2 1 (by omega)).trans hM.1]) ?_
      refine st_ifn hK rfl rfl (nI_leI (a := s) (b := i) (by omega) (by omega)) (fun c27 => ?_) (fun c27 => ?_)
      · refine st_go hK rfl rfl ?_
        rw [nI_1]
        refine st_go hK rfl rfl ?_
        refine ih (i + 1) _ (by omega) ⟨⟨fun p h0 hp => ?_, fun k hk => ?_⟩, fun x hx => ?_⟩
        · rw [up_ne (by omega), up_ne (by omega)]
          exact h.1.1 p h0 hp
        · rw [up_ne (by omega), up_ne (by omega)]
          exact h.1.2 k hk
        · by_cases e : x = i
          · subst e
            refine ⟨fun z => by omega, fun _ => ?_⟩
            rw [up_ne (by omega), up_eq, upd_eq]
          · have hx' := h.2 x (by omega)
            refine ⟨fun z => ⟨?_, fun k hk h6 => ?_⟩, fun z => ?_⟩
            · rw [up_ne (by omega), up_eq, upd_ne e]
              exact (hx'.1 z).1
            · rw [up_ne (by omega), up_ne (by omega)]
              exact (hx'.1 z).2 k hk h6
            · rw [up_ne (by omega), up_eq, upd_ne e]
              exact hx'.2 z
      · refine st_go hK rfl rfl ?_
        refine st_go hK rfl rfl ?_
        refine cv1 hK rfl qc_146 (Nat.le_of_ble_eq_true rfl) ?_
        refine z_tellsSink (by omega) (fun τ' h' => ?_)
        change K _ _ _ _
        refine st_go hK rfl rfl ?_
        rw [nI_1]
        refine st_go hK rfl rfl ?_
        refine ih (i + 1) τ' (by omega) ⟨⟨fun p h0 hp => ?_, fun k hk => ?_⟩, fun x hx => ?_⟩
        · rw [h'.1 p (by omega), up_ne (by omega), up_ne (by omega)]
          exact h.1.1 p h0 hp
        · rw [h'.1 146 (by omega), up_ne (by omega), up_ne (by omega)]
          exact h.1.2 k hk
        · by_cases e : x = i
          · subst e
            refine ⟨fun _ => ⟨by rw [h'.2.2, upd_eq], fun k hk h6 => ?_⟩, fun z => by omega⟩
            rw [h'.2.1 k hk h6, upd_eq]
            have L := (UV_lab hM.wf).2 (nI x) (hSink_nI hM.1 hW.1 (by omega)) k (by omega) h6
            show _ = UV (mv σ) 1 (nI x) k
            rw [L]
            unfold nd
            rw [nI_clamp (by omega), up_ne (by omega), up_ne (by omega), h.1.1 148 (by omega) (by omega)]
            rfl
          · have hx' := h.2 x (by omega)
            refine ⟨fun z => ⟨?_, fun k hk h6 => ?_⟩, fun z => by omega⟩
            · rw [h'.2.2, upd_ne e, up_ne (by omega), up_eq, upd_ne e]
              exact (hx'.1 z).1
            · rw [h'.2.1 k hk h6, upd_ne e, up_ne (by omega), up_ne (by omega)]
              exact (hx'.1 z).2 k hk h6
  refine st_go hK rfl rfl ?_
  refine st_go hK rfl rfl ?_
  exact loop1 15 0 σ (by omega) ⟨TI.rf, fun x hx => by omega⟩
end

