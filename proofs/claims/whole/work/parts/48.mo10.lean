/-! THE MODEL: delays -/
noncomputable def ci (P : Prop) (x : Int) : Int := @ite Int P (Classical.propDecidable P) x 0
theorem ci_p {P : Prop} {x : Int} (h : P) : ci P x = x := if_pos h
theorem ci_n {P : Prop} {x : Int} (h : ¬ P) : ci P x = 0 := if_neg h
def zs (f : Nat → Int) : Nat → Int
  | 0 => 0
  | m + 1 => zs f m + f m
theorem zs_add {f g h : Nat → Int} : ∀ m, (∀ k, k < m → f k = g k + h k) → zs f m = zs g m + zs h m
  | 0, _ => rfl
  | m + 1, e => by
    show zs f m + f m = zs g m + g m + (zs h m + h m)
    rw [zs_add m (fun k hk => e k (by omega)), e m (by omega)]
    omega
theorem zs_0 {f : Nat → Int} : ∀ m, (∀ k, k < m → f k = 0) → zs f m = 0
  | 0, _ => rfl
  | m + 1, e => by
    show zs f m + f m = 0
    rw [zs_0 m (fun k hk => e k (by omega)), e m (by omega)]
    rfl
theorem zs_pt {f : Nat → Int} {n : Nat} : ∀ m, n < m → (∀ k, k < m → k ≠ n → f k = 0) → zs f m = f n
  | 0, h, _ => by omega
  | m + 1, h, e => by
    show zs f m + f m = f n
    by_cases c : n = m
    · subst c
      rw [zs_0 n (fun k hk => e k (by omega) (by omega))]
      omega
    · rw [zs_pt m (by omega) (fun k hk hkn => e k (by omega) hkn), e m (by omega) (fun z => c z.symm)]
      omega
theorem zs_le {f : Nat → Int} : ∀ m, (∀ k, k < m → 0 ≤ f k ∧ f k ≤ 9) → 0 ≤ zs f m ∧ zs f m ≤ 9 * m
  | 0, _ => ⟨Int.le_refl _, Int.le_refl _⟩
  | m + 1, e => by
    have h1 := zs_le m (fun k hk => e k (by omega))
    have h2 := e m (by omega)
    show 0 ≤ zs f m + f m ∧ zs f m + f m ≤ 9 * (m + 1 : Nat)
    omega
theorem l_of {x : Int32} : x.toInt64 = Int64.ofInt x.toInt := by
  have h1 := x.le_toInt
  have h2 := x.toInt_lt
  apply Int64.toInt_inj.mp
  rw [Int32.toInt_toInt64, Int64.toInt_ofInt_of_le (by omega) (by omega)]
section
variable {s : Nat} {lf rt pa : Nat → Int32} {ρ : Nat → Nat}
/-- who is below a joint is below one child -/
theorem Inr.kid (hW : WFt s lf rt pa) (hρ : Dep s lf pa ρ) {x n a b : Nat} (hx : nodeN s lf x) (hxn : x ≠ n) (n8 : 8 ≤ n) (n15 : n < 15) (ea : lf n = nI a) (eb : rt n = nI b) (na : nodeN s lf a) (nb : nodeN s lf b) (nab : a ≠ b) (pa_a : pa a = nI n) (pa_b : pa b = nI n) : (Inr pa ρ x n ↔ Inr pa ρ x a ∨ Inr pa ρ x b) ∧ ¬ (Inr pa ρ x a ∧ Inr pa ρ x b) := by
  have ra := (hρ a na).2 n n15 pa_a
  have rb := (hρ b nb).2 n n15 pa_b
  have la := hW.lt na
  have lb := hW.lt nb
  have cn : (nI n).toNatClampNeg = n := nI_clamp (by omega)
  have up1 : ∀ (i y : Nat), upN pa (i + 1) y = (pa (upN pa i y)).toNatClampNeg := by
    intro i
    induction i with
    | zero => intro y; rfl
    | succ i ih =>
      intro y
      rw [upN_s, ih]
      rfl
  refine ⟨⟨?_, ?_⟩, ?_⟩
  · rintro ⟨i, hi, e⟩
    cases i with
    | zero => exact absurd e hxn
    | succ i =>
      obtain ⟨h1, h2, h3⟩ := hW.anc hρ i x hx (by omega)
      have h4 := hW.anc hρ (i + 1) x hx hi
      rw [up1] at e
      have hp : pa (upN pa i x) ≠ -1 := fun z => by
        have := (hρ _ h1).1 z
        omega
      obtain ⟨j, j8, j15, j1, j2, j3, j4⟩ := hW.up h1 hp
      rw [j1, nI_clamp (by omega)] at e
      subst e
      have l1 := hW.lt h1
      rcases j4 with q | q
      · exact Or.inl ⟨i, by omega, (nI_inj (by omega) (by omega) (ea.symm.trans q)).symm⟩
      · exact Or.inr ⟨i, by omega, (nI_inj (by omega) (by omega) (eb.symm.trans q)).symm⟩
  · rintro (⟨i, hi, e⟩ | ⟨i, hi, e⟩)
    · obtain ⟨h1, h2, h3⟩ := hW.anc hρ i x hx hi
      rw [e] at h2
      exact ⟨i + 1, by omega, by rw [up1, e, pa_a, cn]⟩
    · obtain ⟨h1, h2, h3⟩ := hW.anc hρ i x hx hi
      rw [e] at h2
      exact ⟨i + 1, by omega, by rw [up1, e, pa_b, cn]⟩
  · rintro ⟨⟨i, hi, e⟩, ⟨i', hi', e'⟩⟩
    obtain ⟨h1, h2, h3⟩ := hW.anc hρ i x hx hi
    obtain ⟨h1', h2', h3'⟩ := hW.anc hρ i' x hx hi'
    rw [e] at h2
    rw [e'] at h2'
    obtain rfl : i = i' := by omega
    exact nab (e.symm.trans e')
/-- among ends, only itself is below an end -/
theorem Inr.sink (hW : WFt s lf rt pa) (hρ : Dep s lf pa ρ) {x n : Nat} (hx : x < s) (hn : n < s) : Inr pa ρ x n ↔ x = n := by
  refine ⟨?_, fun e => e ▸ Inr.rf⟩
  rintro ⟨i, hi, e⟩
  cases i with
  | zero => exact e
  | succ i =>
    have h := (hW.anc hρ (i + 1) x (Or.inl hx) hi).2.2 (by omega)
    have := hW.1
    omega
end
/-- the loads below a node -/
noncomputable def lsZ (σ : cw_V) (t s : Nat) (ρ : Nat → Nat) (n : Nat) : Nat → Int := zs (fun k => ci (Inr (σ (t + 8)) ρ k n) (σ (t + 4) k).toInt)
theorem lab_ld {σ : cw_V} {t s : Nat} (hW : WF σ t s) (hV : VR σ t s) {U : Int32 → Nat → Int32} (hU : Lab σ t U) {ρ : Nat → Nat} (hρ : Dep s (σ (t + 6)) (σ (t + 8)) ρ) : ∀ h n, nodeN s (σ (t + 6)) n → 7 ≤ ρ n + h → (U (nI n) 9).toInt = lsZ σ t s ρ n s := by
  have h8 := hW.2.1
  have bd : ∀ n, 0 ≤ lsZ σ t s ρ n s ∧ lsZ σ t s ρ n s ≤ 9 * s := fun n => zs_le s (fun k hk => by
    have v := hV.1 k hk
    rcases Classical.em (Inr (σ (t + 8)) ρ k n) with z | z
    · rw [ci_p z]; omega
    · rw [ci_n z]; omega)
  have sinkOk : ∀ n, n < s → (U (nI n) 9).toInt = lsZ σ t s ρ n s := by
    intro n hn
    have L := hU.2 (nI n) (hSink_nI hW.1 h8 hn) 9 (by omega) (by omega)
    have e : nd (nI n) = n := nI_clamp (by omega)
    rw [e] at L
    rw [L]
    unfold lsZ
    rw [zs_pt s hn (fun k hk hkn => ci_n (fun z => hkn ((Inr.sink hW.2 hρ hk hn).mp z))), ci_p Inr.rf]
    rfl
  intro h
  induction h with
  | zero =>
    intro n hn hr
    rcases hn with z | ⟨z1, z2, z3⟩
    · exact sinkOk n z
    · obtain ⟨a, b, ea, eb, na, nb, nab, pa_a, pa_b⟩ := hW.2.dn z1 z2 z3
      have ra := (hρ a na).2 n z2 pa_a
      have := hW.2.depth hρ na
      omega
  | succ h ih =>
    intro n hn hr
    rcases hn with z | ⟨z1, z2, z3⟩
    · exact sinkOk n z
    · obtain ⟨a, b, ea, eb, na, nb, nab, pa_a, pa_b⟩ := hW.2.dn z1 z2 z3
      have ra := (hρ a na).2 n z2 pa_a
      have rb := (hρ b nb).2 n z2 pa_b
      have A := ih a na (by omega)
      have B := ih b nb (by omega)
      have L := hU.1 (nI n) ((hJoint_nI z1 z2).mpr z3) 9 (by omega) (by omega)
      have e1 : lfT σ t (nI n) = nI a := by unfold lfT nd; rw [nI_clamp (by omega)]; exact ea
      have e2 : rtT σ t (nI n) = nI b := by unfold rtT nd; rw [nI_clamp (by omega)]; exact eb
      rw [e1, e2] at L
      have ba := bd a
      have bb := bd b
      rw [L]
      show (U (nI a) 9 + U (nI b) 9).toInt = _
      rw [ti_add (by omega) (by omega), A, B]
      unfold lsZ
      rw [zs_add (f := fun k => ci (Inr (σ (t + 8)) ρ k n) (σ (t + 4) k).toInt) (g := fun k => ci (Inr (σ (t + 8)) ρ k a) (σ (t + 4) k).toInt) (h := fun k => ci (Inr (σ (t + 8)) ρ k b) (σ (t + 4) k).toInt) s (fun k hk => ?_)]
      obtain ⟨q1, q2⟩ := Inr.kid hW.2 hρ (x := k) (Or.inl hk) (by omega) z1 z2 ea eb na nb nab pa_a pa_b
      show ci _ _ = ci _ _ + ci _ _
      rcases Classical.em (Inr (σ (t + 8)) ρ k a) with za | za
      · rw [ci_p za, ci_n (fun zb => q2 ⟨za, zb⟩), ci_p (q1.mpr (Or.inl za))]
        omega
      · rcases Classical.em (Inr (σ (t + 8)) ρ k b) with zb | zb
        · rw [ci_n za, ci_p zb, ci_p (q1.mpr (Or.inr zb))]
          omega
        · rw [ci_n za, ci_n zb, ci_n (fun z => (q1.mp z).elim za zb)]
          rfl
section
variable {d s top : Nat} {σ τ : cw_V} {lam : Nat → Int64} {Q : cw_Q}
theorem z_below (hM : MW σ s) (hV : VR (mv σ) 1 s) (hA : AL σ τ s top) {n : Nat} (hn : nodeN s (σ 151) n) (kk : Q (some (.long (capF (mU σ (nI n))))) (cw_B τ lam)) : cw_Z (d + 2) m_Mo_below [.ref 146, .int (nI n)] (cw_B τ lam) Q := by
  have hW := hM.2.1
  have h8 := hW.1
  have ln := hW.lt hn
  obtain ⟨ρ, hρ⟩ := hW.2.2.2.2.2
  have hl := lab_ld hM.wf hV (UV_lab hM.wf) hρ 7 n hn (by omega)
  have es : τ 146 1 = nI s := (hA.1.2 1 (by omega) (by omega)).trans hM.1
  have e7 : τ 163 n = mU σ (nI n) 7 := hA.2.1 n hn 7 (by omega) (by omega)
  have r1 : τ 151 = σ 151 := hA.1.1 151 (by omega) (by omega)
  have r2 : τ 152 = σ 152 := hA.1.1 152 (by omega) (by omega)
  have r3 : τ 153 = σ 153 := hA.1.1 153 (by omega) (by omega)
  have r4 : τ 148 = σ 148 := hA.1.1 148 (by omega) (by omega)
  have hWt : WFt s (τ 151) (τ 152) (τ 153) := by rw [r1, r2, r3]; exact hW
  have hρt : Dep s (τ 151) (τ 153) ρ := by rw [r1, r3]; exact hρ
  refine zi (L := [some (.ref 146), some (.int (nI n)), none, none, none]) rfl rfl (fun K hK => ?_)
  have loop : ∀ m i, i + m = s → K 11 [some (.ref 146), some (.int (nI n)), some (.long ((mU σ (nI n) 7).toInt64 + Int64.ofInt (lsZ (mv σ) 1 s ρ n i) * 65536)), none, some (.int (nI i))] [] (cw_B τ lam) := by
    intro m
    induction m with
    | zero =>
      intro i hi
      obtain rfl : i = s := by omega
      refine st_go hK rfl rfl ?_
      refine st_go hK rfl rfl ?_
      refine gi (v := nI i) hK rfl qf_146_1 es ?_
      refine st_ifn hK rfl rfl (nI_leI (a := i) (b := i) (by omega) (by omega)) (fun _ => ?_) (fun c => absurd (by omega) c)
      refine st_go hK rfl rfl ?_
      refine st_ret hK rfl rfl ?_
      unfold capF at kk
      rw [l_of (x := mU σ (nI n) 9), show (mU σ (nI n) 9).toInt = lsZ (mv σ) 1 i ρ n i from hl] at kk
      exact kk
    | succ m ih =>
      intro i hi
      refine st_go hK rfl rfl ?_
      refine st_go hK rfl rfl ?_
      refine gi (v := nI s) hK rfl qf_146_1 es ?_
      refine st_ifn hK rfl rfl (nI_leI (a := s) (b := i) (by omega) (by omega)) (fun c => absurd c (by omega)) (fun _ => ?_)
      refine st_go hK rfl rfl ?_
      refine st_go hK rfl rfl ?_
      refine st_go hK rfl rfl ?_
      refine st_go hK rfl rfl ?_
      refine cv2 hK rfl qc_146 (Nat.le_of_ble_eq_true rfl) ?_
      refine z_misWithin hWt hρt (x := i) (Or.inl (by omega)) ln (fun hw => ?_) (fun hw => ?_)
      · change K _ _ (_ :: _) _
        refine st_if hK rfl rfl (fun c => absurd c (by decide)) (fun _ => ?_)
        refine st_go hK rfl rfl ?_
        refine st_getr hK rfl qf_146_2 ?_
        refine st_go hK rfl rfl ?_
        refine st_go hK rfl rfl ?_
        refine bnv hK rfl (show _ = nI (4 * i) from nI_mul 4 i) ?_
        refine st_go hK rfl rfl ?_
        refine bnv hK rfl (show _ = nI ((4 * i) + 3) from nI_add (4 * i) 3) ?_
        refine ga (e := (4 * i) + 3) (v := σ 148 ((4 * i) + 3)) hK rfl qa_148 rfl (by omega) rfl (congrFun r4 _) ?_
        refine st_go hK rfl rfl ?_
        refine st_go hK rfl rfl ?_
        refine st_lbin hK rfl ?_
        refine st_go hK rfl rfl ?_
        refine st_lbin hK rfl ?_
        refine st_go hK rfl rfl ?_
        refine st_go hK rfl rfl ?_
        rw [nI_1]
        refine st_go hK rfl rfl ?_
        rw [r3] at hw
        have hh := ih (i + 1) (by omega)
        have e : lsZ (mv σ) 1 s ρ n (i + 1) = lsZ (mv σ) 1 s ρ n i + (σ 148 (4 * i + 3)).toInt := by
          show _ + ci (Inr (σ 153) ρ i n) (σ 148 (4 * i + 3)).toInt = _
          rw [ci_p hw]
          rfl
        rw [e, Int64.ofInt_add, ← l_of] at hh
        have e2 : (mU σ (nI n) 7).toInt64 + (Int64.ofInt (lsZ (mv σ) 1 s ρ n i) + (σ 148 (4 * i + 3)).toInt64) * 65536 = (mU σ (nI n) 7).toInt64 + Int64.ofInt (lsZ (mv σ) 1 s ρ n i) * 65536 + (σ 148 (4 * i + 3)).toInt64 * 65536 := by grind
        rw [e2] at hh
        exact hh
      · change K _ _ (_ :: _) _
        refine st_if hK rfl rfl (fun _ => ?_) (fun c => absurd (by decide) c)
        refine st_go hK rfl rfl ?_
        refine st_lbin hK rfl ?_
        refine st_go hK rfl rfl ?_
        refine st_go hK rfl rfl ?_
        rw [nI_1]
        refine st_go hK rfl rfl ?_
        rw [r3] at hw
        have hh := ih (i + 1) (by omega)
        have e : lsZ (mv σ) 1 s ρ n (i + 1) = lsZ (mv σ) 1 s ρ n i + 0 := by
          show _ + ci (Inr (σ 153) ρ i n) (σ 148 (4 * i + 3)).toInt = _
          rw [ci_n hw]
          rfl
        rw [e, Int64.ofInt_add] at hh
        have e2 : (mU σ (nI n) 7).toInt64 + (Int64.ofInt (lsZ (mv σ) 1 s ρ n i) + Int64.ofInt 0) * 65536 = (mU σ (nI n) 7).toInt64 + Int64.ofInt (lsZ (mv σ) 1 s ρ n i) * 65536 + (0 : Int64) := by grind
        rw [e2] at hh
        exact hh
  refine st_go hK rfl rfl ?_
  refine st_getr hK rfl qf_146_22 ?_
  refine st_go hK rfl rfl ?_
  refine ga (e := n) (v := mU σ (nI n) 7) hK rfl qa_163 rfl (by omega) rfl e7 ?_
  refine st_go hK rfl rfl ?_
  refine st_go hK rfl rfl ?_
  change K _ [some (.ref 146), some (.int (nI n)), some (.long ((mU σ (nI n) 7).toInt64)), _, _] _ _
  refine st_go hK rfl rfl ?_
  refine st_go hK rfl rfl ?_
  change K _ [some (.ref 146), some (.int (nI n)), some (.long ((mU σ (nI n) 7).toInt64)), _, some (.int (0 : Int32))] _ _
  have hh := loop s 0 (by omega)
  rw [show (mU σ (nI n) 7).toInt64 + Int64.ofInt (lsZ (mv σ) 1 s ρ n 0) * 65536 = (mU σ (nI n) 7).toInt64 by show _ + Int64.ofInt 0 * 65536 = _; rw [show Int64.ofInt 0 = 0 from rfl, Int64.zero_mul, Int64.add_zero]] at hh
  exact hh
theorem z_mslow (hM : MW σ s) (hV : VR (mv σ) 1 s) {k : Int32} (kb : ¬ (∃ i, i < s ∧ k = nI i) → Q (some (.long (-2))) (cw_B (cw_up σ 147 0 (σ 147 0 + 1)) lam)) (kn : (∃ i, i < s ∧ k = nI i) → (tlF (mv σ) 1 15).length ≠ 1 → Q (some (.long (-3))) (cw_B (cw_up σ 147 1 (σ 147 1 + 1)) lam)) (kk : ∀ i, i < s → k = nI i → (tlF (mv σ) 1 15).length = 1 → ∀ τ, TQ σ τ → Q (some (.long (mEd σ (nI i)))) (cw_B τ lam)) : cw_Z (d + 6) m_Mo_slow [.ref 146, .int k] (cw_B σ lam) Q := by
  have hW := hM.2.1
  have h8 := hW.1
  obtain ⟨ρ, hρ⟩ := hW.2.2.2.2.2
  by_cases hk : ∃ i, i < s ∧ k = nI i
  · obtain ⟨k, hks, rfl⟩ := hk
    by_cases h1 : (tlF (mv σ) 1 15).length = 1
    · refine zi (L := [some (.ref 146), some (.int (nI k)), none, none, none, none, none]) rfl rfl (fun K hK => ?_)
      have loop : ∀ top τ, AL σ τ s top → nodeN s (σ 151) top → σ 153 top = -1 → (∀ n, nodeN s (σ 151) n → σ 153 n = -1 → n = top) → ∀ m n (sum : Int64) (x y : Option Value), nodeN s (σ 151) n → ρ n < m → sum + mEd σ (nI n) = mEd σ (nI k) → K 32 [some (.ref 146), some (.int (nI k)), some (.long sum), none, some (.int (nI n)), x, y] [] (cw_B τ lam) := by
        intro top τ hA t1 t2 t5 m
        have lt := hW.lt t1
        induction m with
        | zero => intro n sum x y hn hr; omega
        | succ m ih =>
          intro n sum x y hn hr e
          have ln := hW.lt hn
          have e32 := hA.2.2.2.1
          have b153 : ∀ x, τ 153 x = σ 153 x := fun x => congrFun (hA.1.1 153 (by omega) (by omega)) x
          by_cases ctop : n = top
          · subst ctop
            have e153 : τ 153 n = -1 := (b153 n).trans t2
            refine st_go hK rfl rfl ?_
            refine st_go hK rfl rfl ?_
            refine st_if hK rfl rfl (fun c => absurd c (nI_ne1 (by omega))) (fun _ => ?_)
            refine st_go hK rfl rfl ?_
            refine st_go hK rfl rfl ?_
            refine gi (v := nI n) hK rfl qf_146_32 e32 ?_
            refine st_ifn hK rfl rfl (not_congr (nI_eq (a := n) (b := n) (by omega) (by omega))) (fun c => absurd c (fun z => z rfl)) (fun _ => ?_)
            refine st_go hK rfl rfl ?_
            refine cv0 hK rfl qc_146 (Nat.le_of_ble_eq_true rfl) ?_
            refine z_mtrunk hM hA t1 t2 ?_
            change K _ _ (_ :: _) _
            refine st_go hK rfl rfl ?_
            refine st_go hK rfl rfl ?_
            refine st_go hK rfl rfl ?_
            change K _ [some (.ref 146), some (.int (nI k)), some (.long sum), _, some (.int (nI n)), some (.long ((mE σ (nI n) 3).toInt64)), _] _ _
            refine st_go hK rfl rfl ?_
            refine st_go hK rfl rfl ?_
            refine st_go hK rfl rfl ?_
            refine st_go hK rfl rfl ?_
            refine st_go hK rfl rfl ?_
            refine st_go hK rfl rfl ?_
            refine cv1 hK rfl qc_146 (Nat.le_of_ble_eq_true rfl) ?_
            refine z_below hM hV hA hn ?_
            change K _ _ (_ :: _) _
            refine st_lbin hK rfl ?_
            refine st_lbin hK rfl ?_
            refine st_lbin hK rfl ?_
            refine st_lbin hK rfl ?_
            refine st_go hK rfl rfl ?_
            change K _ [some (.ref 146), some (.int (nI k)), some (.long (sum + ((mE σ (nI n) 3).toInt64 * ((mE σ (nI n) 3).toInt64 + ((2 : Int64) * (capF (mU σ (nI n)))))))), _, some (.int (nI n)), some (.long ((mE σ (nI n) 3).toInt64)), _] _ _
            refine st_go hK rfl rfl ?_
            refine st_getr hK rfl qf_146_11 ?_
            refine st_go hK rfl rfl ?_
            refine ga (e := n) (v := (-1 : Int32)) hK rfl qa_153 rfl (by omega) rfl e153 ?_
            refine st_go hK rfl rfl ?_
            change K _ [some (.ref 146), some (.int (nI k)), some (.long (sum + ((mE σ (nI n) 3).toInt64 * ((mE σ (nI n) 3).toInt64 + ((2 : Int64) * (capF (mU σ (nI n)))))))), _, some (.int (-1 : Int32)), some (.long ((mE σ (nI n) 3).toInt64)), _] _ _
            refine st_go hK rfl rfl ?_
            refine st_go hK rfl rfl ?_
            refine st_go hK rfl rfl ?_
            refine st_if hK rfl rfl (fun _ => ?_) (fun c => absurd (by decide) c)
            refine st_go hK rfl rfl ?_
            refine st_ret hK rfl rfl ?_
            have e4 := (hM.pl t1 t2).1.2.2.2.2
            rw [e4] at e
            have hh := kk k hks rfl h1 τ hA.1
            rw [← e] at hh
            exact hh
          · have hp : σ 153 n ≠ -1 := fun z => ctop (t5 n hn z)
            obtain ⟨j, j8, j15, j1, j2, j3, j4⟩ := hW.up hn hp
            have e153 : τ 153 n = nI j := (b153 n).trans j1
            have rj := (hρ n hn).2 j j15 j1
            have e162 := hA.2.2.1 n hn hp
            have e3 := (hM.pc t1 t2 hn j15 j1).2.2.2.2
            refine st_go hK rfl rfl ?_
            refine st_go hK rfl rfl ?_
            refine st_if hK rfl rfl (fun c => absurd c (nI_ne1 (by omega))) (fun _ => ?_)
            refine st_go hK rfl rfl ?_
            refine st_go hK rfl rfl ?_
            refine gi (v := nI top) hK rfl qf_146_32 e32 ?_
            refine st_ifn hK rfl rfl (not_congr (nI_eq (a := n) (b := top) (by omega) (by omega))) (fun _ => ?_) (fun c => absurd ctop c)
            refine st_go hK rfl rfl ?_
            refine st_getr hK rfl qf_146_21 ?_
            refine st_go hK rfl rfl ?_
            refine ga (e := n) (v := mWr σ (nI n)) hK rfl qa_162 rfl (by omega) rfl e162 ?_
            refine st_go hK rfl rfl ?_
            refine st_go hK rfl rfl ?_
            change K _ [some (.ref 146), some (.int (nI k)), some (.long sum), _, some (.int (nI n)), some (.long ((mWr σ (nI n)).toInt64)), _] _ _
            refine st_go hK rfl rfl ?_
            refine st_go hK rfl rfl ?_
            refine st_go hK rfl rfl ?_
            refine st_go hK rfl rfl ?_
            refine st_go hK rfl rfl ?_
            refine st_go hK rfl rfl ?_
            refine cv1 hK rfl qc_146 (Nat.le_of_ble_eq_true rfl) ?_
            refine z_below hM hV hA hn ?_
            change K _ _ (_ :: _) _
            refine st_lbin hK rfl ?_
            refine st_lbin hK rfl ?_
            refine st_lbin hK rfl ?_
            refine st_lbin hK rfl ?_
            refine st_go hK rfl rfl ?_
            change K _ [some (.ref 146), some (.int (nI k)), some (.long (sum + ((mWr σ (nI n)).toInt64 * ((mWr σ (nI n)).toInt64 + ((2 : Int64) * (capF (mU σ (nI n)))))))), _, some (.int (nI n)), some (.long ((mWr σ (nI n)).toInt64)), _] _ _
            refine st_go hK rfl rfl ?_
            refine st_getr hK rfl qf_146_11 ?_
            refine st_go hK rfl rfl ?_
            refine ga (e := n) (v := nI j) hK rfl qa_153 rfl (by omega) rfl e153 ?_
            refine st_go hK rfl rfl ?_
            change K _ [some (.ref 146), some (.int (nI k)), some (.long (sum + ((mWr σ (nI n)).toInt64 * ((mWr σ (nI n)).toInt64 + ((2 : Int64) * (capF (mU σ (nI n)))))))), _, some (.int (nI j)), some (.long ((mWr σ (nI n)).toInt64)), _] _ _
            refine st_go hK rfl rfl ?_
            refine ih j _ _ _ j3 (by omega) ?_
            rw [← e, e3]
            unfold dlF
            grind
      refine st_go hK rfl rfl ?_
      refine st_go hK rfl rfl ?_
      refine cv1 hK rfl qc_146 (Nat.le_of_ble_eq_true rfl) ?_
      refine z_misSink hM.1 h8 (fun _ => ?_) (fun c => absurd ⟨k, hks, rfl⟩ c)
      change K _ _ (_ :: _) _
      refine st_if hK rfl rfl (fun _ => ?_) (fun c => absurd (by decide) c)
      refine st_go hK rfl rfl ?_
      refine cv0 hK rfl qc_146 (Nat.le_of_ble_eq_true rfl) ?_
      refine z_areLaid1 hM hV h1 (fun τ top hA t1 t2 => ?_)
      change K _ _ (_ :: _) _
      refine st_if hK rfl rfl (fun _ => ?_) (fun c => absurd (by decide) c)
      refine st_go hK rfl rfl ?_
      refine st_go hK rfl rfl ?_
      change K _ [some (.ref 146), some (.int (nI k)), some (.long (0 : Int64)), _, _, _, _] _ _
      refine st_go hK rfl rfl ?_
      refine st_go hK rfl rfl ?_
      change K _ [some (.ref 146), some (.int (nI k)), some (.long (0 : Int64)), _, some (.int (nI k)), _, _] _ _
      obtain ⟨top', u1, u2, u3, u4, u5⟩ := one_top hM.wf h1
      obtain rfl : top = top' := u5 top t1 t2
      exact loop top τ hA t1 t2 u5 (ρ k + 1) k 0 none none (Or.inl hks) (by omega) (Int64.zero_add _)
    · refine zi (L := [some (.ref 146), some (.int (nI k)), none, none, none, none, none]) rfl rfl (fun K hK => ?_)
      refine st_go hK rfl rfl ?_
      refine st_go hK rfl rfl ?_
      refine cv1 hK rfl qc_146 (Nat.le_of_ble_eq_true rfl) ?_
      refine z_misSink hM.1 h8 (fun _ => ?_) (fun c => absurd ⟨k, hks, rfl⟩ c)
      change K _ _ (_ :: _) _
      refine st_if hK rfl rfl (fun _ => ?_) (fun c => absurd (by decide) c)
      refine st_go hK rfl rfl ?_
      refine cv0 hK rfl qc_146 (Nat.le_of_ble_eq_true rfl) ?_
      refine z_areLaid0 hM h1 ?_
      change K _ _ (_ :: _) _
      refine st_if hK rfl rfl (fun c => absurd c (by decide)) (fun _ => ?_)
      refine st_go hK rfl rfl ?_
      refine cv0 hK rfl qc_146 (Nat.le_of_ble_eq_true rfl) ?_
      refine z_mno ?_
      change K _ _ (_ :: _) _
      refine st_go hK rfl rfl ?_
      refine st_ret hK rfl rfl ?_
      exact kn ⟨k, hks, rfl⟩ h1
  · refine zi (L := [some (.ref 146), some (.int k), none, none, none, none, none]) rfl rfl (fun K hK => ?_)
    refine st_go hK rfl rfl ?_
    refine st_go hK rfl rfl ?_
    refine cv1 hK rfl qc_146 (Nat.le_of_ble_eq_true rfl) ?_
    refine z_misSink hM.1 h8 (fun c => absurd c hk) (fun _ => ?_)
    change K _ _ (_ :: _) _
    refine st_if hK rfl rfl (fun c => absurd c (by decide)) (fun _ => ?_)
    refine st_go hK rfl rfl ?_
    refine cv0 hK rfl qc_146 (Nat.le_of_ble_eq_true rfl) ?_
    refine z_mbad ?_
    change K _ _ (_ :: _) _
    refine st_go hK rfl rfl ?_
    refine st_ret hK rfl rfl ?_
    exact kb hk
end

