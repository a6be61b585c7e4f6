/-! THE COST OF ALL, THE NEAREST PAIR -/
def tf (σ : cw_V) (t : Nat) : Nat → Nat → List Int32
  | 0, _ => []
  | m + 1, a => bif topB σ t a then nI a :: tf σ t m (a + 1) else tf σ t m (a + 1)
theorem tf_1 {σ : cw_V} {t m a : Nat} (h : topB σ t a = true) : tf σ t (m + 1) a = nI a :: tf σ t m (a + 1) := by
  show (bif topB σ t a then _ else _) = _
  rw [h]; rfl
theorem tf_0 {σ : cw_V} {t m a : Nat} (h : topB σ t a = false) : tf σ t (m + 1) a = tf σ t m (a + 1) := by
  show (bif topB σ t a then _ else _) = _
  rw [h]; rfl
theorem tl_tf {σ : cw_V} {t : Nat} : ∀ m a, a + m = 15 → tlF σ t a ++ tf σ t m a = tlF σ t 15
  | 0, a, h => by
    obtain rfl : a = 15 := by omega
    exact List.append_nil _
  | m + 1, a, h => by
    have ih := tl_tf (σ := σ) (t := t) m (a + 1) (by omega)
    rw [← ih]
    show _ = (bif topB σ t a then tlF σ t a ++ [nI a] else tlF σ t a) ++ _
    cases e : topB σ t a
    · rw [tf_0 e]; rfl
    · rw [tf_1 e]
      show _ = tlF σ t a ++ [nI a] ++ _
      rw [List.append_assoc]; rfl
theorem tl_tf0 {σ : cw_V} {t : Nat} : tf σ t 15 0 = tlF σ t 15 := tl_tf 15 0 rfl
/-- the sum of the costs -/
def csL (U : Int32 → Nat → Int32) : List Int32 → Int32 → Int32
  | [], s => s
  | x :: l, s => csL U l (s + U x 7)
theorem csL_app {U : Int32 → Nat → Int32} {x : Int32} : ∀ (l : List Int32) (s : Int32), csL U (l ++ [x]) s = csL U l s + U x 7
  | [], _ => rfl
  | y :: l, s => csL_app l (s + U y 7)
def costOf (σ : cw_V) (t : Nat) : Int32 := csL (UV σ t) (tlF σ t 15) 0
theorem scF_cs {U : Int32 → Nat → Int32} {D X : List Int32} : ∀ m, m ≤ D.length → scF U (D ++ X) m = csL U (D.take m) 0
  | 0, _ => by rw [List.take_zero]; rfl
  | m + 1, h => by
    show scF U (D ++ X) m + U ((D ++ X).getD m 0) 7 = _
    rw [scF_cs m (by omega), gd_l (by omega), List.take_add_one, List.getElem?_eq_getElem (by omega)]
    rw [show (some D[m]).toList = [D[m]] from rfl, csL_app, List.getD_eq_getElem?_getD, List.getElem?_eq_getElem (by omega)]
    rfl
/-- the list begins with the tops -/
theorem bf_pre {σ : cw_V} {t : Nat} : ∀ (f i : Nat) (D : List Int32), ∃ X, bf σ t f i D = D ++ X
  | 0, _, D => ⟨[], (List.append_nil D).symm⟩
  | f + 1, i, D => by
    cases e : D[i]? with
    | none =>
      refine ⟨[], ?_⟩
      unfold bf
      rw [e, List.append_nil]
    | some n =>
      rw [bf_s e]
      cases hJointB σ t n
      · exact bf_pre f (i + 1) D
      · obtain ⟨X, hX⟩ := bf_pre (σ := σ) (t := t) f (i + 1) (D ++ [σ (t + 6) n.toNatClampNeg, σ (t + 7) n.toNatClampNeg])
        exact ⟨_, by show bf σ t f (i + 1) (D ++ _) = _; rw [hX, List.append_assoc]⟩
theorem dn_pre {σ : cw_V} {t : Nat} : ∃ X, dnF σ t = tlF σ t 15 ++ X := bf_pre 16 0 _
theorem dn_cost {σ : cw_V} {t : Nat} : scF (UV σ t) (dnF σ t) (tlF σ t 15).length = costOf σ t := by
  obtain ⟨X, hX⟩ := dn_pre (σ := σ) (t := t)
  rw [hX, scF_cs _ (Nat.le_refl _), List.take_length]
  rfl
theorem dn_gd {σ : cw_V} {t k : Nat} (h : k < (tlF σ t 15).length) : (dnF σ t).getD k 0 = (tlF σ t 15).getD k 0 := by
  obtain ⟨X, hX⟩ := dn_pre (σ := σ) (t := t)
  rw [hX, gd_l h]
/-- the nearest pair, along a list -/
def pr (U : Int32 → Nat → Int32) (sk : Int32) : List Int32 → Int32 × Int32 → Int32 × Int32
  | [], s => s
  | x :: l, s => pr U sk l (l.foldl (fun s y => npS U sk x y s) s)
theorem np2_pr {U : Int32 → Nat → Int32} {sk : Int32} {D : List Int32} {tc i : Nat} (htc : tc ≤ D.length) : ∀ (m j : Nat) (s : Int32 × Int32), j + m = tc → np2 U sk D i m j s = ((D.take tc).drop j).foldl (fun s y => npS U sk (D.getD i 0) y s) s
  | 0, j, s, h => by
    rw [List.drop_eq_nil_of_le (by rw [List.length_take]; omega)]
    rfl
  | m + 1, j, s, h => by
    have hl : j < (D.take tc).length := by rw [List.length_take]; omega
    rw [List.drop_eq_getElem_cons hl, List.foldl_cons]
    show np2 U sk D i m (j + 1) (npS U sk (D.getD i 0) (D.getD j 0) s) = _
    rw [np2_pr htc m (j + 1) _ (by omega), List.getElem_take, List.getD_eq_getElem?_getD (l := D) (i := j), List.getElem?_eq_getElem (show j < D.length by omega)]
    rfl
theorem np1_pr {U : Int32 → Nat → Int32} {sk : Int32} {D : List Int32} {tc : Nat} (htc : tc ≤ D.length) : ∀ (m i : Nat) (s : Int32 × Int32), i + m = tc → np1 U sk D tc m i s = pr U sk ((D.take tc).drop i) s
  | 0, i, s, h => by
    rw [List.drop_eq_nil_of_le (by rw [List.length_take]; omega)]
    rfl
  | m + 1, i, s, h => by
    have hl : i < (D.take tc).length := by rw [List.length_take]; omega
    rw [List.drop_eq_getElem_cons hl]
    show np1 U sk D tc m (i + 1) (np2 U sk D i (tc - (i + 1)) (i + 1) s) = pr U sk (_ :: _) s
    rw [np1_pr htc m (i + 1) _ (by omega), np2_pr htc _ _ _ (by omega)]
    show _ = pr U sk _ _
    rw [List.getElem_take, List.getD_eq_getElem?_getD (l := D) (i := i), List.getElem?_eq_getElem (show i < D.length by omega)]
    rfl
theorem np_pr {σ : cw_V} {t : Nat} {U : Int32 → Nat → Int32} {sk : Int32} {s : Int32 × Int32} : np1 U sk (dnF σ t) (tlF σ t 15).length (tlF σ t 15).length 0 s = pr U sk (tlF σ t 15) s := by
  obtain ⟨X, hX⟩ := dn_pre (σ := σ) (t := t)
  rw [hX, np1_pr (by rw [List.length_append]; omega) _ _ _ (by omega), List.drop_zero, List.take_left]
section
variable {d s : Nat} {σ τ : cw_V} {lam : Nat → Int64} {Q : cw_Q} {ρ : Nat → Nat}
theorem MW.tB (hM : MW σ s) {n : Nat} (hn : n < 15) : topB (mv σ) 1 n = tmB σ n := by
  rw [Bool.eq_iff_iff, topB_iff hn, hM.wf.top hn]
  unfold tmB
  rw [Bool.and_eq_true, decide_eq_true_iff, decide_eq_true_iff, hM.is1 hn]
  rfl
theorem tmB_1 {n : Nat} (h1 : σ 150 n = 1) (h2 : σ 153 n = -1) : tmB σ n = true := by
  unfold tmB
  rw [decide_eq_true h1, decide_eq_true h2]; rfl
theorem tmB_0 {n : Nat} (h : ¬ (σ 150 n = 1 ∧ σ 153 n = -1)) : tmB σ n = false := by
  cases e : tmB σ n
  · rfl
  · unfold tmB at e
    rw [Bool.and_eq_true, decide_eq_true_iff, decide_eq_true_iff] at e
    exact absurd e h
/-- the tops are as many -/
theorem MW.tm (hM : MW σ s) : ∀ m, m ≤ 15 → tmC σ m = (tlF (mv σ) 1 m).length
  | 0, _ => rfl
  | m + 1, h => by
    show tmC σ m + (bif tmB σ m then 1 else 0) = (bif topB (mv σ) 1 m then _ else _ : List Int32).length
    rw [hM.tB (by omega), hM.tm m (by omega)]
    cases tmB σ m
    · rfl
    · show _ = (_ ++ [_]).length
      rw [List.length_append]; rfl
theorem z_costOfAll (hM : MW σ s) (kk : ∀ τ, TL σ τ s → Q (some (.int (costOf (mv σ) 1))) (cw_B τ lam)) : cw_Z (d + 5) m_Mo_costOfAll [.ref 146] (cw_B σ lam) Q := by
  refine zi (L := [some (.ref 146), none, none]) rfl rfl (fun K hK => ?_)
  refine st_go hK rfl rfl ?_
  refine cv0 hK rfl qc_146 (Nat.le_of_ble_eq_true rfl) ?_
  refine z_tellsAll hM (fun τ hT => ?_)
  change K _ _ _ _
  have e150 : ∀ x, τ 150 x = σ 150 x := fun x => congrFun (hT.1.1 150 (by omega) (by omega)) x
  have e153 : ∀ x, τ 153 x = σ 153 x := fun x => congrFun (hT.1.1 153 (by omega) (by omega)) x
  have loop : ∀ m i acc, i + m = 15 → csL (UV (mv σ) 1) (tf (mv σ) 1 m i) acc = costOf (mv σ) 1 → K 8 [some (.ref 146), some (.int acc), some (.int (nI i))] [] (cw_B τ lam) := by
    intro m
    induction m with
    | zero =>
      intro i acc hi e
      obtain rfl : i = 15 := by omega
      refine st_go hK rfl rfl ?_
      refine st_go hK rfl rfl ?_
      refine st_ifn hK rfl rfl (nI_leI (a := 15) (b := 15) (by omega) (by omega)) (fun _ => ?_) (fun c => absurd (by omega) c)
      refine st_go hK rfl rfl ?_
      refine st_ret hK rfl rfl ?_
      rw [show acc = costOf (mv σ) 1 from e]
      exact kk τ hT
    | succ m ih =>
      intro i acc hi e
      refine st_go hK rfl rfl ?_
      refine st_go hK rfl rfl ?_
      refine st_ifn hK rfl rfl (nI_leI (a := 15) (b := i) (by omega) (by omega)) (fun c => absurd c (by omega)) (fun _ => ?_)
      refine st_go hK rfl rfl ?_
      refine st_go hK rfl rfl ?_
      refine st_getr hK rfl qf_146_8 ?_
      refine st_go hK rfl rfl ?_
      refine ga (e := i) (v := σ 150 i) hK rfl qa_150 rfl (by omega) rfl (e150 _) ?_
      refine st_go hK rfl rfl ?_
      refine st_if hK rfl rfl (fun c22 => ?_) (fun c22 => ?_)
      · refine st_go hK rfl rfl ?_
        refine st_bin hK rfl ?_
        refine st_go hK rfl rfl ?_
        refine st_go hK rfl rfl ?_
        refine st_go hK rfl rfl ?_
        rw [nI_1]
        have ht : topB (mv σ) 1 i = false := by
          rw [hM.tB (by omega)]
          exact tmB_0 (fun z => by first | exact c22 z.1 | exact ht z.2)
        rw [tf_0 ht] at e
        have := ih (i + 1) acc (by omega) e
        rw [← Int32.add_zero acc] at this
        exact this
      · refine st_go hK rfl rfl ?_
        refine st_go hK rfl rfl ?_
        refine cv1 hK rfl qc_146 (Nat.le_of_ble_eq_true rfl) ?_
        refine z_misTop (by omega) (fun ht => ?_) (fun ht => ?_)
        · change K _ _ (_ :: _) _
          rw [e153] at ht
          refine st_if hK rfl rfl (fun c => absurd c (by decide)) (fun _ => ?_)
          refine st_go hK rfl rfl ?_
          refine st_getr hK rfl qf_146_22 ?_
          refine st_go hK rfl rfl ?_
          refine ga (e := i) (v := τ 163 i) hK rfl qa_163 rfl (by omega) rfl rfl ?_
          refine st_go hK rfl rfl ?_
          refine st_bin hK rfl ?_
          refine st_go hK rfl rfl ?_
          refine st_go hK rfl rfl ?_
          refine st_go hK rfl rfl ?_
          rw [nI_1]
          have ht1 : topB (mv σ) 1 i = true := by
            rw [hM.tB (by omega)]
            exact tmB_1 (Decidable.not_not.mp c22) ht
          rw [tf_1 ht1] at e
          have hn : nodeN s (σ 151) i := (hM.is1 (by omega)).mp (Decidable.not_not.mp c22)
          have e7 : τ 163 i = mU σ (nI i) 7 := hT.2.1 i hn 7 (by omega) (by omega)
          rw [e7]
          exact ih (i + 1) _ (by omega) e
        · change K _ _ (_ :: _) _
          rw [e153] at ht
          refine st_if hK rfl rfl (fun _ => ?_) (fun c => absurd (by decide) c)
          refine st_go hK rfl rfl ?_
          refine st_bin hK rfl ?_
          refine st_go hK rfl rfl ?_
          refine st_go hK rfl rfl ?_
          refine st_go hK rfl rfl ?_
          rw [nI_1]
          have ht : topB (mv σ) 1 i = false := by
            rw [hM.tB (by omega)]
            exact tmB_0 (fun z => by first | exact c22 z.1 | exact ht z.2)
          rw [tf_0 ht] at e
          have := ih (i + 1) acc (by omega) e
          rw [← Int32.add_zero acc] at this
          exact this
  refine st_go hK rfl rfl ?_
  refine st_go hK rfl rfl ?_
  refine st_go hK rfl rfl ?_
  refine st_go hK rfl rfl ?_
  exact loop 15 0 0 (by omega) (by rw [tl_tf0]; rfl)
/-- but for the pair -/
def FP (σ τ : cw_V) : Prop := (∀ p, p ≠ 146 → τ p = σ p) ∧ ∀ k, (k < 25 ∨ 28 < k) → k ≠ 33 → τ 146 k = σ 146 k
/-- told, but for the pair -/
def TP (σ τ : cw_V) : Prop := (∀ p, p ≠ 146 → (p < 156 ∨ 165 < p) → τ p = σ p) ∧ ∀ k, (k < 25 ∨ 28 < k) → k ≠ 33 → τ 146 k = σ 146 k
def mPr (σ : cw_V) : Int32 := (pr (mU σ) (skT (mv σ) 1) (tlF (mv σ) 1 15) (-1, 0)).1
theorem z_findsPair (hM : MW σ s) (kk : ∀ τ, TP σ τ → Q (some (.int (mPr σ))) (cw_B τ lam)) : cw_Z (d + 5) m_Mo_findsPair [.ref 146] (cw_B σ lam) Q := by
  refine zi (L := [some (.ref 146), none, none, none]) rfl rfl (fun K hK => ?_)
  refine st_go hK rfl rfl ?_
  refine cv0 hK rfl qc_146 (Nat.le_of_ble_eq_true rfl) ?_
  refine z_tellsAll hM (fun τ hT => ?_)
  change K _ _ _ _
  refine st_go hK rfl rfl ?_
  refine st_go hK rfl rfl ?_
  refine st_put hK rfl qf_146_33 rfl ?_
  have e150 : ∀ {τ' : cw_V}, FP τ τ' → ∀ x, τ' 150 x = σ 150 x := fun h x => congrFun ((h.1 150 (by omega)).trans (hT.1.1 150 (by omega) (by omega))) x
  have e153 : ∀ {τ' : cw_V}, FP τ τ' → ∀ x, τ' 153 x = σ 153 x := fun h x => congrFun ((h.1 153 (by omega)).trans (hT.1.1 153 (by omega) (by omega))) x
  have lab : ∀ {τ' : cw_V}, FP τ τ' → ∀ {n : Nat}, nodeN s (σ 151) n → ∀ k, k < 6 → mP τ' n k = mU σ (nI n) k := fun {τ'} h {n} hn k hk => by
    unfold mP
    rw [h.1 (156 + k) (by omega)]
    exact hT.2.1 n hn k (by omega) (by omega)
  have esk : ∀ {τ' : cw_V}, FP τ τ' → mSk τ' = skT (mv σ) 1 := fun h => by
    unfold mSk
    rw [h.2 3 (by omega) (by omega), hT.1.2 3 (by omega)]
    rfl
  have loop1 : ∀ m i τ' (x3 : Option Value) (sp : Int32 × Int32), i + m = 15 → FP τ τ' → τ' 146 33 = sp.1 → (pr (mU σ) (skT (mv σ) 1) (tf (mv σ) 1 m i) sp).1 = mPr σ → K 13 [some (.ref 146), some (.int sp.2), some (.int (nI i)), x3] [] (cw_B τ' lam) := by
    intro m
    induction m with
    | zero =>
      intro i τ' x3 sp hi hF h33 e
      obtain rfl : i = 15 := by omega
      refine st_go hK rfl rfl ?_
      refine st_go hK rfl rfl ?_
      refine st_ifn hK rfl rfl (nI_leI (a := 15) (b := 15) (by omega) (by omega)) (fun _ => ?_) (fun c => absurd (by omega) c)
      refine st_go hK rfl rfl ?_
      refine gi (v := sp.1) hK rfl qf_146_33 h33 ?_
      refine st_ret hK rfl rfl ?_
      rw [show sp.1 = mPr σ from e]
      exact kk τ' ⟨fun p h0 hp => (hF.1 p h0).trans (hT.1.1 p h0 hp), fun k hk h3 => (hF.2 k hk h3).trans (hT.1.2 k hk)⟩
    | succ m ih =>
      intro i τ' x3 sp hi hF h33 e
      have loop2 : ∀ q j τ' (sp : Int32 × Int32), j + q = 15 → FP τ τ' → τ' 146 33 = sp.1 → (topB (mv σ) 1 i = true → (pr (mU σ) (skT (mv σ) 1) (tf (mv σ) 1 m (i + 1)) ((tf (mv σ) 1 q j).foldl (fun s y => npS (mU σ) (skT (mv σ) 1) (nI i) y s) sp)).1 = mPr σ) → (topB (mv σ) 1 i = false → (pr (mU σ) (skT (mv σ) 1) (tf (mv σ) 1 m (i + 1)) sp).1 = mPr σ) → K 23 [some (.ref 146), some (.int sp.2), some (.int (nI i)), some (.int (nI j))] [] (cw_B τ' lam) := by
        intro q
        induction q with
        | zero =>
          intro j τ' sp hj hF h33 e1 e0
          obtain rfl : j = 15 := by omega
          refine st_go hK rfl rfl ?_
          refine st_go hK rfl rfl ?_
          refine st_ifn hK rfl rfl (nI_leI (a := 15) (b := 15) (by omega) (by omega)) (fun _ => ?_) (fun c => absurd (by omega) c)
          refine st_go hK rfl rfl ?_
          rw [nI_1]
          refine st_go hK rfl rfl ?_
          refine ih (i + 1) τ' _ sp (by omega) hF h33 ?_
          cases ht : topB (mv σ) 1 i
          · exact e0 ht
          · exact e1 ht
        | succ q ih2 =>
          intro j τ' sp hj hF h33 e1 e0
          have skip : (topB (mv σ) 1 i = true → topB (mv σ) 1 j = true → False) → K 102 [some (.ref 146), some (.int sp.2), some (.int (nI i)), some (.int (nI j))] [] (cw_B τ' lam) := by
            intro hsk
            refine st_go hK rfl rfl ?_
            rw [nI_1]
            refine st_go hK rfl rfl ?_
            refine ih2 (j + 1) τ' sp (by omega) hF h33 (fun ht => ?_) e0
            have e2 := e1 ht
            cases hj2 : topB (mv σ) 1 j
            · rw [tf_0 hj2] at e2
              exact e2
            · exact (hsk ht hj2).elim
          have a150 := e150 hF
          have a153 := e153 hF
          refine st_go hK rfl rfl ?_
          refine st_go hK rfl rfl ?_
          refine st_ifn hK rfl rfl (nI_leI (a := 15) (b := j) (by omega) (by omega)) (fun c => absurd c (by omega)) (fun _ => ?_)
          refine st_go hK rfl rfl ?_
          refine st_getr hK rfl qf_146_8 ?_
          refine st_go hK rfl rfl ?_
          refine ga (e := i) (v := σ 150 i) hK rfl qa_150 rfl (by omega) rfl (a150 _) ?_
          refine st_go hK rfl rfl ?_
          refine st_if hK rfl rfl (fun c36 => ?_) (fun c36 => ?_)
          · refine skip (fun z1 z2 => ?_)
            rw [hM.tB (by omega)] at z1 z2
            unfold tmB at z1 z2
            rw [Bool.and_eq_true, decide_eq_true_iff, decide_eq_true_iff] at z1 z2
            first | exact c36 z1.1 | exact c46 z2.1 | exact ti z1.2 | exact tj z2.2
          · refine st_go hK rfl rfl ?_
            refine st_getr hK rfl qf_146_8 ?_
            refine st_go hK rfl rfl ?_
            refine ga (e := j) (v := σ 150 j) hK rfl qa_150 rfl (by omega) rfl (a150 _) ?_
            refine st_go hK rfl rfl ?_
            refine st_if hK rfl rfl (fun c46 => ?_) (fun c46 => ?_)
            · refine skip (fun z1 z2 => ?_)
              rw [hM.tB (by omega)] at z1 z2
              unfold tmB at z1 z2
              rw [Bool.and_eq_true, decide_eq_true_iff, decide_eq_true_iff] at z1 z2
              first | exact c36 z1.1 | exact c46 z2.1 | exact ti z1.2 | exact tj z2.2
            · refine st_go hK rfl rfl ?_
              refine st_go hK rfl rfl ?_
              refine cv1 hK rfl qc_146 (Nat.le_of_ble_eq_true rfl) ?_
              refine z_misTop (by omega) (fun ti => ?_) (fun ti => ?_)
              · change K _ _ (_ :: _) _
                rw [a153] at ti
                refine st_if hK rfl rfl (fun c => absurd c (by decide)) (fun _ => ?_)
                refine st_go hK rfl rfl ?_
                refine st_go hK rfl rfl ?_
                refine cv1 hK rfl qc_146 (Nat.le_of_ble_eq_true rfl) ?_
                refine z_misTop (by omega) (fun tj => ?_) (fun tj => ?_)
                · change K _ _ (_ :: _) _
                  rw [a153] at tj
                  refine st_if hK rfl rfl (fun c => absurd c (by decide)) (fun _ => ?_)
                  refine st_go hK rfl rfl ?_
                  refine st_go hK rfl rfl ?_
                  refine st_go hK rfl rfl ?_
                  refine cv2 hK rfl qc_146 (Nat.le_of_ble_eq_true rfl) ?_
                  refine z_reckons (by omega) (by omega) ?_
                  change K _ _ _ _
                  have ni : nodeN s (σ 151) i := (hM.is1 (by omega)).mp (Decidable.not_not.mp c36)
                  have nj : nodeN s (σ 151) j := (hM.is1 (by omega)).mp (Decidable.not_not.mp c46)
                  have bi : topB (mv σ) 1 i = true := by rw [hM.tB (by omega)]; exact tmB_1 (Decidable.not_not.mp c36) ti
                  have bj : topB (mv σ) 1 j = true := by rw [hM.tB (by omega)]; exact tmB_1 (Decidable.not_not.mp c46) tj
                  have h26 : rkF τ' i j 146 26 = spanF (mU σ (nI i)) (mU σ (nI j)) (skT (mv σ) 1) := by
                    rw [rk_26, esk hF]
                    exact span_congr (lab hF ni) (lab hF nj)
                  have h33b : rkF τ' i j 146 33 = sp.1 := by rw [rk_k (by omega)]; exact h33
                  have hF2 : FP τ (rkF τ' i j) := ⟨fun p hp => by rw [rk_p hp]; exact hF.1 p hp, fun k hk h3 => by rw [rk_k hk]; exact hF.2 k hk h3⟩
                  have e2 := e1 bi
                  rw [tf_1 bj, List.foldl_cons] at e2
                  have take : (sp.1 = -1 ∨ spanF (mU σ (nI i)) (mU σ (nI j)) (skT (mv σ) 1) < sp.2) → K 87 [some (.ref 146), some (.int sp.2), some (.int (nI i)), some (.int (nI j))] [] (cw_B (rkF τ' i j) lam) := by
                    intro hc
                    generalize rkF τ' i j = τ2 at h26 h33b hF2
                    refine st_go hK rfl rfl ?_
                    refine st_go hK rfl rfl ?_
                    refine st_go hK rfl rfl ?_
                    refine bnv hK rfl (show _ = nI (16 * i) from nI_mul 16 i) ?_
                    refine st_go hK rfl rfl ?_
                    refine bnv hK rfl (show _ = nI ((16 * i) + j) from nI_add (16 * i) j) ?_
                    refine st_put hK rfl qf_146_33 rfl ?_
                    refine st_go hK rfl rfl ?_
                    refine gi (v := spanF (mU σ (nI i)) (mU σ (nI j)) (skT (mv σ) 1)) hK rfl qf_146_26 (by rw [up_eq, upd_ne (by decide), h26]) ?_
                    refine st_go hK rfl rfl ?_
                    change K _ [some (.ref 146), some (.int (spanF (mU σ (nI i)) (mU σ (nI j)) (skT (mv σ) 1))), some (.int (nI i)), some (.int (nI j))] _ _
                    refine st_go hK rfl rfl ?_
                    rw [nI_1]
                    refine st_go hK rfl rfl ?_
                    have hs : npS (mU σ) (skT (mv σ) 1) (nI i) (nI j) sp = (16 * nI i + nI j, spanF (mU σ (nI i)) (mU σ (nI j)) (skT (mv σ) 1)) := if_pos hc
                    have e16 : 16 * nI i + nI j = nI (16 * i + j) := by
                      rw [show (16 : Int32) = nI 16 from rfl, nI_mul, nI_add]
                    rw [hs, e16] at e2
                    have hh := ih2 (j + 1) (cw_up τ2 146 33 (nI (16 * i + j))) (nI (16 * i + j), spanF (mU σ (nI i)) (mU σ (nI j)) (skT (mv σ) 1)) (by omega) ⟨fun p hp => by rw [up_ne hp]; exact hF2.1 p hp, fun k hk h3 => by rw [up_eq, upd_ne h3]; exact hF2.2 k hk h3⟩ (by rw [up_eq, upd_eq]) (fun _ => e2) (fun z => absurd (bi.symm.trans z) (by decide))
                    dsimp only at hh
                    exact hh
                  generalize hg : rkF τ' i j = τ2 at h26 h33b hF2 take ⊢
                  refine st_go hK rfl rfl ?_
                  refine gi (v := sp.1) hK rfl qf_146_33 h33b ?_
                  refine st_go hK rfl rfl ?_
                  refine st_if hK rfl rfl (fun c76 => ?_) (fun c76 => ?_)
                  · first | exact take (Or.inl c76) | exact take (Or.inr (Int32.not_le.mp c84))
                  · refine st_go hK rfl rfl ?_
                    refine gi (v := spanF (mU σ (nI i)) (mU σ (nI j)) (skT (mv σ) 1)) hK rfl qf_146_26 h26 ?_
                    refine st_go hK rfl rfl ?_
                    refine st_if hK rfl rfl (fun c84 => ?_) (fun c84 => ?_)
                    · refine st_go hK rfl rfl ?_
                      rw [nI_1]
                      refine st_go hK rfl rfl ?_
                      have hs : npS (mU σ) (skT (mv σ) 1) (nI i) (nI j) sp = sp := if_neg (fun z => z.elim c76 (fun y => absurd y (Int32.not_lt.mpr c84)))
                      rw [hs] at e2
                      exact ih2 (j + 1) τ2 sp (by omega) hF2 h33b (fun _ => e2) (fun z => absurd (bi.symm.trans z) (by decide))
                    · first | exact take (Or.inl c76) | exact take (Or.inr (Int32.not_le.mp c84))
                · change K _ _ (_ :: _) _
                  rw [a153] at tj
                  refine st_if hK rfl rfl (fun _ => ?_) (fun c => absurd (by decide) c)
                  refine skip (fun z1 z2 => ?_)
                  rw [hM.tB (by omega)] at z1 z2
                  unfold tmB at z1 z2
                  rw [Bool.and_eq_true, decide_eq_true_iff, decide_eq_true_iff] at z1 z2
                  first | exact c36 z1.1 | exact c46 z2.1 | exact ti z1.2 | exact tj z2.2
              · change K _ _ (_ :: _) _
                rw [a153] at ti
                refine st_if hK rfl rfl (fun _ => ?_) (fun c => absurd (by decide) c)
                refine skip (fun z1 z2 => ?_)
                rw [hM.tB (by omega)] at z1 z2
                unfold tmB at z1 z2
                rw [Bool.and_eq_true, decide_eq_true_iff, decide_eq_true_iff] at z1 z2
                first | exact c36 z1.1 | exact c46 z2.1 | exact ti z1.2 | exact tj z2.2
      refine st_go hK rfl rfl ?_
      refine st_go hK rfl rfl ?_
      refine st_ifn hK rfl rfl (nI_leI (a := 15) (b := i) (by omega) (by omega)) (fun c => absurd c (by omega)) (fun _ => ?_)
      refine st_go hK rfl rfl ?_
      refine st_go hK rfl rfl ?_
      refine bnv hK rfl (show _ = nI (i + 1) from nI_add i 1) ?_
      refine st_go hK rfl rfl ?_
      change K _ [some (.ref 146), some (.int sp.2), some (.int (nI i)), some (.int (nI (i + 1)))] _ _
      refine loop2 (15 - (i + 1)) (i + 1) τ' sp (by omega) hF h33 (fun ht => ?_) (fun ht => ?_)
      · rw [tf_1 ht] at e
        rw [show 15 - (i + 1) = m by omega]
        exact e
      · rw [tf_0 ht] at e
        exact e
  refine st_go hK rfl rfl ?_
  refine st_go hK rfl rfl ?_
  refine st_go hK rfl rfl ?_
  refine st_go hK rfl rfl ?_
  refine loop1 15 0 _ none (-1, 0) (by omega) ⟨fun p hp => up_ne hp, fun k hk h33 => ?_⟩ ?_ (by rw [tl_tf0]; rfl)
  · rw [up_eq, upd_ne h33]
  · rw [up_eq, upd_eq]
end

