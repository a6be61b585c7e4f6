/-! MEASURING: the parts become a labelling that is right at each node -/
theorem gap_congr {a a' b b' : Nat → Int32} (ha : ∀ k, k < 6 → a k = a' k) (hb : ∀ k, k < 6 → b k = b' k) : gapF a b = gapF a' b' := by
  unfold gapF
  rw [ha 0 (by decide), ha 1 (by decide), ha 2 (by decide), ha 3 (by decide), hb 0 (by decide), hb 1 (by decide), hb 2 (by decide), hb 3 (by decide)]
theorem lead_congr {a a' b b' : Nat → Int32} {g sk : Int32} (ha : ∀ k, k < 6 → a k = a' k) (hb : ∀ k, k < 6 → b k = b' k) : leadF a b g sk = leadF a' b' g sk := by
  unfold leadF wantF
  rw [ha 4 (by decide), ha 5 (by decide), hb 4 (by decide), hb 5 (by decide)]
theorem span_congr {a a' b b' : Nat → Int32} {sk : Int32} (ha : ∀ k, k < 6 → a k = a' k) (hb : ∀ k, k < 6 → b k = b' k) : spanF a b sk = spanF a' b' sk := by
  unfold spanF
  rw [gap_congr ha hb, lead_congr ha hb]
theorem lw_congr {a a' b b' : Nat → Int32} {sk : Int32} (ha : ∀ k, k < 6 → a k = a' k) (hb : ∀ k, k < 6 → b k = b' k) : lwF a b sk = lwF a' b' sk := by
  unfold lwF
  rw [span_congr ha hb, gap_congr ha hb, lead_congr ha hb]
theorem rw_congr {a a' b b' : Nat → Int32} {sk : Int32} (ha : ∀ k, k < 6 → a k = a' k) (hb : ∀ k, k < 6 → b k = b' k) : rwF a b sk = rwF a' b' sk := by
  unfold rwF
  rw [span_congr ha hb, gap_congr ha hb, lead_congr ha hb]
/-- alike, but for the wire -/
def ev9 (f g : Nat → Int32) : Prop := ∀ k, k < 10 → k ≠ 6 → f k = g k
theorem ev9.six {f g : Nat → Int32} (h : ev9 f g) : ∀ k, k < 6 → f k = g k := fun k hk => h k (by omega) (by omega)
theorem jn_congr {f f' a a' b b' : Nat → Int32} {l r : Int32} (ha : ev9 a a') (hb : ev9 b b') : ev9 (jnF f a b l r) (jnF f' a' b' l r) := by
  intro k h1 h2
  have e0 := ha 0 (by decide) (by decide)
  have e1 := ha 1 (by decide) (by decide)
  have e2 := ha 2 (by decide) (by decide)
  have e3 := ha 3 (by decide) (by decide)
  have e4 := ha 4 (by decide) (by decide)
  have e5 := ha 5 (by decide) (by decide)
  have e7 := ha 7 (by decide) (by decide)
  have e8 := ha 8 (by decide) (by decide)
  have e9 := ha 9 (by decide) (by decide)
  have g0 := hb 0 (by decide) (by decide)
  have g1 := hb 1 (by decide) (by decide)
  have g2 := hb 2 (by decide) (by decide)
  have g3 := hb 3 (by decide) (by decide)
  have g4 := hb 4 (by decide) (by decide)
  have g5 := hb 5 (by decide) (by decide)
  have g7 := hb 7 (by decide) (by decide)
  have g8 := hb 8 (by decide) (by decide)
  have g9 := hb 9 (by decide) (by decide)
  unfold jnF
  rw [e0, e1, e2, e3, e4, e5, e7, e8, e9, g0, g1, g2, g3, g4, g5, g7, g8, g9]
  rcases (show k = 0 ∨ k = 1 ∨ k = 2 ∨ k = 3 ∨ k = 4 ∨ k = 5 ∨ k = 7 ∨ k = 8 ∨ k = 9 by omega) with rfl | rfl | rfl | rfl | rfl | rfl | rfl | rfl | rfl <;> rfl
theorem ss_congr {f f' : Nat → Int32} {x y o l : Int32} : ev9 (ssF f x y o l) (ssF f' x y o l) := by
  intro k h1 h2
  unfold ssF
  rcases (show k = 0 ∨ k = 1 ∨ k = 2 ∨ k = 3 ∨ k = 4 ∨ k = 5 ∨ k = 7 ∨ k = 8 ∨ k = 9 by omega) with rfl | rfl | rfl | rfl | rfl | rfl | rfl | rfl | rfl <;> rfl
theorem ev9.trans {f g h : Nat → Int32} (a : ev9 f g) (b : ev9 g h) : ev9 f h := fun k h1 h2 => (a k h1 h2).trans (b k h1 h2)
theorem ev9.symm {f g : Nat → Int32} (a : ev9 f g) : ev9 g f := fun k h1 h2 => (a k h1 h2).symm
theorem ev9.refl {f : Nat → Int32} : ev9 f f := fun _ _ _ => rfl
abbrev nd (x : Int32) : Nat := x.toNatClampNeg
def lfT (σ : cw_V) (t : Nat) (m : Int32) : Int32 := σ (t + 6) (nd m)
def rtT (σ : cw_V) (t : Nat) (m : Int32) : Int32 := σ (t + 7) (nd m)
def skT (σ : cw_V) (t : Nat) : Int32 := σ t 9 * 65536
/-- a labelling that is right at each node of the tree -/
def Lab (σ : cw_V) (t : Nat) (U : Int32 → Nat → Int32) : Prop := (∀ m, hJoint σ t m → ev9 (U m) (jnF (fun _ => 0) (U (lfT σ t m)) (U (rtT σ t m)) (lwF (U (lfT σ t m)) (U (rtT σ t m)) (skT σ t)) (rwF (U (lfT σ t m)) (U (rtT σ t m)) (skT σ t)))) ∧
  (∀ m, hSink σ t m → ev9 (U m) (ssF (fun _ => 0) (σ (t + 1) (nd m)) (σ (t + 2) (nd m)) (σ (t + 3) (nd m)) (σ (t + 4) (nd m))))
/-- a good list: all are nodes, none twice, children behind their joints, each of one joint; those below tc are no children -/
def GD (σ : cw_V) (t : Nat) (D : List Int32) (tc : Nat) : Prop := (D.length ≤ 15 ∧ tc ≤ D.length) ∧ (∀ k, k < D.length → hNode σ t (D.getD k 0)) ∧
  (∀ k, k < D.length → hJoint σ t (D.getD k 0) → ∃ ka kb, k < ka ∧ ka < D.length ∧ k < kb ∧ kb < D.length ∧ ka ≠ kb ∧ D.getD ka 0 = lfT σ t (D.getD k 0) ∧ D.getD kb 0 = rtT σ t (D.getD k 0)) ∧
  (∀ k k', k < D.length → k' < D.length → nd (D.getD k 0) = nd (D.getD k' 0) → k = k') ∧
  (∀ k k' c, k < D.length → k' < D.length → c < D.length → hJoint σ t (D.getD k 0) → hJoint σ t (D.getD k' 0) → (D.getD c 0 = lfT σ t (D.getD k 0) ∨ D.getD c 0 = rtT σ t (D.getD k 0)) → (D.getD c 0 = lfT σ t (D.getD k' 0) ∨ D.getD c 0 = rtT σ t (D.getD k' 0)) → k = k') ∧
  (∀ k c, k < D.length → c < D.length → hJoint σ t (D.getD k 0) → (D.getD c 0 = lfT σ t (D.getD k 0) ∨ D.getD c 0 = rtT σ t (D.getD k 0)) → tc ≤ c)
/-- the sum of the costs of the first m of the list -/
def scF (U : Int32 → Nat → Int32) (D : List Int32) : Nat → Int32
  | 0 => 0
  | m + 1 => scF U D m + U (D.getD m 0) 7
def pp (w : Nat) (m : Int32) : Nat := w + 5 + nd m
/-- what is measured from the i-th on -/
def MI (σ τ : cw_V) (w t : Nat) (D : List Int32) (tc : Nat) (U : Int32 → Nat → Int32) (i : Nat) : Prop :=
  (∀ p, (p < w ∨ w + 19 < p) → τ p = σ p) ∧ (τ w 4 = nI D.length ∧ τ w 5 = nI tc ∧ ∀ j, j < D.length → τ (w + 4) j = D.getD j 0) ∧
  (∀ k, i ≤ k → k < D.length → ev9 (τ (pp w (D.getD k 0))) (U (D.getD k 0))) ∧
  (∀ k, i ≤ k → k < D.length → hJoint σ t (D.getD k 0) → τ (pp w (lfT σ t (D.getD k 0))) 6 = lwF (U (lfT σ t (D.getD k 0))) (U (rtT σ t (D.getD k 0))) (skT σ t) ∧ τ (pp w (rtT σ t (D.getD k 0))) 6 = rwF (U (lfT σ t (D.getD k 0))) (U (rtT σ t (D.getD k 0))) (skT σ t))
/-- measured -/
def MS (σ τ : cw_V) (w t : Nat) (D : List Int32) (tc : Nat) (U : Int32 → Nat → Int32) : Prop := MI σ τ w t D tc U 0 ∧ (∀ k, k < tc → τ (pp w (D.getD k 0)) 6 = -1) ∧ τ w 6 = scF U D tc
theorem isP_of {w : Nat} {m : Int32} (hw : isW w) (h : cw_in m 15 = true) : isP (pp w m) := by
  have := cw_in_iff.mp h
  refine ⟨w, hw, Or.inr ⟨nd m, ?_, rfl⟩⟩
  show m.toInt.toNat < 15
  omega
theorem hNode.sink {σ : cw_V} {t : Nat} {m : Int32} (h : hNode σ t m) (hj : ¬ hJoint σ t m) : hSink σ t m := by
  obtain ⟨h1, h2, h3 | h3⟩ := h
  · exact ⟨h1, h3.2, h3.1⟩
  · exact absurd ⟨h3.1, h2, h3.2⟩ hj
section
variable {d w t : Nat} {σ τ : cw_V} {lam : Nat → Int64} {Q : cw_Q} {D : List Int32} {tc i : Nat} {U : Int32 → Nat → Int32}
theorem MI.row (h : MI σ τ w t D tc U i) (hw : isW w) (ht : isT t) {k : Nat} (hk : k ≤ 8) : τ (t + k) = σ (t + k) := by
  refine h.1 _ ?_
  have : ∀ k', k' ≤ 19 → t + k ≠ w + k' := fun k' h' => isWT hw ht hk h'
  rcases Nat.lt_or_ge (t + k) w with z | z
  · exact Or.inl z
  · rcases Nat.lt_or_ge (w + 19) (t + k) with y | y
    · exact Or.inr y
    · exact absurd (show t + k = w + (t + k - w) by omega) (this (t + k - w) (by omega))
theorem pp_lt {m : Int32} (h : cw_in m 15 = true) : w + 5 ≤ pp w m ∧ pp w m ≤ w + 19 := by
  have := cw_in_iff.mp h
  have e : nd m = m.toInt.toNat := rfl
  unfold pp
  omega
theorem MI.joint (hw : isW w) (hD : GD σ t D tc) (hU : Lab σ t U) (hi : i < D.length) (hj : hJoint σ t (D.getD i 0)) (h : MI σ τ w t D tc U (i + 1)) {τ1 : cw_V}
    (hs : jnS (wgF τ (w + 3) (pp w (lfT σ t (D.getD i 0))) (pp w (rtT σ t (D.getD i 0))) (skT σ t)) τ1 (w + 3) (pp w (D.getD i 0)) (pp w (lfT σ t (D.getD i 0))) (pp w (rtT σ t (D.getD i 0)))) : MI σ τ1 w t D tc U i := by
  obtain ⟨hlen, hN, hC, hnd, hpar, htop⟩ := hD
  obtain ⟨ka, kb, a1, a2, b1, b2, hab, ea, eb⟩ := hC i hi hj
  obtain ⟨s1, s2, s3, s4⟩ := hs
  obtain ⟨m1, m2, m3, m4⟩ := h
  have ina := (hN ka a2).in
  have inb := (hN kb b2).in
  have inn := (hN i hi).in
  rw [ea] at ina
  rw [eb] at inb
  have la := pp_lt (w := w) ina
  have lb := pp_lt (w := w) inb
  have ln := pp_lt (w := w) inn
  have ra := m3 ka (by omega) a2
  have rb := m3 kb (by omega) b2
  rw [ea] at ra
  rw [eb] at rb
  have wne : ∀ p, p ≠ w + 3 → wgF τ (w + 3) (pp w (lfT σ t (D.getD i 0))) (pp w (rtT σ t (D.getD i 0))) (skT σ t) p = τ p := fun p hp => wgF_ne hp
  have el : wgF τ (w + 3) (pp w (lfT σ t (D.getD i 0))) (pp w (rtT σ t (D.getD i 0))) (skT σ t) (w + 3) 2 = lwF (U (lfT σ t (D.getD i 0))) (U (rtT σ t (D.getD i 0))) (skT σ t) := by
    rw [wgF_2]
    exact lw_congr ra.six rb.six
  have er : wgF τ (w + 3) (pp w (lfT σ t (D.getD i 0))) (pp w (rtT σ t (D.getD i 0))) (skT σ t) (w + 3) 3 = rwF (U (lfT σ t (D.getD i 0))) (U (rtT σ t (D.getD i 0))) (skT σ t) := by
    rw [wgF_3]
    exact rw_congr ra.six rb.six
  rw [el] at s2 s4
  rw [er] at s3 s4
  rw [wne _ (by omega)] at s2
  rw [wne _ (by omega)] at s3
  rw [wne _ (by omega), wne _ (by omega), wne _ (by omega)] at s4
  -- an index whose part lies at a place
  have at' : ∀ k c, k < D.length → c < D.length → pp w (D.getD k 0) = pp w (D.getD c 0) → k = c := fun k c hk hc e => hnd k c hk hc (by unfold pp at e; omega)
  refine ⟨fun p hp => ?_, ⟨?_, ?_, fun j hj' => ?_⟩, fun k hk hkl => ?_, fun k hk hkl hjk => ?_⟩
  · rw [s1 p (by omega) (by omega) (by omega), wne p (by omega), m1 p hp]
  · rw [s1 w (by omega) (by omega) (by omega), wne w (by omega), m2.1]
  · rw [s1 w (by omega) (by omega) (by omega), wne w (by omega), m2.2.1]
  · rw [s1 (w + 4) (by omega) (by omega) (by omega), wne (w + 4) (by omega), m2.2.2 j hj']
  · rcases Nat.eq_or_lt_of_le hk with e | hlt
    · subst e
      have e1 : ev9 (τ1 (pp w (D.getD i 0))) (jnF (τ (pp w (D.getD i 0))) (τ (pp w (lfT σ t (D.getD i 0)))) (τ (pp w (rtT σ t (D.getD i 0)))) (lwF (U (lfT σ t (D.getD i 0))) (U (rtT σ t (D.getD i 0))) (skT σ t)) (rwF (U (lfT σ t (D.getD i 0))) (U (rtT σ t (D.getD i 0))) (skT σ t))) := fun k _ _ => s4 k
      exact (e1.trans (jn_congr ra rb)).trans (hU.1 _ hj).symm
    · by_cases ca : k = ka
      · subst ca
        have : τ1 (pp w (D.getD k 0)) = upd (τ (pp w (D.getD k 0))) 6 (lwF (U (lfT σ t (D.getD i 0))) (U (rtT σ t (D.getD i 0))) (skT σ t)) := by rw [ea]; exact s2
        intro k' h1 h2
        rw [this, upd_ne h2]
        exact m3 k (by omega) hkl k' h1 h2
      · by_cases cb : k = kb
        · subst cb
          have : τ1 (pp w (D.getD k 0)) = upd (τ (pp w (D.getD k 0))) 6 (rwF (U (lfT σ t (D.getD i 0))) (U (rtT σ t (D.getD i 0))) (skT σ t)) := by rw [eb]; exact s3
          intro k' h1 h2
          rw [this, upd_ne h2]
          exact m3 k (by omega) hkl k' h1 h2
        · have lk := pp_lt (w := w) (hN k hkl).in
          have n1 : pp w (D.getD k 0) ≠ pp w (lfT σ t (D.getD i 0)) := fun e => ca (at' k ka hkl a2 (by rw [ea]; exact e))
          have n2 : pp w (D.getD k 0) ≠ pp w (rtT σ t (D.getD i 0)) := fun e => cb (at' k kb hkl b2 (by rw [eb]; exact e))
          have n3 : pp w (D.getD k 0) ≠ pp w (D.getD i 0) := fun e => absurd (at' k i hkl hi e) (by omega)
          rw [s1 _ n1 n2 n3, wne _ (by omega)]
          exact m3 k (by omega) hkl
  · rcases Nat.eq_or_lt_of_le hk with e | hlt
    · subst e
      refine ⟨?_, ?_⟩
      · rw [s2, upd_eq]
      · rw [s3, upd_eq]
    · obtain ⟨kc, kd, c1, c2, d1, d2, hcd, ec, ed⟩ := hC k hkl hjk
      have old := m4 k (by omega) hkl hjk
      have key : ∀ c, c < D.length → (D.getD c 0 = lfT σ t (D.getD k 0) ∨ D.getD c 0 = rtT σ t (D.getD k 0)) → k < c → τ1 (pp w (D.getD c 0)) 6 = τ (pp w (D.getD c 0)) 6 := by
        intro c hc hch hkc
        have lk := pp_lt (w := w) (hN c hc).in
        have n1 : pp w (D.getD c 0) ≠ pp w (lfT σ t (D.getD i 0)) := fun e => by
          have e2 : c = ka := at' c ka hc a2 (by rw [ea]; exact e)
          subst e2
          exact absurd (hpar k i c hkl hi hc hjk hj hch (Or.inl ea)) (by omega)
        have n2 : pp w (D.getD c 0) ≠ pp w (rtT σ t (D.getD i 0)) := fun e => by
          have e2 : c = kb := at' c kb hc b2 (by rw [eb]; exact e)
          subst e2
          exact absurd (hpar k i c hkl hi hc hjk hj hch (Or.inr eb)) (by omega)
        have n3 : pp w (D.getD c 0) ≠ pp w (D.getD i 0) := fun e => absurd (at' c i hc hi e) (by omega)
        rw [s1 _ n1 n2 n3, wne _ (by omega)]
      have k1 := key kc c2 (Or.inl ec) c1
      have k2 := key kd d2 (Or.inr ed) d1
      rw [ec] at k1
      rw [ed] at k2
      rw [k1, k2]
      exact old
theorem MI.sink (hw : isW w) (ht : isT t) (hD : GD σ t D tc) (hU : Lab σ t U) (hi : i < D.length) (hk0 : hSink σ t (D.getD i 0)) (hnj : ¬ hJoint σ t (D.getD i 0)) (h : MI σ τ w t D tc U (i + 1)) {τ1 : cw_V}
    (s1 : ∀ p, p ≠ pp w (D.getD i 0) → τ1 p = τ p) (s2 : ∀ k, τ1 (pp w (D.getD i 0)) k = ssF (τ (pp w (D.getD i 0))) (τ (t + 1) (nd (D.getD i 0))) (τ (t + 2) (nd (D.getD i 0))) (τ (t + 3) (nd (D.getD i 0))) (τ (t + 4) (nd (D.getD i 0))) k) : MI σ τ1 w t D tc U i := by
  have r1 := h.row hw ht (k := 1) (by decide)
  have r2 := h.row hw ht (k := 2) (by decide)
  have r3 := h.row hw ht (k := 3) (by decide)
  have r4 := h.row hw ht (k := 4) (by decide)
  rw [r1, r2, r3, r4] at s2
  obtain ⟨hlen, hN, hC, hnd, hpar, htop⟩ := hD
  obtain ⟨m1, m2, m3, m4⟩ := h
  have ln := pp_lt (w := w) (hN i hi).in
  have six : τ1 (pp w (D.getD i 0)) 6 = τ (pp w (D.getD i 0)) 6 := by rw [s2]; rfl
  refine ⟨fun p hp => ?_, ⟨?_, ?_, fun j hj' => ?_⟩, fun k hk hkl => ?_, fun k hk hkl hjk => ?_⟩
  · rw [s1 p (by omega), m1 p hp]
  · rw [s1 w (by omega), m2.1]
  · rw [s1 w (by omega), m2.2.1]
  · rw [s1 (w + 4) (by omega), m2.2.2 j hj']
  · rcases Nat.eq_or_lt_of_le hk with e | hlt
    · subst e
      have e1 : ev9 (τ1 (pp w (D.getD i 0))) (ssF (τ (pp w (D.getD i 0))) (σ (t + 1) (nd (D.getD i 0))) (σ (t + 2) (nd (D.getD i 0))) (σ (t + 3) (nd (D.getD i 0))) (σ (t + 4) (nd (D.getD i 0)))) := fun k _ _ => s2 k
      exact (e1.trans ss_congr).trans (hU.2 _ hk0).symm
    · have n3 : pp w (D.getD k 0) ≠ pp w (D.getD i 0) := fun e => by
        have := hnd k i hkl hi (by unfold pp at e; omega)
        omega
      rw [s1 _ n3]
      exact m3 k (by omega) hkl
  · have hki : k ≠ i := fun e => hnj (e ▸ hjk)
    have key : ∀ m : Int32, τ1 (pp w m) 6 = τ (pp w m) 6 := by
      intro m
      by_cases e : pp w m = pp w (D.getD i 0)
      · rw [e, six]
      · rw [s1 _ e]
    rw [key, key]
    exact m4 k (by omega) hkl hjk
end
