/-! SEARCHING: the best graft, the best exchange -/
section
variable {σ τ τ' υ υ2 V V' : cw_V} {t s : Nat} {ρ : Nat → Nat} {f g h : Nat → Int32} {T : TT}
theorem te_step (te : TE τ t V 1) (hT : TR τ τ' t f g h) (hV : ∀ p, p ≤ 6 → V' p = V p) (e1 : ∀ x, x < 15 → f x = V' 7 x) (e2 : ∀ x, x < 15 → g x = V' 8 x) (e3 : ∀ x, x < 15 → h x = V' 9 x) : TE τ' t V' 1 := by
  have q : ∀ p, p < 6 → τ' (t + p) = τ (t + p) := fun p hp => hT.1 _ (by omega) (by omega) (by omega)
  have q0 : τ' t = τ t := q 0 (by decide)
  refine ⟨fun i a b j hj => ?_, fun i a b j hj => ?_, fun k a b => ?_⟩
  · rw [q i (by omega), hV (1 + i) (by omega)]; exact te.1 i a b j hj
  · rcases (show i = 6 ∨ i = 7 ∨ i = 8 by omega) with rfl | rfl | rfl
    · exact (hT.2.1 j hj).trans (e1 j hj)
    · exact (hT.2.2.1 j hj).trans (e2 j hj)
    · exact (hT.2.2.2 j hj).trans (e3 j hj)
  · rw [q0, hV 1 (by decide)]; exact te.2.2 k a b
theorem te_rows (te : TE (mv υ) 1 V 1) (hR : MR υ υ2) (hV : ∀ p, p ≤ 6 → V' p = V p) (e1 : ∀ x, x < 15 → υ2 151 x = V' 7 x) (e2 : ∀ x, x < 15 → υ2 152 x = V' 8 x) (e3 : ∀ x, x < 15 → υ2 153 x = V' 9 x) : TE (mv υ2) 1 V' 1 := by
  have m8 : υ2 148 = υ 148 := hR.1 148 (by omega)
  have m9 : υ2 149 = υ 149 := hR.1 149 (by omega)
  have hv1 : V' 1 = V 1 := hV 1 (by decide)
  refine te_mk (fun j hj => ?_) (fun j hj => ?_) (fun j hj => ?_) (fun j hj => ?_) (fun j hj => ?_) e1 e2 e3 ?_ ?_ ?_ ?_
  · rw [hV (1 + 1) (by decide)]
    show υ2 148 (4 * j) = _
    rw [m8]; exact te.lo (i := 1) (by decide) (by decide) hj
  · rw [hV (1 + 2) (by decide)]
    show υ2 148 (4 * j + 1) = _
    rw [m8]; exact te.lo (i := 2) (by decide) (by decide) hj
  · rw [hV (1 + 3) (by decide)]
    show υ2 148 (4 * j + 2) = _
    rw [m8]; exact te.lo (i := 3) (by decide) (by decide) hj
  · rw [hV (1 + 4) (by decide)]
    show υ2 148 (4 * j + 3) = _
    rw [m8]; exact te.lo (i := 4) (by decide) (by decide) hj
  · rw [hV (1 + 5) (by decide)]
    show υ2 149 j = _
    rw [m9]; exact te.lo (i := 5) (by decide) (by decide) hj
  · rw [hv1]; exact (hR.2 1 (by omega)).trans te.e8
  · rw [hv1]; exact (hR.2 3 (by omega)).trans te.e9
  · rw [hv1]; exact (hR.2 4 (by omega)).trans (te.2.2 10 (by decide) (by decide))
  · rw [hv1]; exact (hR.2 5 (by omega)).trans (te.2.2 11 (by decide) (by decide))
theorem vT_lo : ∀ p, p ≤ 6 → vT σ T p = σ p := fun p hp => by
  unfold vT
  rw [if_neg (by omega), if_neg (by omega), if_neg (by omega), if_pos hp]
theorem vT_wf (hW : WF σ 1 s) (hT : WFt s T.1 T.2.1 T.2.2) : WF (vT σ T) 1 s := ⟨hW.1, hT⟩
theorem MW.cgr (hM : MW σ s) (h1 : τ 146 1 = σ 146 1) (e0 : ∀ x, x < 15 → τ 150 x = σ 150 x) (e1 : ∀ x, x < 15 → τ 151 x = σ 151 x) (e2 : ∀ x, x < 15 → τ 152 x = σ 152 x) (e3 : ∀ x, x < 15 → τ 153 x = σ 153 x) : MW τ s := by
  refine ⟨h1.trans hM.1, hM.2.1.congr e1 e2 e3, fun n hn => ?_⟩
  rw [e0 n hn]
  have nn : nodeN s (τ 151) n ↔ nodeN s (σ 151) n := nodeN_congr e1
  rw [nn]
  exact hM.2.2 n hn
/-- where something can be grafted there is a joint left -/
theorem WFt.free' {lf rt pa : Nat → Int32} (hW : WFt s lf rt pa) (hρ : Dep s lf pa ρ) {n k : Nat} (hn : nodeN s lf n) (hk : nodeN s lf k) (hkt : pa k = -1) (hnk : ¬ Inr pa ρ n k) : ∃ j, isF lf j := by
  obtain ⟨h1, h2, h3⟩ := hW.anc hρ (ρ n) n hn (Nat.le_refl _)
  have hr : ρ (upN pa (ρ n) n) = 0 := by omega
  have hp : pa (upN pa (ρ n) n) = -1 := by
    rcases Classical.em (pa (upN pa (ρ n) n) = -1) with z | z
    · exact z
    · obtain ⟨j, j8, j15, j1, -⟩ := hW.up h1 z
      have := (hρ _ h1).2 j j15 j1
      omega
  exact hW.free h1 hk (fun z => hnk ⟨ρ n, Nat.le_refl _, z⟩) hp hkt
/-- k can be grafted at n -/
def Pg (σ : cw_V) (s : Nat) (ρ : Nat → Nat) (k n : Nat) : Prop := (nodeN s (σ 7) k ∧ σ 9 k = -1) ∧ nodeN s (σ 7) n ∧ ¬ Inr (σ 9) ρ n k
def gT (σ : cw_V) (j k n : Nat) : TT := (gL (σ 7) j n, gR (σ 8) j n k, gP (σ 9) j n k)
def xT (σ : cw_V) (a b : Nat) : TT := (xF (σ 7) a b, xF (σ 8) a b, xP (σ 9) a b)
def cG (σ : cw_V) (j k n : Nat) : Int32 := costOf (vT σ (gT σ j k n)) 1
def cX (σ : cw_V) (a b : Nat) : Int32 := costOf (vT σ (xT σ a b)) 1
noncomputable def pif {α : Type} (P : Prop) (a b : α) : α := @ite α P (Classical.propDecidable P) a b
theorem pif_p {α : Type} {P : Prop} {a b : α} (h : P) : pif P a b = a := if_pos h
theorem pif_n {α : Type} {P : Prop} {a b : α} (h : ¬ P) : pif P a b = b := if_neg h
noncomputable def bgF (P : Nat → Prop) (c : Nat → Int32) : Nat → Nat → Int32 × Int32 → Int32 × Int32
  | 0, _, a => a
  | m + 1, i, a => bgF P c m (i + 1) (pif (P i) (if a.1 = -1 ∨ c i < a.2 then (nI i, c i) else a) a)
theorem bg_ok {P : Nat → Prop} {c : Nat → Int32} : ∀ m i a, (a.1 = -1 ∨ ∃ n, n < i + m ∧ a.1 = nI n ∧ P n) → ((bgF P c m i a).1 = -1 ∨ ∃ n, n < i + m ∧ (bgF P c m i a).1 = nI n ∧ P n) := by
  intro m
  induction m with
  | zero => intro i a h; exact h
  | succ m ih =>
    intro i a h
    have hm : i + (m + 1) = i + 1 + m := by omega
    rw [hm] at h ⊢
    refine ih (i + 1) _ ?_
    rcases Classical.em (P i) with z | z
    · rw [pif_p z]
      split
      · exact Or.inr ⟨i, by omega, rfl, z⟩
      · exact h
    · rw [pif_n z]; exact h
theorem bg_no {P : Nat → Prop} {c : Nat → Int32} (hP : ∀ n, ¬ P n) : ∀ m i a, bgF P c m i a = a := by
  intro m
  induction m with
  | zero => intro i a; rfl
  | succ m ih =>
    intro i a
    show bgF P c m (i + 1) (pif (P i) _ a) = a
    rw [pif_n (hP i), ih]
/-- two can be exchanged -/
def Px (σ : cw_V) (s : Nat) (ρ : Nat → Nat) (a b : Nat) : Prop := nodeN s (σ 7) a ∧ nodeN s (σ 7) b ∧ cET σ 1 s ρ a b
abbrev T3 : Type := Int32 × Int32 × Int32
noncomputable def bxS (P : Nat → Nat → Prop) (c : Nat → Nat → Int32) (a b : Nat) (x : T3) : T3 := pif (P a b) (if c a b < x.2.2 then (nI a, nI b, c a b) else x) x
noncomputable def bx2 (P : Nat → Nat → Prop) (c : Nat → Nat → Int32) (a : Nat) : Nat → Nat → T3 → T3
  | 0, _, x => x
  | m + 1, b, x => bx2 P c a m (b + 1) (bxS P c a b x)
noncomputable def bx1 (P : Nat → Nat → Prop) (c : Nat → Nat → Int32) : Nat → Nat → T3 → T3
  | 0, _, x => x
  | m + 1, a, x => bx1 P c m (a + 1) (bx2 P c a m (a + 1) x)
def bxI (P : Nat → Nat → Prop) (c : Nat → Nat → Int32) (w : Int32) (x : T3) : Prop := (x.1 = -1 ∧ x.2.2 = w) ∨ ∃ a b, a < 15 ∧ b < 15 ∧ P a b ∧ x = (nI a, nI b, c a b)
theorem bxS_ok {P : Nat → Nat → Prop} {c : Nat → Nat → Int32} {w : Int32} {a b : Nat} {x : T3} (ha : a < 15) (hb : b < 15) (h : bxI P c w x) : bxI P c w (bxS P c a b x) := by
  unfold bxS
  rcases Classical.em (P a b) with z | z
  · rw [pif_p z]
    split
    · exact Or.inr ⟨a, b, ha, hb, z, rfl⟩
    · exact h
  · rw [pif_n z]; exact h
theorem bx2_ok {P : Nat → Nat → Prop} {c : Nat → Nat → Int32} {w : Int32} {a : Nat} (ha : a < 15) : ∀ m b x, b + m ≤ 15 → bxI P c w x → bxI P c w (bx2 P c a m b x) := by
  intro m
  induction m with
  | zero => intro b x _ h; exact h
  | succ m ih => intro b x hb h; exact ih (b + 1) _ (by omega) (bxS_ok ha (by omega) h)
theorem bx1_ok {P : Nat → Nat → Prop} {c : Nat → Nat → Int32} {w : Int32} : ∀ m a x, a + m ≤ 15 → bxI P c w x → bxI P c w (bx1 P c m a x) := by
  intro m
  induction m with
  | zero => intro a x _ h; exact h
  | succ m ih => intro a x ha h; exact ih (a + 1) _ (by omega) (bx2_ok (by omega) m (a + 1) x (by omega) h)
def cdF (x : T3) : Int32 := if x.1 = -1 then -1 else 16 * x.1 + x.2.1
end
section
variable {d s : Nat} {σ υ : cw_V} {lam : Nat → Int64} {Q : cw_Q} {ρ : Nat → Nat}
theorem hT37 : isT 37 := Or.inr (Or.inl rfl)
theorem hW46 : isW 46 := Or.inr rfl
theorem cpy.te {σ σ' : cw_V} {t u : Nat} (h : cpy σ σ' t u) : TE σ' t σ u := ⟨h.2.1, h.2.2.1, h.2.2.2⟩
theorem z_bestGraft {j k : Nat} (hW : WF σ 1 s) (hρ : Dep s (σ 7) (σ 9) ρ) (hk15 : k < 15) (hj : ∀ n, Pg σ s ρ k n → isF (σ 7) j) (kk : ∀ τ, (∀ p, (p < 37 ∨ 65 < p) → τ p = σ p) → Q (some (.int (bgF (Pg σ s ρ k) (cG σ j k) 15 0 (-1, 0)).1)) (cw_B τ lam)) : cw_Z (d + 6) m_Search_bestGraft [.ref 36, .ref 1, .int (nI k)] (cw_B σ lam) Q := by
  refine zi (L := [some (.ref 36), some (.ref 1), some (.int (nI k)), none, none, none]) rfl rfl (fun K hK => ?_)
  have h8 := hW.2.1
  have loop : ∀ m i τ (a : Int32 × Int32), i + m = 15 → (∀ p, (p < 37 ∨ 65 < p) → τ p = σ p) → TE τ 37 σ 1 → bgF (Pg σ s ρ k) (cG σ j k) m i a = bgF (Pg σ s ρ k) (cG σ j k) 15 0 (-1, 0) → K 16 [some (.ref 36), some (.ref 1), some (.int (nI k)), some (.int a.1), some (.int a.2), some (.int (nI i))] [] (cw_B τ lam) := by
    intro m
    induction m with
    | zero =>
      intro i τ a hi hfr te e
      obtain rfl : i = 15 := by omega
      refine st_go hK rfl rfl ?_
      refine st_go hK rfl rfl ?_
      refine st_ifn hK rfl rfl (nI_leI (a := 15) (b := 15) (by omega) (by omega)) (fun _ => ?_) (fun c => absurd (by omega) c)
      refine st_go hK rfl rfl ?_
      refine st_ret hK rfl rfl ?_
      rw [show a = bgF (Pg σ s ρ k) (cG σ j k) 15 0 (-1, 0) from e]
      exact kk τ hfr
    | succ m ih =>
      intro i τ a hi hfr te e
      have hWt := te.wf hW
      have w1 : ∀ x, x < 15 → τ (37 + 6) x = σ 7 x := fun x hx => te.hi (i := 6) (by decide) (by decide) hx
      have w2 : ∀ x, x < 15 → τ (37 + 7) x = σ 8 x := fun x hx => te.hi (i := 7) (by decide) (by decide) hx
      have w3 : ∀ x, x < 15 → τ (37 + 8) x = σ 9 x := fun x hx => te.hi (i := 8) (by decide) (by decide) hx
      have hρt : Dep s (τ (37 + 6)) (τ (37 + 8)) ρ := Dep.cg hρ h8 w1 w3
      have ciff : cGr τ 37 (nI k) (nI i) ↔ Pg σ s ρ k i := by
        rw [cGr_iff hWt hρt hk15 (by omega)]
        have n1 : nodeN s (τ (37 + 6)) k ↔ nodeN s (σ 7) k := te.nn
        have n2 : nodeN s (τ (37 + 6)) i ↔ nodeN s (σ 7) i := te.nn
        unfold Pg
        rw [n1, n2, w3 k hk15]
        constructor
        · rintro ⟨q1, q2, q3⟩; exact ⟨q1, q2, fun z => q3 ((Inr.cg hW.2 hρ w3 q2).mpr z)⟩
        · rintro ⟨q1, q2, q3⟩; exact ⟨q1, q2, fun z => q3 ((Inr.cg hW.2 hρ w3 q2).mp z)⟩
      rcases Classical.em (Pg σ s ρ k i) with hP | hP
      · have hj1 := hj i hP
        obtain ⟨⟨nk, hkt⟩, ni, hnk⟩ := hP
        have i_k : i ≠ k := fun z => hnk (z ▸ Inr.rf)
        have hWT := hW.2.graft hj1 ni nk hkt hρ hnk
        have hWV : WF (vT σ (gT σ j k i)) 1 s := vT_wf hW hWT
        have j15 := hj1.1.2
        have j8 := hj1.1.1
        have jn : ¬ nodeN s (σ 7) j := by
          rintro (z | z)
          · omega
          · exact z.2.2 hj1.2.1
        have j_k : j ≠ k := fun z => jn (z ▸ nk)
        have j_i : j ≠ i := fun z => jn (z ▸ ni)
        have hje : pif (Pg σ s ρ k i) (if a.1 = -1 ∨ cG σ j k i < a.2 then (nI i, cG σ j k i) else a) a = if a.1 = -1 ∨ cG σ j k i < a.2 then (nI i, cG σ j k i) else a := pif_p ⟨⟨nk, hkt⟩, ni, hnk⟩
        have e' : bgF (Pg σ s ρ k) (cG σ j k) m (i + 1) (if a.1 = -1 ∨ cG σ j k i < a.2 then (nI i, cG σ j k i) else a) = bgF (Pg σ s ρ k) (cG σ j k) 15 0 (-1, 0) := by rw [← hje]; exact e
        have nol : ∀ x, x < 15 → σ 7 x ≠ nI j ∧ σ 8 x ≠ nI j := fun x hx => by
          have key : ∀ {q : Int32}, (q = σ 7 x ∨ q = σ 8 x) → q ≠ nI j := by
            intro q hq z
            by_cases h9 : x < 8 ∨ σ 7 x = -1
            · obtain ⟨z1, z2⟩ := hW.2.2.1 x hx h9
              rcases hq with rfl | rfl
              · exact nI_ne1 (by omega) (z.symm.trans z1)
              · exact nI_ne1 (by omega) (z.symm.trans z2)
            · obtain ⟨u, v, eu, ev, nu, nv, -⟩ := hW.2.dn (j := x) (by omega) hx (fun q => h9 (Or.inr q))
              have lu := hW.2.lt nu
              have lv := hW.2.lt nv
              rcases hq with rfl | rfl
              · exact jn ((nI_inj (by omega) (by omega) (eu.symm.trans z)) ▸ nu)
              · exact jn ((nI_inj (by omega) (by omega) (ev.symm.trans z)) ▸ nv)
          exact ⟨key (Or.inl rfl), key (Or.inr rfl)⟩
        have paj : σ 9 j = -1 := hW.2.2.2.1 j j15 jn
        have rtj : σ 8 j = -1 := (hW.2.2.1 j j15 (Or.inr hj1.2.1)).2
        refine st_go hK rfl rfl ?_
        refine st_go hK rfl rfl ?_
        refine st_ifn hK rfl rfl (nI_leI (a := 15) (b := i) (by omega) (by omega)) (fun c => absurd c (by omega)) (fun _ => ?_)
        refine st_go hK rfl rfl ?_
        refine st_getr hK rfl qf_36_0 ?_
        refine st_go hK rfl rfl ?_
        refine st_go hK rfl rfl ?_
        refine cv2 hK rfl qc_37 (Nat.le_of_ble_eq_true rfl) ?_
        refine z_canGraft hT37 (fun _ => ?_) (fun c => absurd (ciff.mpr ⟨⟨nk, hkt⟩, ni, hnk⟩) c)
        change K _ _ (_ :: _) _
        refine st_if hK rfl rfl (fun _ => ?_) (fun c => absurd (by decide) c)
        refine st_go hK rfl rfl ?_
        refine st_getr hK rfl qf_36_0 ?_
        refine st_go hK rfl rfl ?_
        refine st_go hK rfl rfl ?_
        refine cv2 hK rfl qc_37 (Nat.le_of_ble_eq_true rfl) ?_
        refine z_graftT hT37 hWt (j := j) (isF_cg (fun x hx => (w1 x hx).symm) hj1) (te.nn.mpr ni) (te.nn.mpr nk) i_k (fun τ1 hTR => ?_)
        have te1 : TE τ1 37 (vT σ (gT σ j k i)) 1 := te_step te hTR vT_lo (fun x hx => gL_cg (w1 x hx)) (fun x hx => gR_cg (w2 x hx)) (fun x hx => gP_cg (w3 x hx) (w3 i (by omega)))
        change K _ _ (_ :: _) _
        refine st_go hK rfl rfl ?_
        refine st_go hK rfl rfl ?_
        refine st_getr hK rfl qf_36_1 ?_
        refine st_go hK rfl rfl ?_
        refine st_getr hK rfl qf_36_0 ?_
        refine cv1 hK rfl qc_46 (Nat.le_of_ble_eq_true rfl) ?_
        refine z_measure' (te1.wf hWV) hW46 hT37 (fun τ2 sr2 md2 fr2 => ?_)
        have te2 : TE τ2 37 (vT σ (gT σ j k i)) 1 := sr2.te.trans te1
        have ec : τ2 46 6 = cG σ j k i := (md2.2.2.2.2.trans dn_cost).trans (te2.cost hWV)
        have v1 : ∀ x, x < 15 → τ2 (37 + 6) x = gL (σ 7) j i x := fun x hx => te2.hi (i := 6) (by decide) (by decide) hx
        have v2 : ∀ x, x < 15 → τ2 (37 + 7) x = gR (σ 8) j i k x := fun x hx => te2.hi (i := 7) (by decide) (by decide) hx
        have v3 : ∀ x, x < 15 → τ2 (37 + 8) x = gP (σ 9) j i k x := fun x hx => te2.hi (i := 8) (by decide) (by decide) hx
        have nn2 : ∀ x, nodeN s (τ2 (37 + 6)) x ↔ (nodeN s (σ 7) x ∨ x = j) := fun x => (nodeN_congr v1).trans (nodeN_g j8 j15 (by omega))
        change K _ _ _ _
        refine st_go hK rfl rfl ?_
        refine st_getr hK rfl qf_36_0 ?_
        refine st_go hK rfl rfl ?_
        refine cv1 hK rfl qc_37 (Nat.le_of_ble_eq_true rfl) ?_
        refine z_cutT hT37 (te2.wf hWV) (n := k) (p := j) (o := i) ((nn2 k).mpr (Or.inl nk)) j8 j15 ((v3 k hk15).trans (by unfold gP; rw [if_neg (Ne.symm j_k), if_pos (Or.inr rfl)])) ((nn2 j).mpr (Or.inr rfl)) ((nn2 i).mpr (Or.inl ni)) (Ne.symm i_k) ((v3 i (by omega)).trans (by unfold gP; rw [if_neg (Ne.symm j_i), if_pos (Or.inl rfl)])) (Or.inr ⟨(v1 j j15).trans (by unfold gL; rw [if_pos rfl]), (v2 j j15).trans (by unfold gR; rw [if_pos rfl])⟩) (fun τ3 hTC => ?_)
        have te3 : TE τ3 37 σ 1 := te_step te2 hTC (fun p hp => (vT_lo p hp).symm) (fun x hx => (cF_cg (v1 x hx)).trans (gL_inv hj1.2.1 (nol x hx).1)) (fun x hx => (cF_cg (v2 x hx)).trans (gR_inv rtj (nol x hx).2)) (fun x hx => (cP_cg (v3 x hx) (v3 j j15)).trans (gP_inv paj hkt j_i i_k))
        have ec3 : τ3 46 6 = cG σ j k i := (congrFun (hTC.1 46 (by decide) (by decide) (by decide)) 6).trans ec
        have hfr3 : ∀ p, (p < 37 ∨ 65 < p) → τ3 p = σ p := fun p hp => by rw [hTC.1 p (by omega) (by omega) (by omega), fr2 p (by omega), hTR.1 p (by omega) (by omega) (by omega), hfr p hp]
        change K _ _ (_ :: _) _
        refine st_go hK rfl rfl ?_
        refine st_go hK rfl rfl ?_
        refine st_go hK rfl rfl ?_
        refine st_if hK rfl rfl (fun c72 => ?_) (fun c72 => ?_)
        · refine st_go hK rfl rfl ?_
          refine st_go hK rfl rfl ?_
          change K _ [some (.ref 36), some (.ref 1), some (.int (nI k)), some (.int (nI i)), some (.int a.2), some (.int (nI i))] _ _
          refine st_go hK rfl rfl ?_
          refine st_getr hK rfl qf_36_1 ?_
          refine gi (v := cG σ j k i) hK rfl qf_46_6 ec3 ?_
          refine st_go hK rfl rfl ?_
          change K _ [some (.ref 36), some (.ref 1), some (.int (nI k)), some (.int (nI i)), some (.int (cG σ j k i)), some (.int (nI i))] _ _
          refine st_go hK rfl rfl ?_
          rw [nI_1]
          refine st_go hK rfl rfl ?_
          first
            | (refine ih (i + 1) τ3 (nI i, cG σ j k i) (by omega) hfr3 te3 ?_
               rw [if_pos (Or.inl c72)] at e'
               exact e')
            | (refine ih (i + 1) τ3 (nI i, cG σ j k i) (by omega) hfr3 te3 ?_
               rw [if_pos (Or.inr (Int32.not_le.mp c84))] at e'
               exact e')
            | (refine ih (i + 1) τ3 a (by omega) hfr3 te3 ?_
               rw [if_neg (fun z => z.elim c72 (fun w => absurd w (Int32.not_lt.mpr c84)))] at e'
               exact e')
        · refine st_go hK rfl rfl ?_
          refine st_getr hK rfl qf_36_1 ?_
          refine gi (v := cG σ j k i) hK rfl qf_46_6 ec3 ?_
          refine st_go hK rfl rfl ?_
          refine st_if hK rfl rfl (fun c84 => ?_) (fun c84 => ?_)
          · refine st_go hK rfl rfl ?_
            rw [nI_1]
            refine st_go hK rfl rfl ?_
            first
              | (refine ih (i + 1) τ3 (nI i, cG σ j k i) (by omega) hfr3 te3 ?_
                 rw [if_pos (Or.inl c72)] at e'
                 exact e')
              | (refine ih (i + 1) τ3 (nI i, cG σ j k i) (by omega) hfr3 te3 ?_
                 rw [if_pos (Or.inr (Int32.not_le.mp c84))] at e'
                 exact e')
              | (refine ih (i + 1) τ3 a (by omega) hfr3 te3 ?_
                 rw [if_neg (fun z => z.elim c72 (fun w => absurd w (Int32.not_lt.mpr c84)))] at e'
                 exact e')
          · refine st_go hK rfl rfl ?_
            refine st_go hK rfl rfl ?_
            change K _ [some (.ref 36), some (.ref 1), some (.int (nI k)), some (.int (nI i)), some (.int a.2), some (.int (nI i))] _ _
            refine st_go hK rfl rfl ?_
            refine st_getr hK rfl qf_36_1 ?_
            refine gi (v := cG σ j k i) hK rfl qf_46_6 ec3 ?_
            refine st_go hK rfl rfl ?_
            change K _ [some (.ref 36), some (.ref 1), some (.int (nI k)), some (.int (nI i)), some (.int (cG σ j k i)), some (.int (nI i))] _ _
            refine st_go hK rfl rfl ?_
            rw [nI_1]
            refine st_go hK rfl rfl ?_
            first
              | (refine ih (i + 1) τ3 (nI i, cG σ j k i) (by omega) hfr3 te3 ?_
                 rw [if_pos (Or.inl c72)] at e'
                 exact e')
              | (refine ih (i + 1) τ3 (nI i, cG σ j k i) (by omega) hfr3 te3 ?_
                 rw [if_pos (Or.inr (Int32.not_le.mp c84))] at e'
                 exact e')
              | (refine ih (i + 1) τ3 a (by omega) hfr3 te3 ?_
                 rw [if_neg (fun z => z.elim c72 (fun w => absurd w (Int32.not_lt.mpr c84)))] at e'
                 exact e')
      · have e' : bgF (Pg σ s ρ k) (cG σ j k) m (i + 1) a = bgF (Pg σ s ρ k) (cG σ j k) 15 0 (-1, 0) := by
          have hje : pif (Pg σ s ρ k i) (if a.1 = -1 ∨ cG σ j k i < a.2 then (nI i, cG σ j k i) else a) a = a := pif_n hP
          rw [← e]
          show _ = bgF _ _ m (i + 1) (pif _ _ a)
          rw [hje]
        refine st_go hK rfl rfl ?_
        refine st_go hK rfl rfl ?_
        refine st_ifn hK rfl rfl (nI_leI (a := 15) (b := i) (by omega) (by omega)) (fun c => absurd c (by omega)) (fun _ => ?_)
        refine st_go hK rfl rfl ?_
        refine st_getr hK rfl qf_36_0 ?_
        refine st_go hK rfl rfl ?_
        refine st_go hK rfl rfl ?_
        refine cv2 hK rfl qc_37 (Nat.le_of_ble_eq_true rfl) ?_
        refine z_canGraft hT37 (fun c => absurd (ciff.mp c) hP) (fun _ => ?_)
        change K _ _ (_ :: _) _
        refine st_if hK rfl rfl (fun c => absurd c (by decide)) (fun _ => ?_)
        refine st_go hK rfl rfl ?_
        refine st_go hK rfl rfl ?_
        rw [nI_1]
        refine st_go hK rfl rfl ?_
        exact ih (i + 1) τ a (by omega) hfr te e'
  refine st_go hK rfl rfl ?_
  refine st_getr hK rfl qf_36_0 ?_
  refine st_go hK rfl rfl ?_
  refine cv1 hK rfl qc_37 (Nat.le_of_ble_eq_true rfl) ?_
  refine z_copyFrom hT37 hT1 (by omega) (fun τ0 hc0 => ?_)
  change K _ _ _ _
  refine st_go hK rfl rfl ?_
  refine st_go hK rfl rfl ?_
  change K _ [some (.ref 36), some (.ref 1), some (.int (nI k)), some (.int (-1 : Int32)), _, _] _ _
  refine st_go hK rfl rfl ?_
  refine st_go hK rfl rfl ?_
  change K _ [some (.ref 36), some (.ref 1), some (.int (nI k)), some (.int (-1 : Int32)), some (.int (0 : Int32)), _] _ _
  refine st_go hK rfl rfl ?_
  refine st_go hK rfl rfl ?_
  change K _ [some (.ref 36), some (.ref 1), some (.int (nI k)), some (.int (-1 : Int32)), some (.int (0 : Int32)), some (.int (0 : Int32))] _ _
  exact loop 15 0 τ0 (-1, 0) (by omega) (fun p hp => hc0.1 p (by omega)) hc0.te rfl
theorem z_bestFor {j k : Nat} (hM : MW υ s) (teV : TE (mv υ) 1 σ 1) (hW : WF σ 1 s) (hρ : Dep s (σ 7) (σ 9) ρ) (nk : nodeN s (σ 7) k) (hkt : σ 9 k = -1) (hj : ∀ n, Pg σ s ρ k n → isF (σ 7) j) (kk : ∀ τ, MR υ τ → MW τ s → TE (mv τ) 1 σ 1 → Q (some (.int (bgF (Pg σ s ρ k) (cG σ j k) 15 0 (-1, 0)).1)) (cw_B τ lam)) : cw_Z (d + 6) m_Mo_bestFor [.ref 146, .int (nI k)] (cw_B υ lam) Q := by
  refine zi (L := [some (.ref 146), some (.int (nI k)), none, none, none, none, none]) rfl rfl (fun K hK => ?_)
  have h8 := hW.2.1
  have hk15 := hW.2.lt nk
  obtain ⟨y1, y2, y3⟩ := teV.mrow
  have loop : ∀ m i τ (a : Int32 × Int32) (z5 z6 : Option Value), i + m = 15 → MR υ τ → MW τ s → TE (mv τ) 1 σ 1 → (∀ x, x < 15 → τ 154 x = υ 150 x ∧ τ 154 (15 + x) = υ 151 x ∧ τ 154 (30 + x) = υ 152 x ∧ τ 154 (45 + x) = υ 153 x) → bgF (Pg σ s ρ k) (cG σ j k) m i a = bgF (Pg σ s ρ k) (cG σ j k) 15 0 (-1, 0) → K 11 [some (.ref 146), some (.int (nI k)), some (.int a.1), some (.int a.2), some (.int (nI i)), z5, z6] [] (cw_B τ lam) := by
    intro m
    induction m with
    | zero =>
      intro i τ a z5 z6 hi hR hMt te has e
      obtain rfl : i = 15 := by omega
      refine st_go hK rfl rfl ?_
      refine st_go hK rfl rfl ?_
      refine st_ifn hK rfl rfl (nI_leI (a := 15) (b := 15) (by omega) (by omega)) (fun _ => ?_) (fun c => absurd (by omega) c)
      refine st_go hK rfl rfl ?_
      refine st_ret hK rfl rfl ?_
      rw [show a = bgF (Pg σ s ρ k) (cG σ j k) 15 0 (-1, 0) from e]
      exact kk τ hR hMt te
    | succ m ih =>
      intro i τ a z5 z6 hi hR hMt te has e
      obtain ⟨w1, w2, w3⟩ := te.mrow
      have hρt : Dep s (τ 151) (τ 153) ρ := Dep.cg hρ h8 w1 w3
      rcases Classical.em (nodeN s (σ 7) i) with ni | ni
      · have i1 : τ 150 i = 1 := (hMt.is1 (by omega)).mpr (te.nn.mpr ni)
        rcases Classical.em (Inr (σ 9) ρ i k) with hnk | hnk
        · have wi : Inr (τ 153) ρ i k := (Inr.cg hW.2 hρ w3 ni).mpr hnk
          have e' : bgF (Pg σ s ρ k) (cG σ j k) m (i + 1) a = bgF (Pg σ s ρ k) (cG σ j k) 15 0 (-1, 0) := by
            have hje : pif (Pg σ s ρ k i) (if a.1 = -1 ∨ cG σ j k i < a.2 then (nI i, cG σ j k i) else a) a = a := pif_n (fun z => z.2.2 hnk)
            rw [← e]
            show _ = bgF _ _ m (i + 1) (pif _ _ a)
            rw [hje]
          refine st_go hK rfl rfl ?_
          refine st_go hK rfl rfl ?_
          refine st_ifn hK rfl rfl (nI_leI (a := 15) (b := i) (by omega) (by omega)) (fun c => absurd c (by omega)) (fun _ => ?_)
          refine st_go hK rfl rfl ?_
          refine st_getr hK rfl qf_146_8 ?_
          refine st_go hK rfl rfl ?_
          refine ga (e := i) (v := (1 : Int32)) hK rfl qa_150 rfl (by omega) rfl i1 ?_
          refine st_go hK rfl rfl ?_
          refine st_if hK rfl rfl (fun c => absurd c (by decide)) (fun _ => ?_)
          refine st_go hK rfl rfl ?_
          refine st_go hK rfl rfl ?_
          refine st_go hK rfl rfl ?_
          refine cv2 hK rfl qc_146 (Nat.le_of_ble_eq_true rfl) ?_
          refine z_misWithin hMt.2.1 hρt (te.nn.mpr ni) hk15 (fun _ => ?_) (fun c => absurd wi c)
          change K _ _ (_ :: _) _
          refine st_if hK rfl rfl (fun _ => ?_) (fun c => absurd (by decide) c)
          refine st_go hK rfl rfl ?_
          rw [nI_1]
          refine st_go hK rfl rfl ?_
          exact ih (i + 1) τ a _ _ (by omega) hR hMt te has e'
        · have wi : ¬ Inr (τ 153) ρ i k := fun z => hnk ((Inr.cg hW.2 hρ w3 ni).mp z)
          have hP : Pg σ s ρ k i := ⟨⟨nk, hkt⟩, ni, hnk⟩
          have hj1 := hj i hP
          have hWT := hW.2.graft hj1 ni nk hkt hρ hnk
          have hWV : WF (vT σ (gT σ j k i)) 1 s := vT_wf hW hWT
          have e' : bgF (Pg σ s ρ k) (cG σ j k) m (i + 1) (if a.1 = -1 ∨ cG σ j k i < a.2 then (nI i, cG σ j k i) else a) = bgF (Pg σ s ρ k) (cG σ j k) 15 0 (-1, 0) := by
            have hje : pif (Pg σ s ρ k i) (if a.1 = -1 ∨ cG σ j k i < a.2 then (nI i, cG σ j k i) else a) a = if a.1 = -1 ∨ cG σ j k i < a.2 then (nI i, cG σ j k i) else a := pif_p hP
            rw [← hje]; exact e
          refine st_go hK rfl rfl ?_
          refine st_go hK rfl rfl ?_
          refine st_ifn hK rfl rfl (nI_leI (a := 15) (b := i) (by omega) (by omega)) (fun c => absurd c (by omega)) (fun _ => ?_)
          refine st_go hK rfl rfl ?_
          refine st_getr hK rfl qf_146_8 ?_
          refine st_go hK rfl rfl ?_
          refine ga (e := i) (v := (1 : Int32)) hK rfl qa_150 rfl (by omega) rfl i1 ?_
          refine st_go hK rfl rfl ?_
          refine st_if hK rfl rfl (fun c => absurd c (by decide)) (fun _ => ?_)
          refine st_go hK rfl rfl ?_
          refine st_go hK rfl rfl ?_
          refine st_go hK rfl rfl ?_
          refine cv2 hK rfl qc_146 (Nat.le_of_ble_eq_true rfl) ?_
          refine z_misWithin hMt.2.1 hρt (te.nn.mpr ni) hk15 (fun c => absurd c wi) (fun _ => ?_)
          change K _ _ (_ :: _) _
          refine st_if hK rfl rfl (fun c => absurd c (by decide)) (fun _ => ?_)
          refine st_go hK rfl rfl ?_
          refine st_go hK rfl rfl ?_
          refine st_go hK rfl rfl ?_
          refine cv2 hK rfl qc_146 (Nat.le_of_ble_eq_true rfl) ?_
          refine z_lays hMt (j := j) (isF_cg (fun x hx => (w1 x hx).symm) hj1) (te.nn.mpr ni) (te.nn.mpr nk) ((w3 k hk15).trans hkt) hρt wi (fun τ1 mw1 hMT => ?_)
          have te1 : TE (mv τ1) 1 (vT σ (gT σ j k i)) 1 := te_rows te hMT.mr vT_lo (fun x hx => (hMT.2.1 x hx).trans (gL_cg (w1 x hx))) (fun x hx => (hMT.2.2.1 x hx).trans (gR_cg (w2 x hx))) (fun x hx => (hMT.2.2.2 x hx).trans (gP_cg (w3 x hx) (w3 i (by omega))))
          change K _ _ (_ :: _) _
          refine st_go hK rfl rfl ?_
          change K _ [some (.ref 146), some (.int (nI k)), some (.int a.1), some (.int a.2), some (.int (nI i)), some (.int (nI j)), _] _ _
          refine st_go hK rfl rfl ?_
          refine cv0 hK rfl qc_146 (Nat.le_of_ble_eq_true rfl) ?_
          refine z_costOfAll mw1 (fun τ2 hT2 => ?_)
          rw [show costOf (mv τ1) 1 = cG σ j k i from te1.cost hWV]
          change K _ _ (_ :: _) _
          refine st_go hK rfl rfl ?_
          change K _ [some (.ref 146), some (.int (nI k)), some (.int a.1), some (.int a.2), some (.int (nI i)), some (.int (nI j)), some (.int (cG σ j k i))] _ _
          refine st_go hK rfl rfl ?_
          refine st_go hK rfl rfl ?_
          refine st_if hK rfl rfl (fun c56 => ?_) (fun c56 => ?_)
          · refine st_go hK rfl rfl ?_
            refine st_go hK rfl rfl ?_
            change K _ [some (.ref 146), some (.int (nI k)), some (.int (nI i)), some (.int a.2), some (.int (nI i)), some (.int (nI j)), some (.int (cG σ j k i))] _ _
            refine st_go hK rfl rfl ?_
            refine st_go hK rfl rfl ?_
            change K _ [some (.ref 146), some (.int (nI k)), some (.int (nI i)), some (.int (cG σ j k i)), some (.int (nI i)), some (.int (nI j)), some (.int (cG σ j k i))] _ _
            refine st_go hK rfl rfl ?_
            refine cv0 hK rfl qc_146 (Nat.le_of_ble_eq_true rfl) ?_
            refine z_takesBack (fun τ3 hTB => ?_)
            have r154 : ∀ q, τ2 154 q = τ 154 q := fun q => by rw [hT2.1.1 154 (by decide) (by decide), hMT.1 154 (by decide)]
            have hR3 : MR υ τ3 := ((hR.trans hMT.mr).trans hT2.1.tq.mr).trans hTB.mr
            have b0 : ∀ x, x < 15 → τ3 150 x = υ 150 x := fun x hx => ((hTB.2 x hx).1.trans (r154 _)).trans (has x hx).1
            have b1 : ∀ x, x < 15 → τ3 151 x = υ 151 x := fun x hx => ((hTB.2 x hx).2.1.trans (r154 _)).trans (has x hx).2.1
            have b2 : ∀ x, x < 15 → τ3 152 x = υ 152 x := fun x hx => ((hTB.2 x hx).2.2.1.trans (r154 _)).trans (has x hx).2.2.1
            have b3 : ∀ x, x < 15 → τ3 153 x = υ 153 x := fun x hx => ((hTB.2 x hx).2.2.2.trans (r154 _)).trans (has x hx).2.2.2
            have mw3 : MW τ3 s := hM.cgr (hR3.2 1 (by decide)) b0 b1 b2 b3
            have te3 : TE (mv τ3) 1 σ 1 := te_rows teV hR3 (fun _ _ => rfl) (fun x hx => (b1 x hx).trans (y1 x hx)) (fun x hx => (b2 x hx).trans (y2 x hx)) (fun x hx => (b3 x hx).trans (y3 x hx))
            have has3 : ∀ x, x < 15 → τ3 154 x = υ 150 x ∧ τ3 154 (15 + x) = υ 151 x ∧ τ3 154 (30 + x) = υ 152 x ∧ τ3 154 (45 + x) = υ 153 x := fun x hx => by
              rw [hTB.1 154 (by decide), r154, r154, r154, r154]
              exact has x hx
            change K _ _ _ _
            refine st_go hK rfl rfl ?_
            rw [nI_1]
            refine st_go hK rfl rfl ?_
            first
              | (refine ih (i + 1) τ3 (nI i, cG σ j k i) _ _ (by omega) hR3 mw3 te3 has3 ?_
                 rw [if_pos (Or.inl c56)] at e'
                 exact e')
              | (refine ih (i + 1) τ3 (nI i, cG σ j k i) _ _ (by omega) hR3 mw3 te3 has3 ?_
                 rw [if_pos (Or.inr (Int32.not_le.mp c62))] at e'
                 exact e')
              | (refine ih (i + 1) τ3 a _ _ (by omega) hR3 mw3 te3 has3 ?_
                 rw [if_neg (fun z => z.elim c56 (fun w => absurd w (Int32.not_lt.mpr c62)))] at e'
                 exact e')
          · refine st_go hK rfl rfl ?_
            refine st_go hK rfl rfl ?_
            refine st_if hK rfl rfl (fun c62 => ?_) (fun c62 => ?_)
            · refine st_go hK rfl rfl ?_
              refine cv0 hK rfl qc_146 (Nat.le_of_ble_eq_true rfl) ?_
              refine z_takesBack (fun τ3 hTB => ?_)
              have r154 : ∀ q, τ2 154 q = τ 154 q := fun q => by rw [hT2.1.1 154 (by decide) (by decide), hMT.1 154 (by decide)]
              have hR3 : MR υ τ3 := ((hR.trans hMT.mr).trans hT2.1.tq.mr).trans hTB.mr
              have b0 : ∀ x, x < 15 → τ3 150 x = υ 150 x := fun x hx => ((hTB.2 x hx).1.trans (r154 _)).trans (has x hx).1
              have b1 : ∀ x, x < 15 → τ3 151 x = υ 151 x := fun x hx => ((hTB.2 x hx).2.1.trans (r154 _)).trans (has x hx).2.1
              have b2 : ∀ x, x < 15 → τ3 152 x = υ 152 x := fun x hx => ((hTB.2 x hx).2.2.1.trans (r154 _)).trans (has x hx).2.2.1
              have b3 : ∀ x, x < 15 → τ3 153 x = υ 153 x := fun x hx => ((hTB.2 x hx).2.2.2.trans (r154 _)).trans (has x hx).2.2.2
              have mw3 : MW τ3 s := hM.cgr (hR3.2 1 (by decide)) b0 b1 b2 b3
              have te3 : TE (mv τ3) 1 σ 1 := te_rows teV hR3 (fun _ _ => rfl) (fun x hx => (b1 x hx).trans (y1 x hx)) (fun x hx => (b2 x hx).trans (y2 x hx)) (fun x hx => (b3 x hx).trans (y3 x hx))
              have has3 : ∀ x, x < 15 → τ3 154 x = υ 150 x ∧ τ3 154 (15 + x) = υ 151 x ∧ τ3 154 (30 + x) = υ 152 x ∧ τ3 154 (45 + x) = υ 153 x := fun x hx => by
                rw [hTB.1 154 (by decide), r154, r154, r154, r154]
                exact has x hx
              change K _ _ _ _
              refine st_go hK rfl rfl ?_
              rw [nI_1]
              refine st_go hK rfl rfl ?_
              first
                | (refine ih (i + 1) τ3 (nI i, cG σ j k i) _ _ (by omega) hR3 mw3 te3 has3 ?_
                   rw [if_pos (Or.inl c56)] at e'
                   exact e')
                | (refine ih (i + 1) τ3 (nI i, cG σ j k i) _ _ (by omega) hR3 mw3 te3 has3 ?_
                   rw [if_pos (Or.inr (Int32.not_le.mp c62))] at e'
                   exact e')
                | (refine ih (i + 1) τ3 a _ _ (by omega) hR3 mw3 te3 has3 ?_
                   rw [if_neg (fun z => z.elim c56 (fun w => absurd w (Int32.not_lt.mpr c62)))] at e'
                   exact e')
            · refine st_go hK rfl rfl ?_
              refine st_go hK rfl rfl ?_
              change K _ [some (.ref 146), some (.int (nI k)), some (.int (nI i)), some (.int a.2), some (.int (nI i)), some (.int (nI j)), some (.int (cG σ j k i))] _ _
              refine st_go hK rfl rfl ?_
              refine st_go hK rfl rfl ?_
              change K _ [some (.ref 146), some (.int (nI k)), some (.int (nI i)), some (.int (cG σ j k i)), some (.int (nI i)), some (.int (nI j)), some (.int (cG σ j k i))] _ _
              refine st_go hK rfl rfl ?_
              refine cv0 hK rfl qc_146 (Nat.le_of_ble_eq_true rfl) ?_
              refine z_takesBack (fun τ3 hTB => ?_)
              have r154 : ∀ q, τ2 154 q = τ 154 q := fun q => by rw [hT2.1.1 154 (by decide) (by decide), hMT.1 154 (by decide)]
              have hR3 : MR υ τ3 := ((hR.trans hMT.mr).trans hT2.1.tq.mr).trans hTB.mr
              have b0 : ∀ x, x < 15 → τ3 150 x = υ 150 x := fun x hx => ((hTB.2 x hx).1.trans (r154 _)).trans (has x hx).1
              have b1 : ∀ x, x < 15 → τ3 151 x = υ 151 x := fun x hx => ((hTB.2 x hx).2.1.trans (r154 _)).trans (has x hx).2.1
              have b2 : ∀ x, x < 15 → τ3 152 x = υ 152 x := fun x hx => ((hTB.2 x hx).2.2.1.trans (r154 _)).trans (has x hx).2.2.1
              have b3 : ∀ x, x < 15 → τ3 153 x = υ 153 x := fun x hx => ((hTB.2 x hx).2.2.2.trans (r154 _)).trans (has x hx).2.2.2
              have mw3 : MW τ3 s := hM.cgr (hR3.2 1 (by decide)) b0 b1 b2 b3
              have te3 : TE (mv τ3) 1 σ 1 := te_rows teV hR3 (fun _ _ => rfl) (fun x hx => (b1 x hx).trans (y1 x hx)) (fun x hx => (b2 x hx).trans (y2 x hx)) (fun x hx => (b3 x hx).trans (y3 x hx))
              have has3 : ∀ x, x < 15 → τ3 154 x = υ 150 x ∧ τ3 154 (15 + x) = υ 151 x ∧ τ3 154 (30 + x) = υ 152 x ∧ τ3 154 (45 + x) = υ 153 x := fun x hx => by
                rw [hTB.1 154 (by decide), r154, r154, r154, r154]
                exact has x hx
              change K _ _ _ _
              refine st_go hK rfl rfl ?_
              rw [nI_1]
              refine st_go hK rfl rfl ?_
              first
                | (refine ih (i + 1) τ3 (nI i, cG σ j k i) _ _ (by omega) hR3 mw3 te3 has3 ?_
                   rw [if_pos (Or.inl c56)] at e'
                   exact e')
                | (refine ih (i + 1) τ3 (nI i, cG σ j k i) _ _ (by omega) hR3 mw3 te3 has3 ?_
                   rw [if_pos (Or.inr (Int32.not_le.mp c62))] at e'
                   exact e')
                | (refine ih (i + 1) τ3 a _ _ (by omega) hR3 mw3 te3 has3 ?_
                   rw [if_neg (fun z => z.elim c56 (fun w => absurd w (Int32.not_lt.mpr c62)))] at e'
                   exact e')
      · have i1 : ¬ τ 150 i = 1 := fun z => ni (te.nn.mp ((hMt.is1 (by omega)).mp z))
        have e' : bgF (Pg σ s ρ k) (cG σ j k) m (i + 1) a = bgF (Pg σ s ρ k) (cG σ j k) 15 0 (-1, 0) := by
          have hje : pif (Pg σ s ρ k i) (if a.1 = -1 ∨ cG σ j k i < a.2 then (nI i, cG σ j k i) else a) a = a := pif_n (fun z => ni z.2.1)
          rw [← e]
          show _ = bgF _ _ m (i + 1) (pif _ _ a)
          rw [hje]
        refine st_go hK rfl rfl ?_
        refine st_go hK rfl rfl ?_
        refine st_ifn hK rfl rfl (nI_leI (a := 15) (b := i) (by omega) (by omega)) (fun c => absurd c (by omega)) (fun _ => ?_)
        refine st_go hK rfl rfl ?_
        refine st_getr hK rfl qf_146_8 ?_
        refine st_go hK rfl rfl ?_
        refine ga (e := i) (v := τ 150 i) hK rfl qa_150 rfl (by omega) rfl rfl ?_
        refine st_go hK rfl rfl ?_
        refine st_if hK rfl rfl (fun _ => ?_) (fun c => absurd i1 c)
        refine st_go hK rfl rfl ?_
        rw [nI_1]
        refine st_go hK rfl rfl ?_
        exact ih (i + 1) τ a _ _ (by omega) hR hMt te has e'
  refine st_go hK rfl rfl ?_
  refine st_go hK rfl rfl ?_
  change K _ [some (.ref 146), some (.int (nI k)), some (.int (-1 : Int32)), _, _, _, _] _ _
  refine st_go hK rfl rfl ?_
  refine st_go hK rfl rfl ?_
  change K _ [some (.ref 146), some (.int (nI k)), some (.int (-1 : Int32)), some (.int (0 : Int32)), _, _, _] _ _
  refine st_go hK rfl rfl ?_
  refine cv0 hK rfl qc_146 (Nat.le_of_ble_eq_true rfl) ?_
  refine z_laysAside (fun τ0 hA => ?_)
  change K _ _ _ _
  refine st_go hK rfl rfl ?_
  refine st_go hK rfl rfl ?_
  change K _ [some (.ref 146), some (.int (nI k)), some (.int (-1 : Int32)), some (.int (0 : Int32)), some (.int (0 : Int32)), _, _] _ _
  exact loop 15 0 τ0 (-1, 0) _ _ (by omega) hA.mr (hM.cg (by rw [hA.1 146 (by decide)]) (fun p h1 h2 => hA.1 p (by omega))) (te_rows teV hA.mr (fun _ _ => rfl) (fun x hx => by rw [hA.1 151 (by decide)]; exact y1 x hx) (fun x hx => by rw [hA.1 152 (by decide)]; exact y2 x hx) (fun x hx => by rw [hA.1 153 (by decide)]; exact y3 x hx)) hA.2 rfl
end

