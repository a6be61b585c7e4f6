/-! THE CLASS'S CHANGES OF A TREE, pointwise -/
section
variable {σ : cw_V} {t s : Nat} {ρ : Nat → Nat}
theorem wi_iff (hW : WF σ t s) (hρ : Dep s (σ (t + 6)) (σ (t + 8)) ρ) {a : Nat} (ha : a < 15) : ∀ (m x : Nat), nodeN s (σ (t + 6)) x → ρ x < m → (wiF σ t (nI a) m (nI x) ↔ Inr (σ (t + 8)) ρ x a) := by
  intro m
  induction m with
  | zero => intro x hx h; omega
  | succ m ih =>
    intro x hx h
    have lx := hW.2.lt hx
    have hpof : pof σ t (nI x) = σ (t + 8) x := by rw [pof_1 (hW.node hx), nI_clamp (by omega)]
    show (nI x ≠ -1 ∧ (nI x = nI a ∨ wiF σ t (nI a) m (pof σ t (nI x)))) ↔ _
    rw [hpof, nI_eq (by omega) (by omega)]
    by_cases hp : σ (t + 8) x = -1
    · rw [hp, Inr.top hρ hx hp]
      have hno : ¬ wiF σ t (nI a) m (-1) := by
        cases m with
        | zero => exact fun z => z
        | succ m => exact fun z => z.1 rfl
      exact ⟨fun z => z.2.resolve_right hno, fun z => ⟨nI_ne1 (by omega), Or.inl z⟩⟩
    · obtain ⟨j, j1, j2, j3, j4, j5, j6⟩ := hW.2.up hx hp
      have := (hρ x hx).2 j j2 j3
      rw [j3, Inr.st hρ hx j2 j3, ih j j5 (by omega)]
      exact ⟨fun z => z.2, fun z => ⟨nI_ne1 (by omega), z⟩⟩
theorem wi_in (hW : WF σ t s) (hρ : Dep s (σ (t + 6)) (σ (t + 8)) ρ) {a x : Nat} (ha : a < 15) (hx : nodeN s (σ (t + 6)) x) : wiF σ t (nI a) 15 (nI x) ↔ Inr (σ (t + 8)) ρ x a := wi_iff hW hρ ha 15 x hx (by have := hW.2.depth hρ hx; omega)
/-- rows other than those of the joints stay; those three become f, g, h -/
def TR (σ τ : cw_V) (t : Nat) (f g h : Nat → Int32) : Prop := (∀ p, p ≠ t + 6 → p ≠ t + 7 → p ≠ t + 8 → τ p = σ p) ∧ (∀ x, x < 15 → τ (t + 6) x = f x) ∧ (∀ x, x < 15 → τ (t + 7) x = g x) ∧ ∀ x, x < 15 → τ (t + 8) x = h x
theorem TR.wf {τ : cw_V} {f g h : Nat → Int32} (hT : TR σ τ t f g h) (h8 : σ t 8 = nI s) (hW : WFt s f g h) : WF τ t s := by
  refine ⟨?_, hW.congr hT.2.1 hT.2.2.1 hT.2.2.2⟩
  rw [hT.1 t (by omega) (by omega) (by omega)]
  exact h8
theorem rcF_ne {a b m : Int32} {p : Nat} (h1 : p ≠ t + 6) (h2 : p ≠ t + 7) (h3 : p ≠ t + 8) : rcF σ t a b m p = σ p := by
  by_cases hj : hJoint σ t a
  · by_cases e : σ (t + 6) a.toNatClampNeg = b
    · rw [rcF_l hj e, up_ne h1, up_ne h3]
    · rw [rcF_r hj e, up_ne h2, up_ne h3]
  · rw [rcF_0 hj, up_ne h3]
/-- a joint in place of a child: rows pointwise, where the joint above is none or p -/
theorem TR.graft (hW : WF σ t s) {j n k : Nat} (hj : isF (σ (t + 6)) j) (hn : nodeN s (σ (t + 6)) n) (hk : nodeN s (σ (t + 6)) k) (hnk : n ≠ k) : TR σ (grF σ t j (nI k) (nI n)) t (gL (σ (t + 6)) j n) (gR (σ (t + 7)) j n k) (gP (σ (t + 8)) j n k) := by
  obtain ⟨⟨j8, j15⟩, jf, -⟩ := hj
  have ln := hW.2.lt hn
  have lk := hW.2.lt hk
  have jn : ¬ nodeN s (σ (t + 6)) j := by
    rintro (z | z)
    · have := hW.2.1
      omega
    · exact z.2.2 jf
  have j_n : j ≠ n := fun e => jn (e ▸ hn)
  have j_k : j ≠ k := fun e => jn (e ▸ hk)
  have hpof : pof σ t (nI n) = σ (t + 8) n := by rw [pof_1 (hW.node hn), nI_clamp (by omega)]
  have cj : (nI j).toNatClampNeg = j := nI_clamp (by omega)
  have cn : (nI n).toNatClampNeg = n := nI_clamp (by omega)
  have ck : (nI k).toNatClampNeg = k := nI_clamp (by omega)
  have A6 := ajF_6 (σ := σ) (t := t) (j := j) (a := nI n) (b := nI k)
  have A7 := ajF_7 (σ := σ) (t := t) (j := j) (a := nI n) (b := nI k)
  have A8 := ajF_8 (σ := σ) (t := t) (j := j) (a := nI n) (b := nI k)
  rw [cn, ck] at A8
  have only := fun x (hx : x < 15) h => hW.2.only (x := x) (n := n) hx hn h
  unfold grF
  rw [hpof]
  have P8 : ∀ x, x < 15 → upd (upd (upd (upd (σ (t + 8)) j (-1)) n (nI j)) k (nI j)) j (σ (t + 8) n) x = gP (σ (t + 8)) j n k x := by
    intro x hx
    unfold gP
    by_cases e1 : x = j
    · rw [if_pos e1, e1, upd_eq]
    · rw [if_neg e1, upd_ne e1]
      by_cases e2 : x = k
      · rw [if_pos (Or.inr e2), e2, upd_eq]
      · rw [upd_ne e2]
        by_cases e3 : x = n
        · rw [if_pos (Or.inl e3), e3, upd_eq]
        · rw [if_neg (fun z => z.elim e3 e2), upd_ne e3, upd_ne e1]
  refine ⟨fun p h1 h2 h3 => by rw [rcF_ne h1 h2 h3, ajF_ne ⟨h1, h2, h3⟩], ?_⟩
  by_cases hp : σ (t + 8) n = -1
  · have hnj : ¬ hJoint (ajF σ t j (nI n) (nI k)) t (σ (t + 8) n) := fun z => by
      rw [hp] at z
      exact absurd z.1 (by decide)
    rw [rcF_0 hnj, cj]
    refine ⟨fun x hx => ?_, fun x hx => ?_, fun x hx => ?_⟩
    · rw [up_ne (by omega), A6]
      unfold gL
      by_cases e : x = j
      · rw [if_pos e, e, upd_eq]
      · rw [if_neg e, upd_ne e, if_neg (fun z => nI_ne1 (by omega) ((only x hx (Or.inl z)).1.symm.trans hp))]
    · rw [up_ne (by omega), A7]
      unfold gR
      by_cases e : x = j
      · rw [if_pos e, e, upd_eq]
      · rw [if_neg e, upd_ne e, if_neg (fun z => nI_ne1 (by omega) ((only x hx (Or.inr z)).1.symm.trans hp))]
    · rw [up_eq, A8]
      exact P8 x hx
  · obtain ⟨p, p1, p2, p3, p4, p5, p6⟩ := hW.2.up hn hp
    have pj : p ≠ j := fun z => jn (z ▸ p5)
    have cp : (nI p).toNatClampNeg = p := nI_clamp (by omega)
    obtain ⟨a, b, ea, eb, na, nb, nab, pa_a, pa_b⟩ := hW.2.dn p1 p2 p4
    have la := hW.2.lt na
    have lb := hW.2.lt nb
    have onlyp : ∀ x, x < 15 → (σ (t + 6) x = nI n ∨ σ (t + 7) x = nI n) → x = p := fun x hx h => nI_inj (by omega) (by omega) ((only x hx h).1.symm.trans p3)
    have hjp : hJoint (ajF σ t j (nI n) (nI k)) t (nI p) := by
      rw [hJoint_nI p1 p2, A6, upd_ne pj]
      exact p4
    rw [p3]
    rw [p3] at P8
    by_cases e : σ (t + 6) p = nI n
    · rw [rcF_l hjp (by rw [cp, A6, upd_ne pj]; exact e), cj, cp]
      have hrt : σ (t + 7) p ≠ nI n := fun z => nab (nI_inj (by omega) (by omega) (ea.symm.trans (e.trans (z.symm.trans eb))))
      refine ⟨fun x hx => ?_, fun x hx => ?_, fun x hx => ?_⟩
      · rw [up_eq, up_ne (by omega), A6]
        unfold gL
        by_cases e1 : x = j
        · rw [if_pos e1, e1, upd_ne (fun z => pj z.symm), upd_eq]
        · rw [if_neg e1]
          by_cases e2 : x = p
          · rw [e2, upd_eq, if_pos e]
          · rw [upd_ne e2, upd_ne e1, if_neg (fun z => e2 (onlyp x hx (Or.inl z)))]
      · rw [up_ne (by omega), up_ne (by omega), A7]
        unfold gR
        by_cases e1 : x = j
        · rw [if_pos e1, e1, upd_eq]
        · rw [if_neg e1, upd_ne e1, if_neg (fun z => hrt (onlyp x hx (Or.inr z) ▸ z))]
      · rw [up_ne (by omega), up_eq, A8]
        exact P8 x hx
    · have er : σ (t + 7) p = nI n := p6.resolve_left e
      rw [rcF_r hjp (by rw [cp, A6, upd_ne pj]; exact e), cj, cp]
      refine ⟨fun x hx => ?_, fun x hx => ?_, fun x hx => ?_⟩
      · rw [up_ne (by omega), up_ne (by omega), A6]
        unfold gL
        by_cases e1 : x = j
        · rw [if_pos e1, e1, upd_eq]
        · rw [if_neg e1, upd_ne e1, if_neg (fun z => e (onlyp x hx (Or.inl z) ▸ z))]
      · rw [up_eq, up_ne (by omega), A7]
        unfold gR
        by_cases e1 : x = j
        · rw [if_pos e1, e1, upd_ne (fun z => pj z.symm), upd_eq]
        · rw [if_neg e1]
          by_cases e2 : x = p
          · rw [e2, upd_eq, if_pos er]
          · rw [upd_ne e2, upd_ne e1, if_neg (fun z => e2 (onlyp x hx (Or.inr z)))]
      · rw [up_ne (by omega), up_eq, A8]
        exact P8 x hx
/-- two tops joined -/
theorem TR.join (hW : WF σ t s) {j n k : Nat} (hj : isF (σ (t + 6)) j) (hn : nodeN s (σ (t + 6)) n) (hk : nodeN s (σ (t + 6)) k) (hnk : n ≠ k) (hp : σ (t + 8) n = -1) : TR σ (ajF σ t j (nI n) (nI k)) t (gL (σ (t + 6)) j n) (gR (σ (t + 7)) j n k) (gP (σ (t + 8)) j n k) := by
  obtain ⟨⟨j8, j15⟩, jf, -⟩ := hj
  have ln := hW.2.lt hn
  have lk := hW.2.lt hk
  have jn : ¬ nodeN s (σ (t + 6)) j := by
    rintro (z | z)
    · have := hW.2.1
      omega
    · exact z.2.2 jf
  have j_n : j ≠ n := fun e => jn (e ▸ hn)
  have j_k : j ≠ k := fun e => jn (e ▸ hk)
  have cn : (nI n).toNatClampNeg = n := nI_clamp (by omega)
  have ck : (nI k).toNatClampNeg = k := nI_clamp (by omega)
  have only := fun x (hx : x < 15) h => hW.2.only (x := x) (n := n) hx hn h
  refine ⟨fun p h1 h2 h3 => ajF_ne ⟨h1, h2, h3⟩, fun x hx => ?_, fun x hx => ?_, fun x hx => ?_⟩
  · rw [ajF_6]
    unfold gL
    by_cases e : x = j
    · rw [if_pos e, e, upd_eq]
    · rw [if_neg e, upd_ne e, if_neg (fun z => nI_ne1 (by omega) ((only x hx (Or.inl z)).1.symm.trans hp))]
  · rw [ajF_7]
    unfold gR
    by_cases e : x = j
    · rw [if_pos e, e, upd_eq]
    · rw [if_neg e, upd_ne e, if_neg (fun z => nI_ne1 (by omega) ((only x hx (Or.inr z)).1.symm.trans hp))]
  · rw [ajF_8, cn, ck]
    unfold gP
    by_cases e1 : x = j
    · rw [if_pos e1, e1, upd_ne j_k, upd_ne j_n, upd_eq, hp]
    · rw [if_neg e1]
      by_cases e2 : x = k
      · rw [if_pos (Or.inr e2), e2, upd_eq]
      · rw [upd_ne e2]
        by_cases e3 : x = n
        · rw [if_pos (Or.inl e3), e3, upd_eq]
        · rw [if_neg (fun z => z.elim e3 e2), upd_ne e3, upd_ne e1]
end
