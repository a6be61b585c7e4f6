/-! TREES OF THE CLASS: cut, exchange; there and back -/
section
variable {σ τ υ : cw_V} {t s : Nat} {ρ : Nat → Nat}
theorem njm1 : ¬ hJoint σ t (-1) := fun z => absurd z.1 (by decide)
theorem TR.cut (hW : WF σ t s) {n p o : Nat} (hn : nodeN s (σ (t + 6)) n) (p8 : 8 ≤ p) (p15 : p < 15) (hpn : σ (t + 8) n = nI p) (hp : nodeN s (σ (t + 6)) p) (ho : nodeN s (σ (t + 6)) o) (n_o : n ≠ o) (hpo : σ (t + 8) o = nI p) (hch : σ (t + 6) p = nI n ∧ σ (t + 7) p = nI o ∨ σ (t + 6) p = nI o ∧ σ (t + 7) p = nI n) : otF σ t (nI n) = nI o ∧ TR σ (ctF σ t (nI n)) t (cF (σ (t + 6)) p o) (cF (σ (t + 7)) p o) (cP (σ (t + 8)) p n o) := by
  have ln := hW.2.lt hn
  have lo := hW.2.lt ho
  obtain ⟨ρ, hρ⟩ := hW.2.2.2.2.2.2
  have n_p : n ≠ p := fun e => by have := (hρ n hn).2 p p15 hpn; rw [e] at this; omega
  have o_p : o ≠ p := fun e => by have := (hρ o ho).2 p p15 hpo; rw [e] at this; omega
  have only := fun x (hx : x < 15) h => hW.2.only (x := x) (n := p) hx hp h
  have ecl : (nI n).toNatClampNeg = n := nI_clamp (by omega)
  have ecp : (nI p).toNatClampNeg = p := nI_clamp (by omega)
  have eco : (nI o).toNatClampNeg = o := nI_clamp (by omega)
  have eo : otF σ t (nI n) = nI o := by
    unfold otF
    rw [ecl, hpn, ecp]
    rcases hch with ⟨h1, h2⟩ | ⟨h1, h2⟩
    · rw [decide_eq_true h1]; exact h2
    · rw [decide_eq_false (fun z => n_o (nI_inj (by omega) (by omega) (z.symm.trans h1)))]; exact h1
  refine ⟨eo, ?_⟩
  unfold ctF
  rw [ecl, hpn, ecp, eo]
  by_cases hq : σ (t + 8) p = -1
  · rw [hq, rcF_0 njm1, eco]
    refine ⟨fun r r6 r7 r8 => by rw [up_ne r8, up_ne r8, up_ne r7, up_ne r6, up_ne r8], fun x hx => ?_, fun x hx => ?_, fun x hx => ?_⟩
    · rw [up_ne (by omega), up_ne (by omega), up_ne (by omega), up_eq, up_ne (by omega)]
      exact cF_0 (fun x hx z => nI_ne1 (by omega) ((only x hx (Or.inl z)).1.symm.trans hq)) x hx
    · rw [up_ne (by omega), up_ne (by omega), up_eq, up_ne (by omega), up_ne (by omega)]
      exact cF_0 (fun x hx z => nI_ne1 (by omega) ((only x hx (Or.inr z)).1.symm.trans hq)) x hx
    · rw [up_eq, up_eq, up_ne (by omega), up_ne (by omega), up_eq]
      exact cP_c o_p n_o.symm n_p hq.symm x
  · obtain ⟨q, q1, q2, q3, q4, q5, q6⟩ := hW.2.up hp hq
    have q_p : q ≠ p := fun e => by have := (hρ p hp).2 q q2 q3; rw [e] at this; omega
    obtain ⟨a, b, ea, eb, na, nb, nab, pa_a, pa_b⟩ := hW.2.dn q1 q2 q4
    have la := hW.2.lt na
    have lb := hW.2.lt nb
    have onlyq : ∀ x, x < 15 → (σ (t + 6) x = nI p ∨ σ (t + 7) x = nI p) → x = q := fun x hx h => nI_inj (by omega) (by omega) ((only x hx h).1.symm.trans q3)
    have ecq : (nI q).toNatClampNeg = q := nI_clamp (by omega)
    have hjq : hJoint σ t (nI q) := (hJoint_nI q1 q2).mpr q4
    rw [q3]
    by_cases e : σ (t + 6) q = nI p
    · have hrt : σ (t + 7) q ≠ nI p := fun z => nab (nI_inj (by omega) (by omega) (ea.symm.trans (e.trans (z.symm.trans eb))))
      rw [rcF_l hjq (by rw [ecq]; exact e), ecq, eco]
      refine ⟨fun r r6 r7 r8 => by rw [up_ne r8, up_ne r8, up_ne r7, up_ne r6, up_ne r6, up_ne r8], fun x hx => ?_, fun x hx => ?_, fun x hx => ?_⟩
      · rw [up_ne (by omega), up_ne (by omega), up_ne (by omega), up_eq, up_eq, up_ne (by omega)]
        exact cF_1 e q_p (fun x hx z => onlyq x hx (Or.inl z)) x hx
      · rw [up_ne (by omega), up_ne (by omega), up_eq, up_ne (by omega), up_ne (by omega), up_ne (by omega)]
        exact cF_0 (fun x hx z => hrt (onlyq x hx (Or.inr z) ▸ z)) x hx
      · rw [up_eq, up_eq, up_ne (by omega), up_ne (by omega), up_ne (by omega), up_eq]
        exact cP_c o_p n_o.symm n_p q3.symm x
    · have er : σ (t + 7) q = nI p := q6.resolve_left e
      rw [rcF_r hjq (by rw [ecq]; exact e), ecq, eco]
      refine ⟨fun r r6 r7 r8 => by rw [up_ne r8, up_ne r8, up_ne r7, up_ne r6, up_ne r7, up_ne r8], fun x hx => ?_, fun x hx => ?_, fun x hx => ?_⟩
      · rw [up_ne (by omega), up_ne (by omega), up_ne (by omega), up_eq, up_ne (by omega), up_ne (by omega)]
        exact cF_0 (fun x hx z => e (onlyq x hx (Or.inl z) ▸ z)) x hx
      · rw [up_ne (by omega), up_ne (by omega), up_eq, up_ne (by omega), up_eq, up_ne (by omega)]
        exact cF_1 er q_p (fun x hx z => onlyq x hx (Or.inr z)) x hx
      · rw [up_eq, up_eq, up_ne (by omega), up_ne (by omega), up_ne (by omega), up_eq]
        exact cP_c o_p n_o.symm n_p q3.symm x
/-- two nodes of this tree can be exchanged -/
def cET (σ : cw_V) (t s : Nat) (ρ : Nat → Nat) (a b : Nat) : Prop := σ (t + 8) a ≠ -1 ∧ σ (t + 8) b ≠ -1 ∧ σ (t + 8) a ≠ σ (t + 8) b ∧ ¬ Inr (σ (t + 8)) ρ a b ∧ ¬ Inr (σ (t + 8)) ρ b a
theorem TR.exch0 (hW : WF σ t s) {a b : Nat} (ha : nodeN s (σ (t + 6)) a) (hb : nodeN s (σ (t + 6)) b) (hc : σ (t + 8) a ≠ -1 ∧ σ (t + 8) b ≠ -1 ∧ σ (t + 8) a ≠ σ (t + 8) b ∧ True) : TR σ (rcF (rcF σ t (pof σ t (nI a)) (nI a) (nI b)) t (pof σ t (nI b)) (nI b) (nI a)) t (xF (σ (t + 6)) a b) (xF (σ (t + 7)) a b) (xP (σ (t + 8)) a b) := by
  have la := hW.2.lt ha
  have lb := hW.2.lt hb
  have a_b : a ≠ b := fun e => hc.2.2.1 (by rw [e])
  obtain ⟨p, a', p8, p15, p1, p2, p3, na', n_a', pa', hpc⟩ := hW.2.sib ha hc.1
  obtain ⟨q, b', q8, q15, q1, q2, q3, nb', n_b', qb', hqc⟩ := hW.2.sib hb hc.2.1
  have la' := hW.2.lt na'
  have lb' := hW.2.lt nb'
  have p_q : p ≠ q := fun e => hc.2.2.1 (by rw [p1, q1, e])
  have oa : ∀ x, x < 15 → (σ (t + 6) x = nI a ∨ σ (t + 7) x = nI a) → x = p := fun x hx h => nI_inj (by omega) (by omega) ((hW.2.only hx ha h).1.symm.trans p1)
  have ob : ∀ x, x < 15 → (σ (t + 6) x = nI b ∨ σ (t + 7) x = nI b) → x = q := fun x hx h => nI_inj (by omega) (by omega) ((hW.2.only hx hb h).1.symm.trans q1)
  have iab : nI a ≠ nI b := fun z => a_b (nI_inj (by omega) (by omega) z)
  have iaa : nI a' ≠ nI a := fun z => n_a' (nI_inj (by omega) (by omega) z.symm)
  have ibb : nI b' ≠ nI b := fun z => n_b' (nI_inj (by omega) (by omega) z.symm)
  have ecp : (nI p).toNatClampNeg = p := nI_clamp (by omega)
  have ecq : (nI q).toNatClampNeg = q := nI_clamp (by omega)
  have eca : (nI a).toNatClampNeg = a := nI_clamp (by omega)
  have ecb : (nI b).toNatClampNeg = b := nI_clamp (by omega)
  have hjp : hJoint σ t (nI p) := (hJoint_nI p8 p15).mpr p2
  rw [(pof_n hW ha).trans p1, (pof_n hW hb).trans q1]
  rcases hpc with ⟨u1, u2⟩ | ⟨u1, u2⟩ <;> rcases hqc with ⟨v1, v2⟩ | ⟨v1, v2⟩
  · rw [rcF_l hjp (by rw [ecp]; exact u1), ecp, ecb]
    have e6 : (cw_up (cw_up σ (t + 8) b (nI p)) (t + 6) p (nI b)) (t + 6) q = σ (t + 6) q := by rw [up_eq, upd_ne (Ne.symm p_q), up_ne (by omega)]
    have hjq : hJoint (cw_up (cw_up σ (t + 8) b (nI p)) (t + 6) p (nI b)) t (nI q) := (hJoint_nI q8 q15).mpr (by rw [e6]; exact q2)
    rw [rcF_l hjq (by rw [ecq, e6]; exact v1), ecq, eca]
    refine ⟨fun r r6 r7 r8 => by rw [up_ne r6, up_ne r8, up_ne r6, up_ne r8], fun x hx => ?_, fun x hx => ?_, fun x hx => ?_⟩
    · rw [up_eq, up_ne (by omega), up_eq, up_ne (by omega)]
      exact xF_ab u1 v1 p_q iab (fun x hx z => oa x hx (Or.inl z)) (fun x hx z => ob x hx (Or.inl z)) x hx
    · rw [up_ne (by omega), up_ne (by omega), up_ne (by omega), up_ne (by omega)]
      exact xF_0 (fun x hx z => by have := oa x hx (Or.inr z); subst this; exact iaa (u2.symm.trans z)) (fun x hx z => by have := ob x hx (Or.inr z); subst this; exact ibb (v2.symm.trans z)) x hx
    · rw [up_ne (by omega), up_eq, up_ne (by omega), up_eq]
      exact xP_c q1.symm p1.symm a_b x
  · rw [rcF_l hjp (by rw [ecp]; exact u1), ecp, ecb]
    have e6 : (cw_up (cw_up σ (t + 8) b (nI p)) (t + 6) p (nI b)) (t + 6) q = σ (t + 6) q := by rw [up_eq, upd_ne (Ne.symm p_q), up_ne (by omega)]
    have hjq : hJoint (cw_up (cw_up σ (t + 8) b (nI p)) (t + 6) p (nI b)) t (nI q) := (hJoint_nI q8 q15).mpr (by rw [e6]; exact q2)
    rw [rcF_r hjq (by rw [ecq, e6]; rw [v1]; exact ibb), ecq, eca]
    refine ⟨fun r r6 r7 r8 => by rw [up_ne r7, up_ne r8, up_ne r6, up_ne r8], fun x hx => ?_, fun x hx => ?_, fun x hx => ?_⟩
    · rw [up_ne (by omega), up_ne (by omega), up_eq, up_ne (by omega)]
      exact xF_a u1 (fun x hx z => oa x hx (Or.inl z)) (fun x hx z => by have := ob x hx (Or.inl z); subst this; exact ibb (v1.symm.trans z)) x hx
    · rw [up_eq, up_ne (by omega), up_ne (by omega), up_ne (by omega)]
      exact xF_b v2 (fun x hx z => by have := oa x hx (Or.inr z); subst this; exact iaa (u2.symm.trans z)) (fun x hx z => ob x hx (Or.inr z)) x hx
    · rw [up_ne (by omega), up_eq, up_ne (by omega), up_eq]
      exact xP_c q1.symm p1.symm a_b x
  · rw [rcF_r hjp (by rw [ecp]; rw [u1]; exact iaa), ecp, ecb]
    have e6 : (cw_up (cw_up σ (t + 8) b (nI p)) (t + 7) p (nI b)) (t + 6) q = σ (t + 6) q := by rw [up_ne (by omega), up_ne (by omega)]
    have hjq : hJoint (cw_up (cw_up σ (t + 8) b (nI p)) (t + 7) p (nI b)) t (nI q) := (hJoint_nI q8 q15).mpr (by rw [e6]; exact q2)
    rw [rcF_l hjq (by rw [ecq, e6]; exact v1), ecq, eca]
    refine ⟨fun r r6 r7 r8 => by rw [up_ne r6, up_ne r8, up_ne r7, up_ne r8], fun x hx => ?_, fun x hx => ?_, fun x hx => ?_⟩
    · rw [up_eq, up_ne (by omega), up_ne (by omega), up_ne (by omega)]
      exact xF_b v1 (fun x hx z => by have := oa x hx (Or.inl z); subst this; exact iaa (u1.symm.trans z)) (fun x hx z => ob x hx (Or.inl z)) x hx
    · rw [up_ne (by omega), up_ne (by omega), up_eq, up_ne (by omega)]
      exact xF_a u2 (fun x hx z => oa x hx (Or.inr z)) (fun x hx z => by have := ob x hx (Or.inr z); subst this; exact ibb (v2.symm.trans z)) x hx
    · rw [up_ne (by omega), up_eq, up_ne (by omega), up_eq]
      exact xP_c q1.symm p1.symm a_b x
  · rw [rcF_r hjp (by rw [ecp]; rw [u1]; exact iaa), ecp, ecb]
    have e6 : (cw_up (cw_up σ (t + 8) b (nI p)) (t + 7) p (nI b)) (t + 6) q = σ (t + 6) q := by rw [up_ne (by omega), up_ne (by omega)]
    have hjq : hJoint (cw_up (cw_up σ (t + 8) b (nI p)) (t + 7) p (nI b)) t (nI q) := (hJoint_nI q8 q15).mpr (by rw [e6]; exact q2)
    rw [rcF_r hjq (by rw [ecq, e6]; rw [v1]; exact ibb), ecq, eca]
    refine ⟨fun r r6 r7 r8 => by rw [up_ne r7, up_ne r8, up_ne r7, up_ne r8], fun x hx => ?_, fun x hx => ?_, fun x hx => ?_⟩
    · rw [up_ne (by omega), up_ne (by omega), up_ne (by omega), up_ne (by omega)]
      exact xF_0 (fun x hx z => by have := oa x hx (Or.inl z); subst this; exact iaa (u1.symm.trans z)) (fun x hx z => by have := ob x hx (Or.inl z); subst this; exact ibb (v1.symm.trans z)) x hx
    · rw [up_eq, up_ne (by omega), up_eq, up_ne (by omega)]
      exact xF_ab u2 v2 p_q iab (fun x hx z => oa x hx (Or.inr z)) (fun x hx z => ob x hx (Or.inr z)) x hx
    · rw [up_ne (by omega), up_eq, up_ne (by omega), up_eq]
      exact xP_c q1.symm p1.symm a_b x
theorem TR.exch (hW : WF σ t s) {a b : Nat} (ha : nodeN s (σ (t + 6)) a) (hb : nodeN s (σ (t + 6)) b) (hc : cET σ t s ρ a b) : TR σ (rcF (rcF σ t (pof σ t (nI a)) (nI a) (nI b)) t (pof σ t (nI b)) (nI b) (nI a)) t (xF (σ (t + 6)) a b) (xF (σ (t + 7)) a b) (xP (σ (t + 8)) a b) := TR.exch0 hW ha hb ⟨hc.1, hc.2.1, hc.2.2.1, trivial⟩
theorem gt_tr {f g h : Nat → Int32} (hG : GT σ 1 s) (hT : TR σ τ 1 f g h) (hW : WFt s f g h) : GT τ 1 s := by
  have e : ∀ i, i ≤ 5 → τ (1 + i) = σ (1 + i) := fun i hi => hT.1 _ (by omega) (by omega) (by omega)
  have e0 : τ 1 = σ 1 := e 0 (by decide)
  refine ⟨hT.wf hG.1.1 hW, ?_, ?_⟩
  · unfold VR
    rw [e 1 (by decide), e 2 (by decide), e 3 (by decide), e 4 (by decide), e0]
    exact hG.2.1
  · rw [e 5 (by decide)]; exact hG.2.2
/-- the same change of both trees -/
theorem te_tr {f g h f' g' h' : Nat → Int32} (te : TE (mv σ) 1 υ 1) (hM : MTR σ τ f g h) {υ2 : cw_V} (hT : TR υ υ2 1 f' g' h') (e1 : ∀ x, x < 15 → f x = f' x) (e2 : ∀ x, x < 15 → g x = g' x) (e3 : ∀ x, x < 15 → h x = h' x) : TE (mv τ) 1 υ2 1 := by
  have q : ∀ p, p < 6 → υ2 (1 + p) = υ (1 + p) := fun p hp => hT.1 _ (by omega) (by omega) (by omega)
  have q0 : υ2 1 = υ 1 := q 0 (by decide)
  have m0 : τ 146 = σ 146 := hM.1 146 (by omega)
  have m8 : τ 148 = σ 148 := hM.1 148 (by omega)
  have m9 : τ 149 = σ 149 := hM.1 149 (by omega)
  refine te_mk (fun j hj => ?_) (fun j hj => ?_) (fun j hj => ?_) (fun j hj => ?_) (fun j hj => ?_) (fun j hj => ?_) (fun j hj => ?_) (fun j hj => ?_) ?_ ?_ ?_ ?_
  · rw [q 1 (by decide)]
    show τ 148 (4 * j) = _
    rw [m8]; exact te.lo (i := 1) (by decide) (by decide) hj
  · rw [q 2 (by decide)]
    show τ 148 (4 * j + 1) = _
    rw [m8]; exact te.lo (i := 2) (by decide) (by decide) hj
  · rw [q 3 (by decide)]
    show τ 148 (4 * j + 2) = _
    rw [m8]; exact te.lo (i := 3) (by decide) (by decide) hj
  · rw [q 4 (by decide)]
    show τ 148 (4 * j + 3) = _
    rw [m8]; exact te.lo (i := 4) (by decide) (by decide) hj
  · rw [q 5 (by decide)]
    show τ 149 j = _
    rw [m9]; exact te.lo (i := 5) (by decide) (by decide) hj
  · show τ 151 j = _
    rw [hM.2.1 j hj, hT.2.1 j hj, e1 j hj]
  · show τ 152 j = _
    rw [hM.2.2.1 j hj, hT.2.2.1 j hj, e2 j hj]
  · show τ 153 j = _
    rw [hM.2.2.2 j hj, hT.2.2.2 j hj, e3 j hj]
  · rw [q0]; show τ 146 1 = _; rw [m0]; exact te.e8
  · rw [q0]; show τ 146 3 = _; rw [m0]; exact te.e9
  · rw [q0]; show τ 146 4 = _; rw [m0]; exact te.2.2 10 (by decide) (by decide)
  · rw [q0]; show τ 146 5 = _; rw [m0]; exact te.2.2 11 (by decide) (by decide)
end
section
variable {f f' g g' h h' : Nat → Int32} {j n k p o a b x : Nat}
theorem gL_cg (e : f x = f' x) : gL f j n x = gL f' j n x := by unfold gL; rw [e]
theorem gR_cg (e : f x = f' x) : gR f j n k x = gR f' j n k x := by unfold gR; rw [e]
theorem gP_cg (e : f x = f' x) (en : f n = f' n) : gP f j n k x = gP f' j n k x := by unfold gP; rw [e, en]
theorem cF_cg (e : f x = f' x) : cF f p o x = cF f' p o x := by unfold cF; rw [e]
theorem cP_cg (e : f x = f' x) (ep : f p = f' p) : cP f p n o x = cP f' p n o x := by unfold cP; rw [e, ep]
theorem xF_cg (e : f x = f' x) : xF f a b x = xF f' a b x := by unfold xF; rw [e]
theorem xP_cg (e : f x = f' x) (ea : f a = f' a) (eb : f b = f' b) : xP f a b x = xP f' a b x := by unfold xP; rw [e, ea, eb]
theorem isF_cg (e : ∀ x, x < 15 → f x = f' x) (hj : isF f j) : isF f' j := by
  refine ⟨hj.1, (e j hj.1.2).symm.trans hj.2.1, fun i h1 h2 => ?_⟩
  rw [← e i (by have := hj.1.2; omega)]
  exact hj.2.2 i h1 h2
theorem xF_inv (hab : nI a ≠ nI b) : xF (xF f a b) a b x = f x := by
  unfold xF
  by_cases h1 : f x = nI a
  · rw [if_pos h1, if_neg hab.symm, if_pos rfl, h1]
  · rw [if_neg h1]
    by_cases h2 : f x = nI b
    · rw [if_pos h2, if_pos rfl, h2]
    · rw [if_neg h2, if_neg h1, if_neg h2]
theorem xP_inv (hab : a ≠ b) : xP (xP f a b) a b x = f x := by
  unfold xP
  by_cases h1 : x = a
  · subst h1
    rw [if_pos rfl, if_neg hab.symm, if_pos rfl]
  · rw [if_neg h1]
    by_cases h2 : x = b
    · subst h2
      rw [if_pos rfl, if_pos rfl]
    · rw [if_neg h2, if_neg h1, if_neg h2]
theorem gL_inv (hj : f j = -1) (hx : f x ≠ nI j) : cF (gL f j n) j n x = f x := by
  unfold cF gL
  by_cases h1 : x = j
  · rw [if_pos h1, h1, hj]
  · rw [if_neg h1, if_neg h1]
    by_cases h2 : f x = nI n
    · rw [if_pos h2, if_pos rfl, h2]
    · rw [if_neg h2, if_neg hx]
theorem gR_inv (hj : f j = -1) (hx : f x ≠ nI j) : cF (gR f j n k) j n x = f x := by
  unfold cF gR
  by_cases h1 : x = j
  · rw [if_pos h1, h1, hj]
  · rw [if_neg h1, if_neg h1]
    by_cases h2 : f x = nI n
    · rw [if_pos h2, if_pos rfl, h2]
    · rw [if_neg h2, if_neg hx]
theorem gP_inv (hj : f j = -1) (hk : f k = -1) (jn : j ≠ n) (nk : n ≠ k) : cP (gP f j n k) j k n x = f x := by
  unfold cP gP
  by_cases h1 : x = j ∨ x = k
  · rw [if_pos h1]
    rcases h1 with rfl | rfl
    · exact hj.symm
    · exact hk.symm
  · rw [if_neg h1]
    by_cases h2 : x = n
    · rw [if_pos h2, if_pos rfl, h2]
    · rw [if_neg h2, if_neg (fun z => h1 (Or.inl z)), if_neg (fun z => z.elim h2 (fun w => h1 (Or.inr w)))]
end
section
variable {d t s : Nat} {σ : cw_V} {lam : Nat → Int64} {Q : cw_Q} {ρ : Nat → Nat}
theorem z_graftT (ht : isT t) (hW : WF σ t s) {j n k : Nat} (hj : isF (σ (t + 6)) j) (hn : nodeN s (σ (t + 6)) n) (hk : nodeN s (σ (t + 6)) k) (hnk : n ≠ k) (kk : ∀ τ, TR σ τ t (gL (σ (t + 6)) j n) (gR (σ (t + 7)) j n k) (gP (σ (t + 8)) j n k) → Q (some (.int (nI j))) (cw_B τ lam)) : cw_Z (d + 4) m_Tree_graft [.ref t, .int (nI k), .int (nI n)] (cw_B σ lam) Q := z_graft ht hj (hW.node hk) (hW.node hn) (kk _ (TR.graft hW hj hn hk hnk))
theorem z_addT (ht : isT t) (hW : WF σ t s) {j n k : Nat} (hj : isF (σ (t + 6)) j) (hn : nodeN s (σ (t + 6)) n) (hk : nodeN s (σ (t + 6)) k) (hnk : n ≠ k) (hp : σ (t + 8) n = -1) (kk : ∀ τ, TR σ τ t (gL (σ (t + 6)) j n) (gR (σ (t + 7)) j n k) (gP (σ (t + 8)) j n k) → Q (some (.int (nI j))) (cw_B τ lam)) : cw_Z (d + 3) m_Tree_addJoint [.ref t, .int (nI n), .int (nI k)] (cw_B σ lam) Q := z_addJoint ht hj (hW.node hn) (hW.node hk) (kk _ (TR.join hW hj hn hk hnk hp))
theorem z_cutT (ht : isT t) (hW : WF σ t s) {n p o : Nat} (hn : nodeN s (σ (t + 6)) n) (p8 : 8 ≤ p) (p15 : p < 15) (hpn : σ (t + 8) n = nI p) (hp : nodeN s (σ (t + 6)) p) (ho : nodeN s (σ (t + 6)) o) (n_o : n ≠ o) (hpo : σ (t + 8) o = nI p) (hch : σ (t + 6) p = nI n ∧ σ (t + 7) p = nI o ∨ σ (t + 6) p = nI o ∧ σ (t + 7) p = nI n) (kk : ∀ τ, TR σ τ t (cF (σ (t + 6)) p o) (cF (σ (t + 7)) p o) (cP (σ (t + 8)) p n o) → Q (some (.int (nI p))) (cw_B τ lam)) : cw_Z (d + 3) m_Tree_cut [.ref t, .int (nI n)] (cw_B σ lam) Q := by
  have ln := hW.2.lt hn
  obtain ⟨e1, e2⟩ := TR.cut hW hn p8 p15 hpn hp ho n_o hpo hch
  have ecl : σ (t + 8) (nI n).toNatClampNeg = nI p := by rw [nI_clamp (by omega)]; exact hpn
  have hl : σ (t + 6) p ≠ -1 := by
    rcases hp with z | z
    · have := hW.2.1; omega
    · exact z.2.2
  refine z_cut ht (hW.node hn) (by rw [ecl]; exact (hJoint_nI p8 p15).mpr hl) (by rw [e1]; exact hW.node ho) ?_
  rw [ecl]
  exact kk _ e2
theorem z_exchT (ht : isT t) (hW : WF σ t s) {a b : Nat} (ha : nodeN s (σ (t + 6)) a) (hb : nodeN s (σ (t + 6)) b) (hc : cET σ t s ρ a b) (kk : ∀ τ, TR σ τ t (xF (σ (t + 6)) a b) (xF (σ (t + 7)) a b) (xP (σ (t + 8)) a b) → Q none (cw_B τ lam)) : cw_Z (d + 3) m_Tree_exchange [.ref t, .int (nI a), .int (nI b)] (cw_B σ lam) Q := z_exchange ht (hW.node ha) (hW.node hb) (kk _ (TR.exch hW ha hb hc))
theorem z_exchT0 (ht : isT t) (hW : WF σ t s) {a b : Nat} (ha : nodeN s (σ (t + 6)) a) (hb : nodeN s (σ (t + 6)) b) (h1 : σ (t + 8) a ≠ -1) (h2 : σ (t + 8) b ≠ -1) (h3 : σ (t + 8) a ≠ σ (t + 8) b) (kk : ∀ τ, TR σ τ t (xF (σ (t + 6)) a b) (xF (σ (t + 7)) a b) (xP (σ (t + 8)) a b) → Q none (cw_B τ lam)) : cw_Z (d + 3) m_Tree_exchange [.ref t, .int (nI a), .int (nI b)] (cw_B σ lam) Q := z_exchange ht (hW.node ha) (hW.node hb) (kk _ (TR.exch0 hW ha hb ⟨h1, h2, h3, trivial⟩))
/-- what can be grafted, exchanged -/
theorem cGr_iff (hW : WF σ t s) (hρ : Dep s (σ (t + 6)) (σ (t + 8)) ρ) {k n : Nat} (hk : k < 15) (hn : n < 15) : cGr σ t (nI k) (nI n) ↔ (nodeN s (σ (t + 6)) k ∧ σ (t + 8) k = -1) ∧ nodeN s (σ (t + 6)) n ∧ ¬ Inr (σ (t + 8)) ρ n k := by
  unfold cGr
  rw [hW.top hk]
  have hnn : hNode σ t (nI n) ↔ nodeN s (σ (t + 6)) n := by
    rw [hNode_N hW.1 hW.2.1]
    exact ⟨fun ⟨m, h1, h2, h3⟩ => (nI_inj (by omega) (by omega) h2) ▸ h3, fun h => ⟨n, hn, rfl, h⟩⟩
  rw [hnn]
  constructor
  · rintro ⟨h1, h2, h3⟩
    exact ⟨h1, h2, fun z => h3 ((wi_in hW hρ hk h2).mpr z)⟩
  · rintro ⟨h1, h2, h3⟩
    exact ⟨h1, h2, fun z => h3 ((wi_in hW hρ hk h2).mp z)⟩
theorem cEx_iff (hW : WF σ t s) (hρ : Dep s (σ (t + 6)) (σ (t + 8)) ρ) {a b : Nat} (ha : a < 15) (hb : b < 15) : cEx σ t (nI a) (nI b) ↔ nodeN s (σ (t + 6)) a ∧ nodeN s (σ (t + 6)) b ∧ cET σ t s ρ a b := by
  have hnn : ∀ n, n < 15 → (hNode σ t (nI n) ↔ nodeN s (σ (t + 6)) n) := fun n hn => by
    rw [hNode_N hW.1 hW.2.1]
    exact ⟨fun ⟨m, h1, h2, h3⟩ => (nI_inj (by omega) (by omega) h2) ▸ h3, fun h => ⟨n, hn, rfl, h⟩⟩
  have npof : ∀ n, n < 15 → pof σ t (nI n) ≠ -1 → nodeN s (σ (t + 6)) n := fun n hn h => by
    rcases Classical.em (hNode σ t (nI n)) with z | z
    · exact (hnn n hn).mp z
    · exact absurd (pof_0 z) h
  unfold cEx cET
  constructor
  · rintro ⟨h1, h2, h3, h4, h5⟩
    have na := npof a ha h1
    have nb := npof b hb h2
    rw [pof_n hW na] at h1 h3
    rw [pof_n hW nb] at h2 h3
    exact ⟨na, nb, h1, h2, h3, fun z => h4 ((wi_in hW hρ hb na).mpr z), fun z => h5 ((wi_in hW hρ ha nb).mpr z)⟩
  · rintro ⟨na, nb, h1, h2, h3, h4, h5⟩
    rw [pof_n hW na, pof_n hW nb]
    exact ⟨h1, h2, h3, fun z => h4 ((wi_in hW hρ hb na).mp z), fun z => h5 ((wi_in hW hρ ha nb).mp z)⟩
end
