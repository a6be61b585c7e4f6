/-! THE MODEL'S TREE: cut, exchange, no joints, laid aside -/
theorem WFt.sib {s : Nat} {lf rt pa : Nat → Int32} (hW : WFt s lf rt pa) {n : Nat} (hn : nodeN s lf n) (hp : pa n ≠ -1) : ∃ p o, 8 ≤ p ∧ p < 15 ∧ pa n = nI p ∧ lf p ≠ -1 ∧ nodeN s lf p ∧ nodeN s lf o ∧ n ≠ o ∧ pa o = nI p ∧ (lf p = nI n ∧ rt p = nI o ∨ lf p = nI o ∧ rt p = nI n) := by
  obtain ⟨p, p8, p15, p1, p2, p3, p4⟩ := hW.up hn hp
  obtain ⟨a, b, ea, eb, na, nb, nab, pa_a, pa_b⟩ := hW.dn p8 p15 p2
  have la := hW.lt na
  have lb := hW.lt nb
  have ln := hW.lt hn
  rcases p4 with q | q
  · obtain rfl : a = n := nI_inj (by omega) (by omega) (ea.symm.trans q)
    exact ⟨p, b, p8, p15, p1, p2, p3, nb, nab, pa_b, Or.inl ⟨q, eb⟩⟩
  · obtain rfl : b = n := nI_inj (by omega) (by omega) (eb.symm.trans q)
    exact ⟨p, a, p8, p15, p1, p2, p3, na, nab.symm, pa_a, Or.inr ⟨ea, q⟩⟩
section
variable {d s : Nat} {σ : cw_V} {lam : Nat → Int64} {Q : cw_Q} {ρ : Nat → Nat}
theorem z_takesOff (hM : MW σ s) {n p o : Nat} (hn : nodeN s (σ 151) n) (p8 : 8 ≤ p) (p15 : p < 15) (hpn : σ 153 n = nI p) (hp : nodeN s (σ 151) p) (ho : nodeN s (σ 151) o) (n_o : n ≠ o) (hpo : σ 153 o = nI p) (hch : σ 151 p = nI n ∧ σ 152 p = nI o ∨ σ 151 p = nI o ∧ σ 152 p = nI n) (kk : ∀ τ, MW τ s → MTR σ τ (cF (σ 151) p o) (cF (σ 152) p o) (cP (σ 153) p n o) → Q (some (.int (nI p))) (cw_B τ lam)) : cw_Z (d + 2) m_Mo_takesOff [.ref 146, .int (nI n)] (cw_B σ lam) Q := by
  have hW := hM.2.1
  have hW' := hW.cut hn ho n_o p8 p15 hpn hpo
  have ln := hW.lt hn
  have lo := hW.lt ho
  obtain ⟨ρ, hρ⟩ := hW.2.2.2.2.2
  have n_p : n ≠ p := fun e => by have := (hρ n hn).2 p p15 hpn; rw [e] at this; omega
  have o_p : o ≠ p := fun e => by have := (hρ o ho).2 p p15 hpo; rw [e] at this; omega
  have only := fun x (hx : x < 15) h => hW.only (x := x) (n := p) hx hp h
  have fin : ∀ τ, MTR σ τ (cF (σ 151) p o) (cF (σ 152) p o) (cP (σ 153) p n o) → τ 150 = upd (σ 150) p 0 → Q (some (.int (nI p))) (cw_B τ lam) := by
    intro τ hT h150
    refine kk τ (hT.mw hM.1 hW' (fun x hx => ?_)) hT
    rw [nodeN_c lo p8 p15 hW.1, h150]
    have := hM.2.2 x hx
    unfold upd
    grind
  refine zi (L := [some (.ref 146), some (.int (nI n)), none, none]) rfl rfl (fun K hK => ?_)
  have key : K 33 [some (.ref 146), some (.int (nI n)), some (.int (nI p)), some (.int (nI o))] [] (cw_B σ lam) := by
    by_cases hq : σ 153 p = -1
    · skip
      refine st_go hK rfl rfl ?_
      refine st_go hK rfl rfl ?_
      refine st_go hK rfl rfl ?_
      refine cv2 hK rfl qc_146 (Nat.le_of_ble_eq_true rfl) ?_
      refine z_repl0 p15 lo hq ?_
      change K _ _ _ _
      refine st_go hK rfl rfl ?_
      refine st_getr hK rfl qf_146_11 ?_
      refine st_go hK rfl rfl ?_
      refine st_go hK rfl rfl ?_
      refine sa (e := n) hK rfl qa_153 rfl (by omega) rfl ?_
      refine st_go hK rfl rfl ?_
      refine st_go hK rfl rfl ?_
      refine cv1 hK rfl qc_146 (Nat.le_of_ble_eq_true rfl) ?_
      refine z_goes p15 ?_
      change K _ _ _ _
      refine st_go hK rfl rfl ?_
      refine st_ret hK rfl rfl ?_
      refine fin _ ⟨fun p hp => ?_, cF_0 (fun x hx z => nI_ne1 (by omega) ((only x hx (Or.inl z)).1.symm.trans hq)), cF_0 (fun x hx z => nI_ne1 (by omega) ((only x hx (Or.inr z)).1.symm.trans hq)), fun x _ => cP_m o_p n_o.symm n_p hq.symm x⟩ rfl
      simp only [cw_up]
      rw [if_neg (by omega), if_neg (by omega), if_neg (by omega), if_neg (by omega), if_neg (by omega), if_neg (by omega)]
    · obtain ⟨q, q1, q2, q3, q4, q5, q6⟩ := hW.up hp hq
      have q_p : q ≠ p := fun e => by have := (hρ p hp).2 q q2 q3; rw [e] at this; omega
      have q_o : q ≠ o := fun e => by
        have h1 := (hρ p hp).2 q q2 q3
        have h2 := (hρ o ho).2 p p15 hpo
        rw [e] at h1; omega
      obtain ⟨a, b, ea, eb, na, nb, nab, pa_a, pa_b⟩ := hW.dn q1 q2 q4
      have la := hW.lt na
      have lb := hW.lt nb
      have onlyq : ∀ x, x < 15 → (σ 151 x = nI p ∨ σ 152 x = nI p) → x = q := fun x hx h => nI_inj (by omega) (by omega) ((only x hx h).1.symm.trans q3)
      by_cases e : σ 151 q = nI p
      · have hrt : σ 152 q ≠ nI p := fun z => nab (nI_inj (by omega) (by omega) (ea.symm.trans (e.trans (z.symm.trans eb))))
        refine st_go hK rfl rfl ?_
        refine st_go hK rfl rfl ?_
        refine st_go hK rfl rfl ?_
        refine cv2 hK rfl qc_146 (Nat.le_of_ble_eq_true rfl) ?_
        refine z_repl1 p15 lo q2 q3 (fun _ => ?_) (fun c => absurd e c)
        change K _ _ _ _
        refine st_go hK rfl rfl ?_
        refine st_getr hK rfl qf_146_11 ?_
        refine st_go hK rfl rfl ?_
        refine st_go hK rfl rfl ?_
        refine sa (e := n) hK rfl qa_153 rfl (by omega) rfl ?_
        refine st_go hK rfl rfl ?_
        refine st_go hK rfl rfl ?_
        refine cv1 hK rfl qc_146 (Nat.le_of_ble_eq_true rfl) ?_
        refine z_goes p15 ?_
        change K _ _ _ _
        refine st_go hK rfl rfl ?_
        refine st_ret hK rfl rfl ?_
        refine fin _ ⟨fun p hp => ?_, cF_1 e q_p (fun x hx z => onlyq x hx (Or.inl z)), cF_0 (fun x hx z => hrt (onlyq x hx (Or.inr z) ▸ z)), fun x _ => cP_m o_p n_o.symm n_p q3.symm x⟩ rfl
        simp only [cw_up]
        rw [if_neg (by omega), if_neg (by omega), if_neg (by omega), if_neg (by omega), if_neg (by omega), if_neg (by omega), if_neg (by omega)]
      · have er : σ 152 q = nI p := q6.resolve_left e
        refine st_go hK rfl rfl ?_
        refine st_go hK rfl rfl ?_
        refine st_go hK rfl rfl ?_
        refine cv2 hK rfl qc_146 (Nat.le_of_ble_eq_true rfl) ?_
        refine z_repl1 p15 lo q2 q3 (fun c => absurd c e) (fun _ => ?_)
        change K _ _ _ _
        refine st_go hK rfl rfl ?_
        refine st_getr hK rfl qf_146_11 ?_
        refine st_go hK rfl rfl ?_
        refine st_go hK rfl rfl ?_
        refine sa (e := n) hK rfl qa_153 rfl (by omega) rfl ?_
        refine st_go hK rfl rfl ?_
        refine st_go hK rfl rfl ?_
        refine cv1 hK rfl qc_146 (Nat.le_of_ble_eq_true rfl) ?_
        refine z_goes p15 ?_
        change K _ _ _ _
        refine st_go hK rfl rfl ?_
        refine st_ret hK rfl rfl ?_
        refine fin _ ⟨fun p hp => ?_, cF_0 (fun x hx z => e (onlyq x hx (Or.inl z) ▸ z)), cF_1 er q_p (fun x hx z => onlyq x hx (Or.inr z)), fun x _ => cP_m o_p n_o.symm n_p q3.symm x⟩ rfl
        simp only [cw_up]
        rw [if_neg (by omega), if_neg (by omega), if_neg (by omega), if_neg (by omega), if_neg (by omega), if_neg (by omega), if_neg (by omega)]
  rcases hch with ⟨h1, h2⟩ | ⟨h1, h2⟩
  · skip
    refine st_go hK rfl rfl ?_
    refine st_getr hK rfl qf_146_11 ?_
    refine st_go hK rfl rfl ?_
    refine ga (e := n) (v := nI p) hK rfl qa_153 rfl (by omega) rfl hpn ?_
    refine st_go hK rfl rfl ?_
    change K _ [some (.ref 146), some (.int (nI n)), some (.int (nI p)), _] _ _
    refine st_go hK rfl rfl ?_
    refine st_getr hK rfl qf_146_9 ?_
    refine st_go hK rfl rfl ?_
    refine ga (e := p) (v := nI n) hK rfl qa_151 rfl (by omega) rfl h1 ?_
    refine st_go hK rfl rfl ?_
    refine st_ifn hK rfl rfl (not_congr (nI_eq (a := n) (b := n) (by omega) (by omega))) (fun c => absurd c (fun z => z rfl)) (fun _ => ?_)
    refine st_go hK rfl rfl ?_
    refine st_getr hK rfl qf_146_10 ?_
    refine st_go hK rfl rfl ?_
    refine ga (e := p) (v := nI o) hK rfl qa_152 rfl (by omega) rfl h2 ?_
    refine st_go hK rfl rfl ?_
    refine st_go hK rfl rfl ?_
    change K _ [some (.ref 146), some (.int (nI n)), some (.int (nI p)), some (.int (nI o))] _ _
    exact key
  · skip
    refine st_go hK rfl rfl ?_
    refine st_getr hK rfl qf_146_11 ?_
    refine st_go hK rfl rfl ?_
    refine ga (e := n) (v := nI p) hK rfl qa_153 rfl (by omega) rfl hpn ?_
    refine st_go hK rfl rfl ?_
    change K _ [some (.ref 146), some (.int (nI n)), some (.int (nI p)), _] _ _
    refine st_go hK rfl rfl ?_
    refine st_getr hK rfl qf_146_9 ?_
    refine st_go hK rfl rfl ?_
    refine ga (e := p) (v := nI o) hK rfl qa_151 rfl (by omega) rfl h1 ?_
    refine st_go hK rfl rfl ?_
    refine st_ifn hK rfl rfl (not_congr (nI_eq (a := o) (b := n) (by omega) (by omega))) (fun _ => ?_) (fun c => absurd n_o.symm c)
    refine st_go hK rfl rfl ?_
    refine st_getr hK rfl qf_146_9 ?_
    refine st_go hK rfl rfl ?_
    refine ga (e := p) (v := nI o) hK rfl qa_151 rfl (by omega) rfl h1 ?_
    refine st_go hK rfl rfl ?_
    change K _ [some (.ref 146), some (.int (nI n)), some (.int (nI p)), some (.int (nI o))] _ _
    exact key
/-- two can be exchanged -/
def cEM (σ : cw_V) (ρ : Nat → Nat) (a b : Nat) : Prop := σ 153 a ≠ -1 ∧ σ 153 b ≠ -1 ∧ σ 153 a ≠ σ 153 b ∧ ¬ Inr (σ 153) ρ a b ∧ ¬ Inr (σ 153) ρ b a
theorem z_mcanExchange (hM : MW σ s) {a b : Nat} (hρ : Dep s (σ 151) (σ 153) ρ) (ha : nodeN s (σ 151) a) (hb : nodeN s (σ 151) b) (k1 : cEM σ ρ a b → Q (some (.int 1)) (cw_B σ lam)) (k0 : ¬ cEM σ ρ a b → Q (some (.int 0)) (cw_B σ lam)) : cw_Z (d + 2) m_Mo_canExchange [.ref 146, .int (nI a), .int (nI b)] (cw_B σ lam) Q := by
  have la := hM.2.1.lt ha
  have lb := hM.2.1.lt hb
  refine zi (L := [some (.ref 146), some (.int (nI a)), some (.int (nI b))]) rfl rfl (fun K hK => ?_)
  refine st_go hK rfl rfl ?_
  refine st_getr hK rfl qf_146_11 ?_
  refine st_go hK rfl rfl ?_
  refine ga (e := a) (v := σ 153 a) hK rfl qa_153 rfl (by omega) rfl rfl ?_
  refine st_go hK rfl rfl ?_
  refine st_if hK rfl rfl (fun c7 => ?_) (fun c7 => ?_)
  · refine st_go hK rfl rfl ?_
    refine st_zret hK rfl (Or.inl rfl) ?_
    exact k0 (fun ⟨z1, z2, z3, z4, z5⟩ => by first | exact z1 c7 | exact z2 c17 | exact z3 c32 | exact z4 wa | exact z5 wb)
  · refine st_go hK rfl rfl ?_
    refine st_getr hK rfl qf_146_11 ?_
    refine st_go hK rfl rfl ?_
    refine ga (e := b) (v := σ 153 b) hK rfl qa_153 rfl (by omega) rfl rfl ?_
    refine st_go hK rfl rfl ?_
    refine st_if hK rfl rfl (fun c17 => ?_) (fun c17 => ?_)
    · refine st_go hK rfl rfl ?_
      refine st_zret hK rfl (Or.inl rfl) ?_
      exact k0 (fun ⟨z1, z2, z3, z4, z5⟩ => by first | exact z1 c7 | exact z2 c17 | exact z3 c32 | exact z4 wa | exact z5 wb)
    · refine st_go hK rfl rfl ?_
      refine st_getr hK rfl qf_146_11 ?_
      refine st_go hK rfl rfl ?_
      refine ga (e := a) (v := σ 153 a) hK rfl qa_153 rfl (by omega) rfl rfl ?_
      refine st_go hK rfl rfl ?_
      refine st_getr hK rfl qf_146_11 ?_
      refine st_go hK rfl rfl ?_
      refine ga (e := b) (v := σ 153 b) hK rfl qa_153 rfl (by omega) rfl rfl ?_
      refine st_if hK rfl rfl (fun c32 => ?_) (fun c32 => ?_)
      · refine st_go hK rfl rfl ?_
        refine st_zret hK rfl (Or.inl rfl) ?_
        exact k0 (fun ⟨z1, z2, z3, z4, z5⟩ => by first | exact z1 c7 | exact z2 c17 | exact z3 c32 | exact z4 wa | exact z5 wb)
      · refine st_go hK rfl rfl ?_
        refine st_go hK rfl rfl ?_
        refine st_go hK rfl rfl ?_
        refine cv2 hK rfl qc_146 (Nat.le_of_ble_eq_true rfl) ?_
        refine z_misWithin hM.2.1 hρ ha lb (fun wa => ?_) (fun wa => ?_)
        · change K _ _ (_ :: _) _
          refine st_if hK rfl rfl (fun _ => ?_) (fun c => absurd (by decide) c)
          refine st_go hK rfl rfl ?_
          refine st_zret hK rfl (Or.inl rfl) ?_
          exact k0 (fun ⟨z1, z2, z3, z4, z5⟩ => by first | exact z1 c7 | exact z2 c17 | exact z3 c32 | exact z4 wa | exact z5 wb)
        · change K _ _ (_ :: _) _
          refine st_if hK rfl rfl (fun c => absurd c (by decide)) (fun _ => ?_)
          refine st_go hK rfl rfl ?_
          refine st_go hK rfl rfl ?_
          refine st_go hK rfl rfl ?_
          refine cv2 hK rfl qc_146 (Nat.le_of_ble_eq_true rfl) ?_
          refine z_misWithin hM.2.1 hρ hb la (fun wb => ?_) (fun wb => ?_)
          · change K _ _ (_ :: _) _
            refine st_if hK rfl rfl (fun _ => ?_) (fun c => absurd (by decide) c)
            refine st_go hK rfl rfl ?_
            refine st_zret hK rfl (Or.inl rfl) ?_
            exact k0 (fun ⟨z1, z2, z3, z4, z5⟩ => by first | exact z1 c7 | exact z2 c17 | exact z3 c32 | exact z4 wa | exact z5 wb)
          · change K _ _ (_ :: _) _
            refine st_if hK rfl rfl (fun c => absurd c (by decide)) (fun _ => ?_)
            refine st_go hK rfl rfl ?_
            refine st_go hK rfl rfl ?_
            refine st_zret hK rfl (Or.inr rfl) ?_
            exact k1 ⟨c7, c17, c32, wa, wb⟩
theorem z_swaps (hM : MW σ s) {a b : Nat} (hρ : Dep s (σ 151) (σ 153) ρ) (ha : nodeN s (σ 151) a) (hb : nodeN s (σ 151) b) (hc : cEM σ ρ a b) (kk : ∀ τ, MW τ s → MTR σ τ (xF (σ 151) a b) (xF (σ 152) a b) (xP (σ 153) a b) → Q none (cw_B τ lam)) : cw_Z (d + 1) m_Mo_swaps [.ref 146, .int (nI a), .int (nI b)] (cw_B σ lam) Q := by
  have hW := hM.2.1
  have hW' := hW.exch ha hb hc.1 hc.2.1 hc.2.2.1 hρ hc.2.2.2.1 hc.2.2.2.2
  have la := hW.lt ha
  have lb := hW.lt hb
  have a_b : a ≠ b := fun e => hc.2.2.1 (by rw [e])
  have fin : ∀ τ, MTR σ τ (xF (σ 151) a b) (xF (σ 152) a b) (xP (σ 153) a b) → τ 150 = σ 150 → Q none (cw_B τ lam) := by
    intro τ hT h150
    refine kk τ (hT.mw hM.1 hW' (fun x hx => ?_)) hT
    rw [nodeN_x la lb, h150]
    exact hM.2.2 x hx
  obtain ⟨p, a', p8, p15, p1, p2, p3, na', n_a', pa', hpc⟩ := hW.sib ha hc.1
  obtain ⟨q, b', q8, q15, q1, q2, q3, nb', n_b', qb', hqc⟩ := hW.sib hb hc.2.1
  have la' := hW.lt na'
  have lb' := hW.lt nb'
  have p_q : p ≠ q := fun e => hc.2.2.1 (by rw [p1, q1, e])
  have oa : ∀ x, x < 15 → (σ 151 x = nI a ∨ σ 152 x = nI a) → x = p := fun x hx h => nI_inj (by omega) (by omega) ((hW.only hx ha h).1.symm.trans p1)
  have ob : ∀ x, x < 15 → (σ 151 x = nI b ∨ σ 152 x = nI b) → x = q := fun x hx h => nI_inj (by omega) (by omega) ((hW.only hx hb h).1.symm.trans q1)
  have iab : nI a ≠ nI b := fun z => a_b (nI_inj (by omega) (by omega) z)
  have iaa : nI a' ≠ nI a := fun z => n_a' (nI_inj (by omega) (by omega) z.symm)
  have ibb : nI b' ≠ nI b := fun z => n_b' (nI_inj (by omega) (by omega) z.symm)
  refine zi (L := [some (.ref 146), some (.int (nI a)), some (.int (nI b)), none, none, none, none]) rfl rfl (fun K hK => ?_)
  rcases hpc with ⟨u1, u2⟩ | ⟨u1, u2⟩ <;> rcases hqc with ⟨v1, v2⟩ | ⟨v1, v2⟩
  · skip
    refine st_go hK rfl rfl ?_
    refine st_getr hK rfl qf_146_11 ?_
    refine st_go hK rfl rfl ?_
    refine ga (e := a) (v := nI p) hK rfl qa_153 rfl (by omega) rfl p1 ?_
    refine st_go hK rfl rfl ?_
    change K _ [some (.ref 146), some (.int (nI a)), some (.int (nI b)), some (.int (nI p)), _, _, _] _ _
    refine st_go hK rfl rfl ?_
    refine st_getr hK rfl qf_146_11 ?_
    refine st_go hK rfl rfl ?_
    refine ga (e := b) (v := nI q) hK rfl qa_153 rfl (by omega) rfl q1 ?_
    refine st_go hK rfl rfl ?_
    change K _ [some (.ref 146), some (.int (nI a)), some (.int (nI b)), some (.int (nI p)), some (.int (nI q)), _, _] _ _
    refine st_go hK rfl rfl ?_
    refine st_getr hK rfl qf_146_9 ?_
    refine st_go hK rfl rfl ?_
    refine ga (e := p) (v := nI a) hK rfl qa_151 rfl (by omega) rfl u1 ?_
    refine st_go hK rfl rfl ?_
    refine st_ifn hK rfl rfl (not_congr (nI_eq (a := a) (b := a) (by omega) (by omega))) (fun c => absurd c (fun z => z rfl)) (fun _ => ?_)
    refine st_go hK rfl rfl ?_
    refine st_go hK rfl rfl ?_
    refine st_go hK rfl rfl ?_
    change K _ [some (.ref 146), some (.int (nI a)), some (.int (nI b)), some (.int (nI p)), some (.int (nI q)), some (.int (1 : Int32)), _] _ _
    refine st_go hK rfl rfl ?_
    refine st_getr hK rfl qf_146_9 ?_
    refine st_go hK rfl rfl ?_
    refine ga (e := q) (v := nI b) hK rfl qa_151 rfl (by omega) rfl v1 ?_
    refine st_go hK rfl rfl ?_
    refine st_ifn hK rfl rfl (not_congr (nI_eq (a := b) (b := b) (by omega) (by omega))) (fun c => absurd c (fun z => z rfl)) (fun _ => ?_)
    refine st_go hK rfl rfl ?_
    refine st_go hK rfl rfl ?_
    refine st_go hK rfl rfl ?_
    change K _ [some (.ref 146), some (.int (nI a)), some (.int (nI b)), some (.int (nI p)), some (.int (nI q)), some (.int (1 : Int32)), some (.int (1 : Int32))] _ _
    refine st_go hK rfl rfl ?_
    refine st_if hK rfl rfl (fun c => absurd c (by decide)) (fun _ => ?_)
    refine st_go hK rfl rfl ?_
    refine st_getr hK rfl qf_146_9 ?_
    refine st_go hK rfl rfl ?_
    refine st_go hK rfl rfl ?_
    refine sa (e := p) hK rfl qa_151 rfl (by omega) rfl ?_
    refine st_go hK rfl rfl ?_
    refine st_go hK rfl rfl ?_
    refine st_if hK rfl rfl (fun c => absurd c (by decide)) (fun _ => ?_)
    refine st_go hK rfl rfl ?_
    refine st_getr hK rfl qf_146_9 ?_
    refine st_go hK rfl rfl ?_
    refine st_go hK rfl rfl ?_
    refine sa (e := q) hK rfl qa_151 rfl (by omega) rfl ?_
    refine st_go hK rfl rfl ?_
    refine st_go hK rfl rfl ?_
    refine st_getr hK rfl qf_146_11 ?_
    refine st_go hK rfl rfl ?_
    refine st_go hK rfl rfl ?_
    refine sa (e := a) hK rfl qa_153 rfl (by omega) rfl ?_
    refine st_go hK rfl rfl ?_
    refine st_getr hK rfl qf_146_11 ?_
    refine st_go hK rfl rfl ?_
    refine st_go hK rfl rfl ?_
    refine sa (e := b) hK rfl qa_153 rfl (by omega) rfl ?_
    refine st_ret hK rfl rfl ?_
    refine fin _ ⟨fun p hp => ?_, xF_ab u1 v1 p_q iab (fun x hx z => oa x hx (Or.inl z)) (fun x hx z => ob x hx (Or.inl z)), xF_0 (fun x hx z => by have := oa x hx (Or.inr z); subst this; exact iaa (u2.symm.trans z)) (fun x hx z => by have := ob x hx (Or.inr z); subst this; exact ibb (v2.symm.trans z)), fun x _ => xP_m q1.symm p1.symm a_b x⟩ rfl
    simp only [cw_up]
    rw [if_neg (by omega), if_neg (by omega), if_neg (by omega), if_neg (by omega)]
  · skip
    refine st_go hK rfl rfl ?_
    refine st_getr hK rfl qf_146_11 ?_
    refine st_go hK rfl rfl ?_
    refine ga (e := a) (v := nI p) hK rfl qa_153 rfl (by omega) rfl p1 ?_
    refine st_go hK rfl rfl ?_
    change K _ [some (.ref 146), some (.int (nI a)), some (.int (nI b)), some (.int (nI p)), _, _, _] _ _
    refine st_go hK rfl rfl ?_
    refine st_getr hK rfl qf_146_11 ?_
    refine st_go hK rfl rfl ?_
    refine ga (e := b) (v := nI q) hK rfl qa_153 rfl (by omega) rfl q1 ?_
    refine st_go hK rfl rfl ?_
    change K _ [some (.ref 146), some (.int (nI a)), some (.int (nI b)), some (.int (nI p)), some (.int (nI q)), _, _] _ _
    refine st_go hK rfl rfl ?_
    refine st_getr hK rfl qf_146_9 ?_
    refine st_go hK rfl rfl ?_
    refine ga (e := p) (v := nI a) hK rfl qa_151 rfl (by omega) rfl u1 ?_
    refine st_go hK rfl rfl ?_
    refine st_ifn hK rfl rfl (not_congr (nI_eq (a := a) (b := a) (by omega) (by omega))) (fun c => absurd c (fun z => z rfl)) (fun _ => ?_)
    refine st_go hK rfl rfl ?_
    refine st_go hK rfl rfl ?_
    refine st_go hK rfl rfl ?_
    change K _ [some (.ref 146), some (.int (nI a)), some (.int (nI b)), some (.int (nI p)), some (.int (nI q)), some (.int (1 : Int32)), _] _ _
    refine st_go hK rfl rfl ?_
    refine st_getr hK rfl qf_146_9 ?_
    refine st_go hK rfl rfl ?_
    refine ga (e := q) (v := nI b') hK rfl qa_151 rfl (by omega) rfl v1 ?_
    refine st_go hK rfl rfl ?_
    refine st_ifn hK rfl rfl (not_congr (nI_eq (a := b') (b := b) (by omega) (by omega))) (fun _ => ?_) (fun c => absurd (Ne.symm n_b') c)
    refine st_go hK rfl rfl ?_
    refine st_go hK rfl rfl ?_
    change K _ [some (.ref 146), some (.int (nI a)), some (.int (nI b)), some (.int (nI p)), some (.int (nI q)), some (.int (1 : Int32)), some (.int (0 : Int32))] _ _
    refine st_go hK rfl rfl ?_
    refine st_if hK rfl rfl (fun c => absurd c (by decide)) (fun _ => ?_)
    refine st_go hK rfl rfl ?_
    refine st_getr hK rfl qf_146_9 ?_
    refine st_go hK rfl rfl ?_
    refine st_go hK rfl rfl ?_
    refine sa (e := p) hK rfl qa_151 rfl (by omega) rfl ?_
    refine st_go hK rfl rfl ?_
    refine st_go hK rfl rfl ?_
    refine st_if hK rfl rfl (fun _ => ?_) (fun c => absurd (by decide) c)
    refine st_go hK rfl rfl ?_
    refine st_getr hK rfl qf_146_10 ?_
    refine st_go hK rfl rfl ?_
    refine st_go hK rfl rfl ?_
    refine sa (e := q) hK rfl qa_152 rfl (by omega) rfl ?_
    refine st_go hK rfl rfl ?_
    refine st_getr hK rfl qf_146_11 ?_
    refine st_go hK rfl rfl ?_
    refine st_go hK rfl rfl ?_
    refine sa (e := a) hK rfl qa_153 rfl (by omega) rfl ?_
    refine st_go hK rfl rfl ?_
    refine st_getr hK rfl qf_146_11 ?_
    refine st_go hK rfl rfl ?_
    refine st_go hK rfl rfl ?_
    refine sa (e := b) hK rfl qa_153 rfl (by omega) rfl ?_
    refine st_ret hK rfl rfl ?_
    refine fin _ ⟨fun p hp => ?_, xF_a u1 (fun x hx z => oa x hx (Or.inl z)) (fun x hx z => by have := ob x hx (Or.inl z); subst this; exact ibb (v1.symm.trans z)), xF_b v2 (fun x hx z => by have := oa x hx (Or.inr z); subst this; exact iaa (u2.symm.trans z)) (fun x hx z => ob x hx (Or.inr z)), fun x _ => xP_m q1.symm p1.symm a_b x⟩ rfl
    simp only [cw_up]
    rw [if_neg (by omega), if_neg (by omega), if_neg (by omega), if_neg (by omega)]
  · skip
    refine st_go hK rfl rfl ?_
    refine st_getr hK rfl qf_146_11 ?_
    refine st_go hK rfl rfl ?_
    refine ga (e := a) (v := nI p) hK rfl qa_153 rfl (by omega) rfl p1 ?_
    refine st_go hK rfl rfl ?_
    change K _ [some (.ref 146), some (.int (nI a)), some (.int (nI b)), some (.int (nI p)), _, _, _] _ _
    refine st_go hK rfl rfl ?_
    refine st_getr hK rfl qf_146_11 ?_
    refine st_go hK rfl rfl ?_
    refine ga (e := b) (v := nI q) hK rfl qa_153 rfl (by omega) rfl q1 ?_
    refine st_go hK rfl rfl ?_
    change K _ [some (.ref 146), some (.int (nI a)), some (.int (nI b)), some (.int (nI p)), some (.int (nI q)), _, _] _ _
    refine st_go hK rfl rfl ?_
    refine st_getr hK rfl qf_146_9 ?_
    refine st_go hK rfl rfl ?_
    refine ga (e := p) (v := nI a') hK rfl qa_151 rfl (by omega) rfl u1 ?_
    refine st_go hK rfl rfl ?_
    refine st_ifn hK rfl rfl (not_congr (nI_eq (a := a') (b := a) (by omega) (by omega))) (fun _ => ?_) (fun c => absurd (Ne.symm n_a') c)
    refine st_go hK rfl rfl ?_
    refine st_go hK rfl rfl ?_
    change K _ [some (.ref 146), some (.int (nI a)), some (.int (nI b)), some (.int (nI p)), some (.int (nI q)), some (.int (0 : Int32)), _] _ _
    refine st_go hK rfl rfl ?_
    refine st_getr hK rfl qf_146_9 ?_
    refine st_go hK rfl rfl ?_
    refine ga (e := q) (v := nI b) hK rfl qa_151 rfl (by omega) rfl v1 ?_
    refine st_go hK rfl rfl ?_
    refine st_ifn hK rfl rfl (not_congr (nI_eq (a := b) (b := b) (by omega) (by omega))) (fun c => absurd c (fun z => z rfl)) (fun _ => ?_)
    refine st_go hK rfl rfl ?_
    refine st_go hK rfl rfl ?_
    refine st_go hK rfl rfl ?_
    change K _ [some (.ref 146), some (.int (nI a)), some (.int (nI b)), some (.int (nI p)), some (.int (nI q)), some (.int (0 : Int32)), some (.int (1 : Int32))] _ _
    refine st_go hK rfl rfl ?_
    refine st_if hK rfl rfl (fun _ => ?_) (fun c => absurd (by decide) c)
    refine st_go hK rfl rfl ?_
    refine st_getr hK rfl qf_146_10 ?_
    refine st_go hK rfl rfl ?_
    refine st_go hK rfl rfl ?_
    refine sa (e := p) hK rfl qa_152 rfl (by omega) rfl ?_
    refine st_go hK rfl rfl ?_
    refine st_if hK rfl rfl (fun c => absurd c (by decide)) (fun _ => ?_)
    refine st_go hK rfl rfl ?_
    refine st_getr hK rfl qf_146_9 ?_
    refine st_go hK rfl rfl ?_
    refine st_go hK rfl rfl ?_
    refine sa (e := q) hK rfl qa_151 rfl (by omega) rfl ?_
    refine st_go hK rfl rfl ?_
    refine st_go hK rfl rfl ?_
    refine st_getr hK rfl qf_146_11 ?_
    refine st_go hK rfl rfl ?_
    refine st_go hK rfl rfl ?_
    refine sa (e := a) hK rfl qa_153 rfl (by omega) rfl ?_
    refine st_go hK rfl rfl ?_
    refine st_getr hK rfl qf_146_11 ?_
    refine st_go hK rfl rfl ?_
    refine st_go hK rfl rfl ?_
    refine sa (e := b) hK rfl qa_153 rfl (by omega) rfl ?_
    refine st_ret hK rfl rfl ?_
    refine fin _ ⟨fun p hp => ?_, xF_b v1 (fun x hx z => by have := oa x hx (Or.inl z); subst this; exact iaa (u1.symm.trans z)) (fun x hx z => ob x hx (Or.inl z)), xF_a u2 (fun x hx z => oa x hx (Or.inr z)) (fun x hx z => by have := ob x hx (Or.inr z); subst this; exact ibb (v2.symm.trans z)), fun x _ => xP_m q1.symm p1.symm a_b x⟩ rfl
    simp only [cw_up]
    rw [if_neg (by omega), if_neg (by omega), if_neg (by omega), if_neg (by omega)]
  · skip
    refine st_go hK rfl rfl ?_
    refine st_getr hK rfl qf_146_11 ?_
    refine st_go hK rfl rfl ?_
    refine ga (e := a) (v := nI p) hK rfl qa_153 rfl (by omega) rfl p1 ?_
    refine st_go hK rfl rfl ?_
    change K _ [some (.ref 146), some (.int (nI a)), some (.int (nI b)), some (.int (nI p)), _, _, _] _ _
    refine st_go hK rfl rfl ?_
    refine st_getr hK rfl qf_146_11 ?_
    refine st_go hK rfl rfl ?_
    refine ga (e := b) (v := nI q) hK rfl qa_153 rfl (by omega) rfl q1 ?_
    refine st_go hK rfl rfl ?_
    change K _ [some (.ref 146), some (.int (nI a)), some (.int (nI b)), some (.int (nI p)), some (.int (nI q)), _, _] _ _
    refine st_go hK rfl rfl ?_
    refine st_getr hK rfl qf_146_9 ?_
    refine st_go hK rfl rfl ?_
    refine ga (e := p) (v := nI a') hK rfl qa_151 rfl (by omega) rfl u1 ?_
    refine st_go hK rfl rfl ?_
    refine st_ifn hK rfl rfl (not_congr (nI_eq (a := a') (b := a) (by omega) (by omega))) (fun _ => ?_) (fun c => absurd (Ne.symm n_a') c)
    refine st_go hK rfl rfl ?_
    refine st_go hK rfl rfl ?_
    change K _ [some (.ref 146), some (.int (nI a)), some (.int (nI b)), some (.int (nI p)), some (.int (nI q)), some (.int (0 : Int32)), _] _ _
    refine st_go hK rfl rfl ?_
    refine st_getr hK rfl qf_146_9 ?_
    refine st_go hK rfl rfl ?_
    refine ga (e := q) (v := nI b') hK rfl qa_151 rfl (by omega) rfl v1 ?_
    refine st_go hK rfl rfl ?_
    refine st_ifn hK rfl rfl (not_congr (nI_eq (a := b') (b := b) (by omega) (by omega))) (fun _ => ?_) (fun c => absurd (Ne.symm n_b') c)
    refine st_go hK rfl rfl ?_
    refine st_go hK rfl rfl ?_
    change K _ [some (.ref 146), some (.int (nI a)), some (.int (nI b)), some (.int (nI p)), some (.int (nI q)), some (.int (0 : Int32)), some (.int (0 : Int32))] _ _
    refine st_go hK rfl rfl ?_
    refine st_if hK rfl rfl (fun _ => ?_) (fun c => absurd (by decide) c)
    refine st_go hK rfl rfl ?_
    refine st_getr hK rfl qf_146_10 ?_
    refine st_go hK rfl rfl ?_
    refine st_go hK rfl rfl ?_
    refine sa (e := p) hK rfl qa_152 rfl (by omega) rfl ?_
    refine st_go hK rfl rfl ?_
    refine st_if hK rfl rfl (fun _ => ?_) (fun c => absurd (by decide) c)
    refine st_go hK rfl rfl ?_
    refine st_getr hK rfl qf_146_10 ?_
    refine st_go hK rfl rfl ?_
    refine st_go hK rfl rfl ?_
    refine sa (e := q) hK rfl qa_152 rfl (by omega) rfl ?_
    refine st_go hK rfl rfl ?_
    refine st_getr hK rfl qf_146_11 ?_
    refine st_go hK rfl rfl ?_
    refine st_go hK rfl rfl ?_
    refine sa (e := a) hK rfl qa_153 rfl (by omega) rfl ?_
    refine st_go hK rfl rfl ?_
    refine st_getr hK rfl qf_146_11 ?_
    refine st_go hK rfl rfl ?_
    refine st_go hK rfl rfl ?_
    refine sa (e := b) hK rfl qa_153 rfl (by omega) rfl ?_
    refine st_ret hK rfl rfl ?_
    refine fin _ ⟨fun p hp => ?_, xF_0 (fun x hx z => by have := oa x hx (Or.inl z); subst this; exact iaa (u1.symm.trans z)) (fun x hx z => by have := ob x hx (Or.inl z); subst this; exact ibb (v1.symm.trans z)), xF_ab u2 v2 p_q iab (fun x hx z => oa x hx (Or.inr z)) (fun x hx z => ob x hx (Or.inr z)), fun x _ => xP_m q1.symm p1.symm a_b x⟩ rfl
    simp only [cw_up]
    rw [if_neg (by omega), if_neg (by omega), if_neg (by omega), if_neg (by omega)]
end

