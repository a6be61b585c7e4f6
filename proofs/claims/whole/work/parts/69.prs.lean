/-! READING A TEXT: the class -/
def CSt (τ : cw_V) (S : PS) : Prop := (τ 140 7 = nI S.1 ∧ τ 140 6 = nI S.2.2.2.2.length ∧ τ 140 8 = nI S.2.2.2.1) ∧ (∀ d, d ≤ S.1 → τ 142 d = S.2.1 d ∧ τ 143 d = S.2.2.1 d) ∧ ∀ i a b, S.2.2.2.2[i]? = some (a, b) → τ 144 i = nI a ∧ τ 145 i = nI b
def TF (σ τ : cw_V) : Prop := (∀ p, p ≠ 140 → (p < 142 ∨ 145 < p) → τ p = σ p) ∧ ∀ k, k < 6 → τ 140 k = σ 140 k
theorem TF.rf {σ : cw_V} : TF σ σ := ⟨fun _ _ _ => rfl, fun _ _ => rfl⟩
theorem TF.trans {σ τ υ : cw_V} (h : TF σ τ) (h' : TF τ υ) : TF σ υ := ⟨fun p a b => (h'.1 p a b).trans (h.1 p a b), fun k hk => (h'.2 k hk).trans (h.2 k hk)⟩
section
variable {d s : Nat} {τ : cw_V} {S : PS} {lam : Nat → Int64} {Q : cw_Q}
theorem z_wantsPart (h : CSt τ S) (hD : S.1 ≤ 60) (k1 : wt S → Q (some (.int 1)) (cw_B τ lam)) (k0 : ¬ wt S → Q (some (.int 0)) (cw_B τ lam)) : cw_Z (d + 1) m_Text_wantsPart [.ref 140] (cw_B τ lam) Q := by
  refine zi (L := [some (.ref 140)]) rfl rfl (fun K hK => ?_)
  refine st_go hK rfl rfl ?_
  refine gi (v := nI S.1) hK rfl qf_140_7 h.1.1 ?_
  refine st_if hK rfl rfl (fun c => absurd c (nI_pos (by omega))) (fun _ => ?_)
  refine st_go hK rfl rfl ?_
  refine gi (v := nI S.1) hK rfl qf_140_7 h.1.1 ?_
  refine st_go hK rfl rfl ?_
  refine st_ifn hK rfl rfl (nI_leI (a := S.1) (b := 60) (by omega) (by omega)) (fun _ => ?_) (fun c => absurd (by omega) c)
  refine st_go hK rfl rfl ?_
  refine st_getr hK rfl qf_140_1 ?_
  refine st_go hK rfl rfl ?_
  refine gi (v := nI S.1) hK rfl qf_140_7 h.1.1 ?_
  refine ga (e := S.1) (v := S.2.1 S.1) hK rfl qa_142 rfl (by omega) rfl ((h.2.1 S.1 (Nat.le_refl _)).1) ?_
  refine st_go hK rfl rfl ?_
  refine st_if hK rfl rfl (fun c28 => ?_) (fun c28 => ?_)
  · refine st_go hK rfl rfl ?_
    refine st_go hK rfl rfl ?_
    refine st_zret hK rfl (Or.inr rfl) ?_
    first | exact k1 (Or.inl c28) | exact k1 (Or.inr ⟨by omega, Decidable.not_not.mp c48⟩)
  · refine st_go hK rfl rfl ?_
    refine gi (v := nI S.1) hK rfl qf_140_7 h.1.1 ?_
    refine st_ifn hK rfl rfl (nI_leI (a := S.1) (b := 0) (by omega) (by omega)) (fun c35 => ?_) (fun c35 => ?_)
    · refine st_go hK rfl rfl ?_
      refine st_zret hK rfl (Or.inl rfl) ?_
      exact k0 (fun z => z.elim c28 (fun w => by first | exact absurd w.2 c48 | omega))
    · refine st_go hK rfl rfl ?_
      refine st_getr hK rfl qf_140_2 ?_
      refine st_go hK rfl rfl ?_
      refine gi (v := nI S.1) hK rfl qf_140_7 h.1.1 ?_
      refine ga (e := S.1) (v := S.2.2.1 S.1) hK rfl qa_143 rfl (by omega) rfl ((h.2.1 S.1 (Nat.le_refl _)).2) ?_
      refine st_go hK rfl rfl ?_
      refine st_if hK rfl rfl (fun c48 => ?_) (fun c48 => ?_)
      · refine st_go hK rfl rfl ?_
        refine st_zret hK rfl (Or.inl rfl) ?_
        exact k0 (fun z => z.elim c28 (fun w => by first | exact absurd w.2 c48 | omega))
      · refine st_go hK rfl rfl ?_
        refine st_go hK rfl rfl ?_
        refine st_zret hK rfl (Or.inr rfl) ?_
        first | exact k1 (Or.inl c28) | exact k1 (Or.inr ⟨by omega, Decidable.not_not.mp c48⟩)
theorem cst_ad {v : Int32} (h : CSt τ S) : (S.2.1 S.1 = -1 → CSt (cw_up τ 142 S.1 v) (ad v S)) ∧ (¬ S.2.1 S.1 = -1 → CSt (cw_up τ 143 S.1 v) (ad v S)) := by
  obtain ⟨⟨h1, h2, h3⟩, h4, h5⟩ := h
  refine ⟨fun z => ?_, fun z => ?_⟩
  · unfold ad
    rw [if_pos z]
    refine ⟨⟨by rw [up_ne (by decide)]; exact h1, by rw [up_ne (by decide)]; exact h2, by rw [up_ne (by decide)]; exact h3⟩, fun d hd => ⟨?_, by rw [up_ne (by decide)]; exact (h4 d hd).2⟩, fun i a b e => by rw [up_ne (by decide), up_ne (by decide)]; exact h5 i a b e⟩
    rw [up_eq]
    show upd (τ 142) S.1 v d = upd S.2.1 S.1 v d
    unfold upd
    split
    · rfl
    · exact (h4 d hd).1
  · unfold ad
    rw [if_neg z]
    refine ⟨⟨by rw [up_ne (by decide)]; exact h1, by rw [up_ne (by decide)]; exact h2, by rw [up_ne (by decide)]; exact h3⟩, fun d hd => ⟨by rw [up_ne (by decide)]; exact (h4 d hd).1, ?_⟩, fun i a b e => by rw [up_ne (by decide), up_ne (by decide)]; exact h5 i a b e⟩
    rw [up_eq]
    show upd (τ 143) S.1 v d = upd S.2.2.1 S.1 v d
    unfold upd
    split
    · rfl
    · exact (h4 d hd).2
theorem z_addPart {v : Int32} (h : CSt τ S) (hD : S.1 ≤ 60) (kk : ∀ τ', (∀ p, p ≠ 142 → p ≠ 143 → τ' p = τ p) → CSt τ' (ad v S) → Q none (cw_B τ' lam)) : cw_Z (d + 1) m_Text_addPart [.ref 140, .int v] (cw_B τ lam) Q := by
  refine zi (L := [some (.ref 140), some (.int v)]) rfl rfl (fun K hK => ?_)
  refine st_go hK rfl rfl ?_
  refine gi (v := nI S.1) hK rfl qf_140_7 h.1.1 ?_
  refine st_if hK rfl rfl (fun c => absurd c (nI_pos (by omega))) (fun _ => ?_)
  refine st_go hK rfl rfl ?_
  refine gi (v := nI S.1) hK rfl qf_140_7 h.1.1 ?_
  refine st_go hK rfl rfl ?_
  refine st_ifn hK rfl rfl (nI_leI (a := S.1) (b := 60) (by omega) (by omega)) (fun _ => ?_) (fun c => absurd (by omega) c)
  refine st_go hK rfl rfl ?_
  refine st_getr hK rfl qf_140_1 ?_
  refine st_go hK rfl rfl ?_
  refine gi (v := nI S.1) hK rfl qf_140_7 h.1.1 ?_
  refine ga (e := S.1) (v := S.2.1 S.1) hK rfl qa_142 rfl (by omega) rfl ((h.2.1 S.1 (Nat.le_refl _)).1) ?_
  refine st_go hK rfl rfl ?_
  refine st_if hK rfl rfl (fun c27 => ?_) (fun c27 => ?_)
  · refine st_go hK rfl rfl ?_
    refine st_getr hK rfl qf_140_2 ?_
    refine st_go hK rfl rfl ?_
    refine gi (v := nI S.1) hK rfl qf_140_7 h.1.1 ?_
    refine st_go hK rfl rfl ?_
    refine sa (e := S.1) hK rfl qa_143 rfl (by omega) rfl ?_
    refine st_ret hK rfl rfl ?_
    first
      | exact kk _ (fun p p1 p2 => up_ne p1) ((cst_ad h).1 (Decidable.not_not.mp c27))
      | exact kk _ (fun p p1 p2 => up_ne p2) ((cst_ad h).2 c27)
  · refine st_go hK rfl rfl ?_
    refine st_getr hK rfl qf_140_1 ?_
    refine st_go hK rfl rfl ?_
    refine gi (v := nI S.1) hK rfl qf_140_7 h.1.1 ?_
    refine st_go hK rfl rfl ?_
    refine sa (e := S.1) hK rfl qa_142 rfl (by omega) rfl ?_
    refine st_go hK rfl rfl ?_
    refine st_ret hK rfl rfl ?_
    first
      | exact kk _ (fun p p1 p2 => up_ne p1) ((cst_ad h).1 (Decidable.not_not.mp c27))
      | exact kk _ (fun p p1 p2 => up_ne p2) ((cst_ad h).2 c27)
theorem z_opens (h : CSt τ S) (hD : S.1 < 60) (k1 : wt S → ∀ τ', TF τ τ' → CSt τ' (S.1 + 1, upd S.2.1 (S.1 + 1) (-1), upd S.2.2.1 (S.1 + 1) (-1), S.2.2.2) → Q (some (.int 1)) (cw_B τ' lam)) (k0 : ¬ wt S → Q (some (.int 0)) (cw_B τ lam)) : cw_Z (d + 2) m_Text_opens [.ref 140] (cw_B τ lam) Q := by
  refine zi (L := [some (.ref 140)]) rfl rfl (fun K hK => ?_)
  refine st_go hK rfl rfl ?_
  refine cv0 hK rfl qc_140 (Nat.le_of_ble_eq_true rfl) ?_
  refine z_wantsPart h (by omega) (fun hw => ?_) (fun hw => ?_)
  · change K _ _ (_ :: _) _
    refine st_if hK rfl rfl (fun c => absurd c (by decide)) (fun _ => ?_)
    refine st_go hK rfl rfl ?_
    refine gi (v := nI S.1) hK rfl qf_140_7 h.1.1 ?_
    refine st_go hK rfl rfl ?_
    refine st_ifn hK rfl rfl (nI_ltI (a := S.1) (b := 60) (by omega) (by omega)) (fun _ => ?_) (fun c => absurd (by omega) c)
    refine st_go hK rfl rfl ?_
    refine st_go hK rfl rfl ?_
    refine gi (v := nI S.1) hK rfl qf_140_7 h.1.1 ?_
    refine st_go hK rfl rfl ?_
    refine bnv hK rfl (show _ = nI (S.1 + 1) from nI_add S.1 1) ?_
    refine st_put hK rfl qf_140_7 rfl ?_
    refine st_go hK rfl rfl ?_
    refine st_getr hK rfl qf_140_1 ?_
    refine st_go hK rfl rfl ?_
    refine gi (v := nI (S.1 + 1)) hK rfl qf_140_7 (by rw [up_eq, upd_eq]) ?_
    refine st_go hK rfl rfl ?_
    refine sa (e := S.1 + 1) hK rfl qa_142 rfl (by omega) rfl ?_
    refine st_go hK rfl rfl ?_
    refine st_getr hK rfl qf_140_2 ?_
    refine st_go hK rfl rfl ?_
    refine gi (v := nI (S.1 + 1)) hK rfl qf_140_7 (by rw [up_ne (by decide), up_eq, upd_eq]) ?_
    refine st_go hK rfl rfl ?_
    refine sa (e := S.1 + 1) hK rfl qa_143 rfl (by omega) rfl ?_
    refine st_go hK rfl rfl ?_
    refine st_zret hK rfl (Or.inr rfl) ?_
    refine k1 hw _ ⟨fun p p1 p2 => by rw [up_ne (by omega), up_ne (by omega), up_ne p1], fun k hk => by rw [up_ne (by decide), up_ne (by decide), up_eq, upd_ne (by omega)]⟩ ⟨⟨?_, ?_, ?_⟩, fun d hd => ?_, fun i a b e => ?_⟩
    · simp [cw_up, upd]
    · simp [cw_up, upd, h.1.2.1]
    · simp [cw_up, upd, h.1.2.2]
    · rw [up_ne (by decide), up_eq, up_ne (by decide), up_eq, up_ne (by decide), up_ne (by decide)]
      show upd (τ 142) (S.1 + 1) (-1) d = upd S.2.1 (S.1 + 1) (-1) d ∧ upd (τ 143) (S.1 + 1) (-1) d = upd S.2.2.1 (S.1 + 1) (-1) d
      by_cases z : d = S.1 + 1
      · rw [z, upd_eq, upd_eq, upd_eq, upd_eq]
        exact ⟨rfl, rfl⟩
      · rw [upd_ne z, upd_ne z, upd_ne z, upd_ne z]
        have hd' : d ≤ S.1 + 1 := hd
        exact h.2.1 d (by omega)
    · rw [up_ne (by decide), up_ne (by decide), up_ne (by decide), up_ne (by decide), up_ne (by decide), up_ne (by decide)]
      exact h.2.2 i a b e
  · change K _ _ (_ :: _) _
    refine st_if hK rfl rfl (fun _ => ?_) (fun c => absurd (by decide) c)
    refine st_go hK rfl rfl ?_
    refine st_zret hK rfl (Or.inl rfl) ?_
    exact k0 hw
theorem ad_ind {v : Int32} {D : Nat} {f g : Nat → Int32} {M M' : Nat} {J J' : List (Nat × Nat)} : (ad v (D, f, g, M, J)).1 = D ∧ (ad v (D, f, g, M', J')).2.1 = (ad v (D, f, g, M, J)).2.1 ∧ (ad v (D, f, g, M', J')).2.2.1 = (ad v (D, f, g, M, J)).2.2.1 ∧ (ad v (D, f, g, M, J)).2.2.2 = (M, J) := by
  unfold ad
  split <;> exact ⟨rfl, rfl, rfl, rfl⟩
theorem z_closes {a b : Nat} (h : CSt τ S) (hD : S.1 ≤ 60) (hJ : S.2.2.2.2.length < 7) (h0 : 0 < S.1) (ea : S.2.1 S.1 = nI a) (eb : S.2.2.1 S.1 = nI b) (hb : b < 15) (kk : ∀ τ', TF τ τ' → CSt τ' (ad (nI (8 + S.2.2.2.2.length)) (S.1 - 1, S.2.1, S.2.2.1, S.2.2.2.1, S.2.2.2.2 ++ [(a, b)])) → Q (some (.int 1)) (cw_B τ' lam)) : cw_Z (d + 2) m_Text_closes [.ref 140] (cw_B τ lam) Q := by
  have f0 := (h.2.1 S.1 (Nat.le_refl _)).1.trans ea
  have g0 := (h.2.1 S.1 (Nat.le_refl _)).2.trans eb
  refine zi (L := [some (.ref 140)]) rfl rfl (fun K hK => ?_)
  refine st_go hK rfl rfl ?_
  refine gi (v := nI S.1) hK rfl qf_140_7 h.1.1 ?_
  refine st_ifn hK rfl rfl (nI_leI (a := S.1) (b := 0) (by omega) (by omega)) (fun c => absurd c (by omega)) (fun _ => ?_)
  refine st_go hK rfl rfl ?_
  refine gi (v := nI S.1) hK rfl qf_140_7 h.1.1 ?_
  refine st_go hK rfl rfl ?_
  refine st_ifn hK rfl rfl (nI_ltI (a := 60) (b := S.1) (by omega) (by omega)) (fun c => absurd c (by omega)) (fun _ => ?_)
  refine st_go hK rfl rfl ?_
  refine st_getr hK rfl qf_140_2 ?_
  refine st_go hK rfl rfl ?_
  refine gi (v := nI S.1) hK rfl qf_140_7 h.1.1 ?_
  refine ga (e := S.1) (v := nI b) hK rfl qa_143 rfl (by omega) rfl g0 ?_
  refine st_go hK rfl rfl ?_
  refine st_if hK rfl rfl (fun _ => ?_) (fun c => absurd (nI_ne1 (by omega)) c)
  refine st_go hK rfl rfl ?_
  refine gi (v := nI S.2.2.2.2.length) hK rfl qf_140_6 h.1.2.1 ?_
  refine st_if hK rfl rfl (fun c => absurd c (nI_pos (by omega))) (fun _ => ?_)
  refine st_go hK rfl rfl ?_
  refine gi (v := nI S.2.2.2.2.length) hK rfl qf_140_6 h.1.2.1 ?_
  refine st_go hK rfl rfl ?_
  refine st_getr hK rfl qf_140_3 ?_
  refine st_alen hK rfl qa_144 rfl ?_
  refine st_ifn hK rfl rfl (nI_ltI (a := S.2.2.2.2.length) (b := 7) (by omega) (by omega)) (fun _ => ?_) (fun c => absurd (by omega) c)
  refine st_go hK rfl rfl ?_
  refine st_getr hK rfl qf_140_3 ?_
  refine st_go hK rfl rfl ?_
  refine gi (v := nI S.2.2.2.2.length) hK rfl qf_140_6 h.1.2.1 ?_
  refine st_go hK rfl rfl ?_
  refine st_getr hK rfl qf_140_1 ?_
  refine st_go hK rfl rfl ?_
  refine gi (v := nI S.1) hK rfl qf_140_7 h.1.1 ?_
  refine ga (e := S.1) (v := nI a) hK rfl qa_142 rfl (by omega) rfl f0 ?_
  refine sa (e := S.2.2.2.2.length) hK rfl qa_144 rfl (by omega) rfl ?_
  refine st_go hK rfl rfl ?_
  refine st_getr hK rfl qf_140_4 ?_
  refine st_go hK rfl rfl ?_
  refine gi (v := nI S.2.2.2.2.length) hK rfl qf_140_6 (by rw [up_ne (by decide), h.1.2.1]) ?_
  refine st_go hK rfl rfl ?_
  refine st_getr hK rfl qf_140_2 ?_
  refine st_go hK rfl rfl ?_
  refine gi (v := nI S.1) hK rfl qf_140_7 (by rw [up_ne (by decide), h.1.1]) ?_
  refine ga (e := S.1) (v := nI b) hK rfl qa_143 rfl (by omega) rfl (by rw [up_ne (by decide), g0]) ?_
  refine sa (e := S.2.2.2.2.length) hK rfl qa_145 rfl (by omega) rfl ?_
  refine st_go hK rfl rfl ?_
  refine st_go hK rfl rfl ?_
  refine gi (v := nI S.1) hK rfl qf_140_7 (by rw [up_ne (by decide), up_ne (by decide), h.1.1]) ?_
  refine st_go hK rfl rfl ?_
  refine bnv (v := nI (S.1 - 1)) hK rfl (nI_sub (a := S.1) (b := 1) (by omega)) ?_
  refine st_put hK rfl qf_140_7 rfl ?_
  refine st_go hK rfl rfl ?_
  refine st_go hK rfl rfl ?_
  refine st_go hK rfl rfl ?_
  refine gi (v := nI S.2.2.2.2.length) hK rfl qf_140_6 (by rw [up_eq, upd_ne (by decide), up_ne (by decide), up_ne (by decide), h.1.2.1]) ?_
  refine bnv hK rfl (show _ = nI (8 + S.2.2.2.2.length) from nI_add 8 S.2.2.2.2.length) ?_
  refine cv1 hK rfl qc_140 (Nat.le_of_ble_eq_true rfl) ?_
  have hS1 : CSt (cw_up (cw_up (cw_up τ 144 S.2.2.2.2.length (nI a)) 145 S.2.2.2.2.length (nI b)) 140 7 (nI (S.1 - 1))) (S.1 - 1, S.2.1, S.2.2.1, S.2.2.2.1, S.2.2.2.2) := by
    refine ⟨⟨by simp [cw_up, upd], by simp [cw_up, upd, h.1.2.1], by simp [cw_up, upd, h.1.2.2]⟩, fun d hd => ?_, fun i x y e => ?_⟩
    · have hd' : d ≤ S.1 - 1 := hd
      rw [up_ne (by decide), up_ne (by decide), up_ne (by decide), up_ne (by decide), up_ne (by decide), up_ne (by decide)]
      exact h.2.1 d (by omega)
    · have hi : i < S.2.2.2.2.length := (List.getElem?_eq_some_iff.mp e).1
      have := h.2.2 i x y e
      rw [up_ne (by decide), up_ne (by decide), up_eq, up_ne (by decide), up_eq, up_ne (by decide), upd_ne (by omega), upd_ne (by omega)]
      exact this
  have j1 : (cw_up (cw_up (cw_up τ 144 S.2.2.2.2.length (nI a)) 145 S.2.2.2.2.length (nI b)) 140 7 (nI (S.1 - 1))) 144 S.2.2.2.2.length = nI a := by simp [cw_up, upd]
  have j2 : (cw_up (cw_up (cw_up τ 144 S.2.2.2.2.length (nI a)) 145 S.2.2.2.2.length (nI b)) 140 7 (nI (S.1 - 1))) 145 S.2.2.2.2.length = nI b := by simp [cw_up, upd]
  have j3 : TF τ (cw_up (cw_up (cw_up τ 144 S.2.2.2.2.length (nI a)) 145 S.2.2.2.2.length (nI b)) 140 7 (nI (S.1 - 1))) := ⟨fun p p1 p2 => by rw [up_ne p1, up_ne (by omega), up_ne (by omega)], fun k hk => by rw [up_eq, upd_ne (by omega), up_ne (by decide), up_ne (by decide)]⟩
  refine z_addPart hS1 (by show S.1 - 1 ≤ 60; omega) (fun τ2 hf2 hC2 => ?_)
  have e6 : τ2 140 6 = nI S.2.2.2.2.length := by rw [hf2 140 (by decide) (by decide)]; exact hS1.1.2.1
  change K _ _ _ _
  refine st_go hK rfl rfl ?_
  refine st_go hK rfl rfl ?_
  refine gi (v := nI S.2.2.2.2.length) hK rfl qf_140_6 e6 ?_
  refine st_go hK rfl rfl ?_
  refine bnv hK rfl (show _ = nI (S.2.2.2.2.length + 1) from nI_add S.2.2.2.2.length 1) ?_
  refine st_put hK rfl qf_140_6 rfl ?_
  refine st_go hK rfl rfl ?_
  refine st_zret hK rfl (Or.inr rfl) ?_
  obtain ⟨i1, i2, i3, i4⟩ := ad_ind (v := nI (8 + S.2.2.2.2.length)) (D := S.1 - 1) (f := S.2.1) (g := S.2.2.1) (M := S.2.2.2.1) (M' := S.2.2.2.1) (J := S.2.2.2.2) (J' := S.2.2.2.2 ++ [(a, b)])
  obtain ⟨k1, -, -, k4⟩ := ad_ind (v := nI (8 + S.2.2.2.2.length)) (D := S.1 - 1) (f := S.2.1) (g := S.2.2.1) (M := S.2.2.2.1) (M' := S.2.2.2.1) (J := S.2.2.2.2 ++ [(a, b)]) (J' := S.2.2.2.2 ++ [(a, b)])
  obtain ⟨⟨q1, q2, q3⟩, q4, q5⟩ := hC2
  rw [i1] at q1
  rw [i4] at q3
  refine kk _ (j3.trans ⟨fun p p1 p2 => by rw [up_ne p1, hf2 p (by omega) (by omega)], fun k hk => by rw [up_eq, upd_ne (by omega), hf2 140 (by decide) (by decide)]⟩) ⟨⟨?_, ?_, ?_⟩, fun d hd => ?_, fun i x y e => ?_⟩
  · rw [k1, up_eq, upd_ne (by decide)]; exact q1
  · rw [k4, up_eq, upd_eq]
    show _ = nI (S.2.2.2.2 ++ [(a, b)]).length
    rw [List.length_append]; rfl
  · rw [k4, up_eq, upd_ne (by decide)]; exact q3
  · rw [k1] at hd
    rw [up_ne (by decide), up_ne (by decide), i2, i3]
    exact q4 d (by rw [i1]; exact hd)
  · rw [k4] at e
    have e' : (S.2.2.2.2 ++ [(a, b)])[i]? = some (x, y) := e
    rw [up_ne (by decide), up_ne (by decide), hf2 144 (by decide) (by decide), hf2 145 (by decide) (by decide)]
    rcases Nat.lt_or_ge i S.2.2.2.2.length with z | z
    · rw [List.getElem?_append_left z] at e'
      exact hS1.2.2 i x y e'
    · rw [List.getElem?_append_right z] at e'
      have hi : i - S.2.2.2.2.length = 0 := by
        have := (List.getElem?_eq_some_iff.mp e').1
        rw [List.length_singleton] at this
        omega
      rw [hi] at e'
      obtain rfl : i = S.2.2.2.2.length := by omega
      cases e'
      exact ⟨j1, j2⟩
theorem z_closes0 (h : CSt τ S) (hD : S.1 ≤ 60) (hc : ¬ (0 < S.1 ∧ S.2.2.1 S.1 ≠ -1)) (kk : Q (some (.int 0)) (cw_B τ lam)) : cw_Z (d + 2) m_Text_closes [.ref 140] (cw_B τ lam) Q := by
  have g0 := (h.2.1 S.1 (Nat.le_refl _)).2
  refine zi (L := [some (.ref 140)]) rfl rfl (fun K hK => ?_)
  refine st_go hK rfl rfl ?_
  refine gi (v := nI S.1) hK rfl qf_140_7 h.1.1 ?_
  refine st_ifn hK rfl rfl (nI_leI (a := S.1) (b := 0) (by omega) (by omega)) (fun c4 => ?_) (fun c4 => ?_)
  · refine st_go hK rfl rfl ?_
    refine st_zret hK rfl (Or.inl rfl) ?_
    exact kk
  · refine st_go hK rfl rfl ?_
    refine gi (v := nI S.1) hK rfl qf_140_7 h.1.1 ?_
    refine st_go hK rfl rfl ?_
    refine st_ifn hK rfl rfl (nI_ltI (a := 60) (b := S.1) (by omega) (by omega)) (fun c => absurd c (by omega)) (fun _ => ?_)
    refine st_go hK rfl rfl ?_
    refine st_getr hK rfl qf_140_2 ?_
    refine st_go hK rfl rfl ?_
    refine gi (v := nI S.1) hK rfl qf_140_7 h.1.1 ?_
    refine ga (e := S.1) (v := S.2.2.1 S.1) hK rfl qa_143 rfl (by omega) rfl g0 ?_
    refine st_go hK rfl rfl ?_
    refine st_if hK rfl rfl (fun c => absurd c (fun z => hc ⟨by omega, z⟩)) (fun _ => ?_)
    refine st_go hK rfl rfl ?_
    refine st_zret hK rfl (Or.inl rfl) ?_
    exact kk
theorem z_takes {k : Nat} (h : CSt τ S) (hD : S.1 ≤ 60) (hM : S.2.2.2.1 < 256) (hs : s ≤ 8) (hk : k < s) (k1 : wt S ∧ bitN S.2.2.2.1 k = 0 → ∀ τ', TF τ τ' → CSt τ' (ad (nI k) (S.1, S.2.1, S.2.2.1, S.2.2.2.1 + 2 ^ k, S.2.2.2.2)) → Q (some (.int 1)) (cw_B τ' lam)) (k0 : ¬ (wt S ∧ bitN S.2.2.2.1 k = 0) → Q (some (.int 0)) (cw_B τ lam)) : cw_Z (d + 2) m_Text_takesSink [.ref 140, .int (nI k), .int (nI s)] (cw_B τ lam) Q := by
  obtain ⟨b1, b2⟩ := bit_int _ hM k (by omega)
  refine zi (L := [some (.ref 140), some (.int (nI k)), some (.int (nI s))]) rfl rfl (fun K hK => ?_)
  refine st_go hK rfl rfl ?_
  refine cv0 hK rfl qc_140 (Nat.le_of_ble_eq_true rfl) ?_
  refine z_wantsPart h (by omega) (fun hw => ?_) (fun hw => ?_)
  · change K _ _ (_ :: _) _
    refine st_if hK rfl rfl (fun c => absurd c (by decide)) (fun _ => ?_)
    refine st_go hK rfl rfl ?_
    refine st_if hK rfl rfl (fun c => absurd c (nI_pos (by omega))) (fun _ => ?_)
    refine st_go hK rfl rfl ?_
    refine st_go hK rfl rfl ?_
    refine st_ifn hK rfl rfl (nI_leI (a := s) (b := k) (by omega) (by omega)) (fun c => absurd c (by omega)) (fun _ => ?_)
    refine st_go hK rfl rfl ?_
    refine gi (v := nI S.2.2.2.1) hK rfl qf_140_8 h.1.2.2 ?_
    refine st_go hK rfl rfl ?_
    refine st_go hK rfl rfl ?_
    refine st_bin hK rfl ?_
    refine st_bin hK rfl ?_
    refine st_if hK rfl rfl (fun c24 => ?_) (fun c24 => ?_)
    · refine st_go hK rfl rfl ?_
      refine st_go hK rfl rfl ?_
      refine gi (v := nI S.2.2.2.1) hK rfl qf_140_8 h.1.2.2 ?_
      refine st_go hK rfl rfl ?_
      refine st_go hK rfl rfl ?_
      refine st_bin hK rfl ?_
      refine st_bin hK rfl ?_
      refine st_put hK rfl qf_140_8 rfl ?_
      refine st_go hK rfl rfl ?_
      refine st_go hK rfl rfl ?_
      refine cv1 hK rfl qc_140 (Nat.le_of_ble_eq_true rfl) ?_
      have hbit := b1.mp c24
      have hS1 : CSt (cw_up τ 140 8 (nI S.2.2.2.1 ||| ((1 : Int32) <<< (nI k &&& 31)))) (S.1, S.2.1, S.2.2.1, S.2.2.2.1 + 2 ^ k, S.2.2.2.2) := by
        refine ⟨⟨by rw [up_eq, upd_ne (by decide)]; exact h.1.1, by rw [up_eq, upd_ne (by decide)]; exact h.1.2.1, by rw [up_eq, upd_eq, b2 hbit]⟩, fun d hd => ?_, fun i x y e => ?_⟩
        · rw [up_ne (by decide), up_ne (by decide)]
          exact h.2.1 d hd
        · rw [up_ne (by decide), up_ne (by decide)]
          exact h.2.2 i x y e
      refine z_addPart hS1 hD (fun τ2 hf2 hC2 => ?_)
      change K _ _ _ _
      refine st_go hK rfl rfl ?_
      refine st_zret hK rfl (Or.inr rfl) ?_
      refine k1 ⟨hw, hbit⟩ τ2 ⟨fun p p1 p2 => by rw [hf2 p (by omega) (by omega), up_ne p1], fun k hk => by rw [hf2 140 (by decide) (by decide), up_eq, upd_ne (by omega)]⟩ hC2
    · refine st_go hK rfl rfl ?_
      refine st_zret hK rfl (Or.inl rfl) ?_
      exact k0 (fun z => by first | exact hw z.1 | exact c24 (b1.mpr z.2))
  · change K _ _ (_ :: _) _
    refine st_if hK rfl rfl (fun _ => ?_) (fun c => absurd (by decide) c)
    refine st_go hK rfl rfl ?_
    refine st_zret hK rfl (Or.inl rfl) ?_
    exact k0 (fun z => by first | exact hw z.1 | exact c24 (b1.mpr z.2))
theorem z_takes0 {k : Int32} (h : CSt τ S) (hD : S.1 ≤ 60) (hk : ¬ (0 ≤ k ∧ k < nI s)) (kk : Q (some (.int 0)) (cw_B τ lam)) : cw_Z (d + 2) m_Text_takesSink [.ref 140, .int k, .int (nI s)] (cw_B τ lam) Q := by
  refine zi (L := [some (.ref 140), some (.int k), some (.int (nI s))]) rfl rfl (fun K hK => ?_)
  refine st_go hK rfl rfl ?_
  refine cv0 hK rfl qc_140 (Nat.le_of_ble_eq_true rfl) ?_
  refine z_wantsPart h (by omega) (fun hw => ?_) (fun hw => ?_)
  · change K _ _ (_ :: _) _
    refine st_if hK rfl rfl (fun c => absurd c (by decide)) (fun _ => ?_)
    refine st_go hK rfl rfl ?_
    refine st_if hK rfl rfl (fun c8 => ?_) (fun c8 => ?_)
    · refine st_go hK rfl rfl ?_
      refine st_zret hK rfl (Or.inl rfl) ?_
      exact kk
    · refine st_go hK rfl rfl ?_
      refine st_go hK rfl rfl ?_
      refine st_if hK rfl rfl (fun _ => ?_) (fun c => absurd (Int32.not_lt.mp (fun z => hk ⟨Int32.not_lt.mp c8, z⟩)) c)
      refine st_go hK rfl rfl ?_
      refine st_zret hK rfl (Or.inl rfl) ?_
      exact kk
  · change K _ _ (_ :: _) _
    refine st_if hK rfl rfl (fun _ => ?_) (fun c => absurd (by decide) c)
    refine st_go hK rfl rfl ?_
    refine st_zret hK rfl (Or.inl rfl) ?_
    exact kk
theorem z_accepts {b : Nat} {T : TT} (h : CSt τ S) (hD : S.1 < 60) (hP : PI2 s S T) (hs : s ≤ 8) (hb : b ≤ 127) (k1 : ∀ S', stP s b S = some S' → ∀ τ', TF τ τ' → CSt τ' S' → Q (some (.int 1)) (cw_B τ' lam)) (k0 : stP s b S = none → Q (some (.int 0)) (cw_B τ lam)) : cw_Z (d + 3) m_Text_accepts [.ref 140, .int (nI b), .int (nI s)] (cw_B τ lam) Q := by
  have hM := hP.2.2.2.2.2.2.2
  have hsp : stP s b S = if b = 32 then some S
      else if b = 40 then pif (wt S) (some (S.1 + 1, upd S.2.1 (S.1 + 1) (-1), upd S.2.2.1 (S.1 + 1) (-1), S.2.2.2)) none
      else if b = 41 then pif (0 < S.1 ∧ S.2.2.1 S.1 ≠ -1) (some (ad (nI (8 + S.2.2.2.2.length)) (S.1 - 1, S.2.1, S.2.2.1, S.2.2.2.1, S.2.2.2.2 ++ [((S.2.1 S.1).toNatClampNeg, (S.2.2.1 S.1).toNatClampNeg)]))) none
      else pif (wt S ∧ 48 ≤ b ∧ b - 48 < s ∧ bitN S.2.2.2.1 (b - 48) = 0) (some (ad (nI (b - 48)) (S.1, S.2.1, S.2.2.1, S.2.2.2.1 + 2 ^ (b - 48), S.2.2.2.2))) none := rfl
  refine zi (L := [some (.ref 140), some (.int (nI b)), some (.int (nI s))]) rfl rfl (fun K hK => ?_)
  by_cases b32 : b = 32
  · rw [if_pos b32] at hsp
    refine st_go hK rfl rfl ?_
    refine st_go hK rfl rfl ?_
    refine st_ifn hK rfl rfl (not_congr (nI_eq (a := b) (b := 32) (by omega) (by omega))) (fun c => absurd c (fun z => z b32)) (fun _ => ?_)
    refine st_go hK rfl rfl ?_
    refine st_zret hK rfl (Or.inr rfl) ?_
    exact k1 S hsp τ TF.rf h
  · rw [if_neg b32] at hsp
    by_cases b40 : b = 40
    · rw [if_pos b40] at hsp
      refine st_go hK rfl rfl ?_
      refine st_go hK rfl rfl ?_
      refine st_ifn hK rfl rfl (not_congr (nI_eq (a := b) (b := 32) (by omega) (by omega))) (fun _ => ?_) (fun c => absurd b32 c)
      refine st_go hK rfl rfl ?_
      refine st_go hK rfl rfl ?_
      refine st_ifn hK rfl rfl (not_congr (nI_eq (a := b) (b := 40) (by omega) (by omega))) (fun c => absurd c (fun z => z b40)) (fun _ => ?_)
      refine st_go hK rfl rfl ?_
      refine cv0 hK rfl qc_140 (Nat.le_of_ble_eq_true rfl) ?_
      refine z_opens h hD (fun hw τ2 hF2 hC2 => ?_) (fun hw => ?_)
      · change K _ _ (_ :: _) _
        refine st_zret hK rfl (Or.inr rfl) ?_
        rw [pif_p hw] at hsp
        exact k1 _ hsp τ2 hF2 hC2
      · change K _ _ (_ :: _) _
        refine st_zret hK rfl (Or.inl rfl) ?_
        rw [pif_n hw] at hsp
        exact k0 hsp
    · rw [if_neg b40] at hsp
      by_cases b41 : b = 41
      · rw [if_pos b41] at hsp
        rcases Classical.em (0 < S.1 ∧ S.2.2.1 S.1 ≠ -1) with hc | hc
        · rw [pif_p hc] at hsp
          obtain ⟨⟨T', hP'⟩, -⟩ := hP.step hs hsp
          obtain ⟨a, ea, a15, -⟩ := (hP.2.1 S.1 false (Nat.le_refl _)).resolve_left (hP.2.2.2.1 S.1 (Nat.le_refl _) hc.2)
          obtain ⟨b', eb, b15, -⟩ := (hP.2.1 S.1 true (Nat.le_refl _)).resolve_left hc.2
          have ea' : S.2.1 S.1 = nI a := ea
          have eb' : S.2.2.1 S.1 = nI b' := eb
          rw [ea', eb', nI_clamp (show a < 2 ^ 31 by omega), nI_clamp (show b' < 2 ^ 31 by omega)] at hsp
          have hJ : S.2.2.2.2.length < 7 := by
            have q := hP'.1.2.2.2
            rw [adp_1.2] at q
            have q14 := (q 14 (by decide) (by decide)).mp
            obtain ⟨⟨q1, q2, q3, q4⟩, -⟩ := hP'
            rcases Nat.lt_or_ge S.2.2.2.2.length 7 with z | z
            · exact z
            · exfalso
              obtain ⟨b2', eb2, b215, nb2, tb2, -⟩ := (hP.2.1 S.1 true (Nat.le_refl _)).resolve_left hc.2
              obtain ⟨a2', ea2, a215, na2, ta2, -⟩ := (hP.2.1 S.1 false (Nat.le_refl _)).resolve_left (hP.2.2.2.1 S.1 (Nat.le_refl _) hc.2)
              have hab : a2' ≠ b2' := fun w => by
                have := (hP.2.2.1 S.1 false S.1 true (Nat.le_refl _) (Nat.le_refl _) (ea2.trans (by rw [w]; exact eb2.symm)) (hP.2.2.2.1 S.1 (Nat.le_refl _) hc.2)).2
                cases this
              obtain ⟨j, hj⟩ := hP.1.2.2.1.free na2 nb2 hab ta2 tb2
              have := (hP.1.2.2.2 j hj.1.1 hj.1.2).mpr (by have := hj.1.2; omega)
              exact this hj.2.1
          refine st_go hK rfl rfl ?_
          refine st_go hK rfl rfl ?_
          refine st_ifn hK rfl rfl (not_congr (nI_eq (a := b) (b := 32) (by omega) (by omega))) (fun _ => ?_) (fun c => absurd b32 c)
          refine st_go hK rfl rfl ?_
          refine st_go hK rfl rfl ?_
          refine st_ifn hK rfl rfl (not_congr (nI_eq (a := b) (b := 40) (by omega) (by omega))) (fun _ => ?_) (fun c => absurd b40 c)
          refine st_go hK rfl rfl ?_
          refine st_go hK rfl rfl ?_
          refine st_ifn hK rfl rfl (not_congr (nI_eq (a := b) (b := 41) (by omega) (by omega))) (fun c => absurd c (fun z => z b41)) (fun _ => ?_)
          refine st_go hK rfl rfl ?_
          refine cv0 hK rfl qc_140 (Nat.le_of_ble_eq_true rfl) ?_
          refine z_closes h (by omega) hJ hc.1 ea' eb' b15 (fun τ2 hF2 hC2 => ?_)
          change K _ _ (_ :: _) _
          refine st_zret hK rfl (Or.inr rfl) ?_
          exact k1 _ hsp τ2 hF2 hC2
        · rw [pif_n hc] at hsp
          refine st_go hK rfl rfl ?_
          refine st_go hK rfl rfl ?_
          refine st_ifn hK rfl rfl (not_congr (nI_eq (a := b) (b := 32) (by omega) (by omega))) (fun _ => ?_) (fun c => absurd b32 c)
          refine st_go hK rfl rfl ?_
          refine st_go hK rfl rfl ?_
          refine st_ifn hK rfl rfl (not_congr (nI_eq (a := b) (b := 40) (by omega) (by omega))) (fun _ => ?_) (fun c => absurd b40 c)
          refine st_go hK rfl rfl ?_
          refine st_go hK rfl rfl ?_
          refine st_ifn hK rfl rfl (not_congr (nI_eq (a := b) (b := 41) (by omega) (by omega))) (fun c => absurd c (fun z => z b41)) (fun _ => ?_)
          refine st_go hK rfl rfl ?_
          refine cv0 hK rfl qc_140 (Nat.le_of_ble_eq_true rfl) ?_
          refine z_closes0 h (by omega) hc ?_
          change K _ _ (_ :: _) _
          refine st_zret hK rfl (Or.inl rfl) ?_
          exact k0 hsp
      · rw [if_neg b41] at hsp
        by_cases hk : 48 ≤ b ∧ b - 48 < s
        · obtain ⟨k, rfl⟩ : ∃ k, b = 48 + k := ⟨b - 48, by omega⟩
          rw [Nat.add_sub_cancel_left] at hsp
          have hks : k < s := by have := hk.2; rw [Nat.add_sub_cancel_left] at this; exact this
          refine st_go hK rfl rfl ?_
          refine st_go hK rfl rfl ?_
          refine st_ifn hK rfl rfl (not_congr (nI_eq (a := 48 + k) (b := 32) (by omega) (by omega))) (fun _ => ?_) (fun c => absurd b32 c)
          refine st_go hK rfl rfl ?_
          refine st_go hK rfl rfl ?_
          refine st_ifn hK rfl rfl (not_congr (nI_eq (a := 48 + k) (b := 40) (by omega) (by omega))) (fun _ => ?_) (fun c => absurd b40 c)
          refine st_go hK rfl rfl ?_
          refine st_go hK rfl rfl ?_
          refine st_ifn hK rfl rfl (not_congr (nI_eq (a := 48 + k) (b := 41) (by omega) (by omega))) (fun _ => ?_) (fun c => absurd b41 c)
          refine st_go hK rfl rfl ?_
          refine st_go hK rfl rfl ?_
          refine st_go hK rfl rfl ?_
          refine bnv (v := nI k) hK rfl ((nI_sub (a := 48 + k) (b := 48) (by omega)).trans (congrArg nI (by omega))) ?_
          refine st_go hK rfl rfl ?_
          refine cv2 hK rfl qc_140 (Nat.le_of_ble_eq_true rfl) ?_
          refine z_takes h (by omega) hM hs hks (fun hw τ2 hF2 hC2 => ?_) (fun hw => ?_)
          · change K _ _ (_ :: _) _
            refine st_zret hK rfl (Or.inr rfl) ?_
            rw [pif_p ⟨hw.1, by omega, hks, hw.2⟩] at hsp
            exact k1 _ hsp τ2 hF2 hC2
          · change K _ _ (_ :: _) _
            refine st_zret hK rfl (Or.inl rfl) ?_
            rw [pif_n (fun z => hw ⟨z.1, z.2.2.2⟩)] at hsp
            exact k0 hsp
        · have hno : ¬ (wt S ∧ 48 ≤ b ∧ b - 48 < s ∧ bitN S.2.2.2.1 (b - 48) = 0) := fun z => hk ⟨z.2.1, z.2.2.1⟩
          rw [pif_n hno] at hsp
          have hkk : ¬ (0 ≤ nI b - 48 ∧ nI b - 48 < nI s) := by
            rintro ⟨z1, z2⟩
            rcases Nat.lt_or_ge b 48 with q | q
            · have hneg : ∀ b : Fin 48, ¬ (0 : Int32) ≤ nI b.val - 48 := by decide +kernel
              exact hneg ⟨b, q⟩ z1
            · rw [show nI b - 48 = nI (b - 48) from nI_sub (b := 48) q] at z2
              exact hk ⟨q, (nI_ltI (by omega) (by omega)).mp z2⟩
          refine st_go hK rfl rfl ?_
          refine st_go hK rfl rfl ?_
          refine st_ifn hK rfl rfl (not_congr (nI_eq (a := b) (b := 32) (by omega) (by omega))) (fun _ => ?_) (fun c => absurd b32 c)
          refine st_go hK rfl rfl ?_
          refine st_go hK rfl rfl ?_
          refine st_ifn hK rfl rfl (not_congr (nI_eq (a := b) (b := 40) (by omega) (by omega))) (fun _ => ?_) (fun c => absurd b40 c)
          refine st_go hK rfl rfl ?_
          refine st_go hK rfl rfl ?_
          refine st_ifn hK rfl rfl (not_congr (nI_eq (a := b) (b := 41) (by omega) (by omega))) (fun _ => ?_) (fun c => absurd b41 c)
          refine st_go hK rfl rfl ?_
          refine st_go hK rfl rfl ?_
          refine st_go hK rfl rfl ?_
          refine bnv (v := (nI b - 48)) hK rfl rfl ?_
          refine st_go hK rfl rfl ?_
          refine cv2 hK rfl qc_140 (Nat.le_of_ble_eq_true rfl) ?_
          refine z_takes0 h (by omega) hkk ?_
          change K _ _ (_ :: _) _
          refine st_zret hK rfl (Or.inl rfl) ?_
          exact k0 hsp
/-- the fault of a text -/
def FA (s : Nat) (t : Nat → Nat) (n i : Nat) : Prop := (i < n ∧ ∃ S, rn s t i = some S ∧ stP s (t i) S = none) ∨ (i = n ∧ ∃ S, rn s t n = some S ∧ ¬ (S.1 = 0 ∧ S.2.1 0 ≠ -1))
theorem z_parse {σ : cw_V} {t : Nat → Nat} {n : Nat} (hs : s ≤ 8) (hn : n ≤ 60) (h5 : σ 140 5 = nI n) (ht : ∀ j, j < n → σ 141 j = nI (t j) ∧ t j ≤ 127) (k1 : ∀ S τ, rn s t n = some S → S.1 = 0 → S.2.1 0 ≠ -1 → TF σ τ → CSt τ S → Q (some (.int (-1))) (cw_B τ lam)) (k0 : ∀ i τ, FA s t n i → i ≤ n → TF σ τ → Q (some (.int (nI i))) (cw_B τ lam)) : cw_Z (d + 4) m_Text_parse [.ref 140, .int (nI s)] (cw_B σ lam) Q := by
  refine zi (L := [some (.ref 140), some (.int (nI s)), none]) rfl rfl (fun K hK => ?_)
  have loop : ∀ m i S τ, i + m = n → rn s t i = some S → TF σ τ → CSt τ S → K 31 [some (.ref 140), some (.int (nI s)), some (.int (nI i))] [] (cw_B τ lam) := by
    intro m
    induction m with
    | zero =>
      intro i S τ hi hr hF hC
      obtain rfl : i = n := by omega
      have e5 : τ 140 5 = nI i := (hF.2 5 (by decide)).trans h5
      have e0 := (hC.2.1 0 (Nat.zero_le _)).1
      have hD := (rn_ok hs i S hr).2
      by_cases hd0 : S.1 = 0
      · have e7 : τ 140 7 = nI 0 := by rw [hC.1.1, hd0]
        refine st_go hK rfl rfl ?_
        refine st_go hK rfl rfl ?_
        refine gi (v := nI i) hK rfl qf_140_5 e5 ?_
        refine st_ifn hK rfl rfl (nI_leI (a := i) (b := i) (by omega) (by omega)) (fun _ => ?_) (fun c => absurd (by omega) c)
        refine st_go hK rfl rfl ?_
        refine gi (v := nI 0) hK rfl qf_140_7 e7 ?_
        refine st_ifn hK rfl rfl (not_congr (nI_eq (a := 0) (b := 0) (by omega) (by omega))) (fun c => absurd c (by omega)) (fun _ => ?_)
        refine st_go hK rfl rfl ?_
        refine st_getr hK rfl qf_140_1 ?_
        refine st_go hK rfl rfl ?_
        refine ga (e := 0) (v := S.2.1 0) hK rfl qa_142 rfl (by decide) rfl e0 ?_
        refine st_go hK rfl rfl ?_
        refine st_if hK rfl rfl (fun c81 => ?_) (fun c81 => ?_)
        · refine st_go hK rfl rfl ?_
          refine gi (v := nI i) hK rfl qf_140_5 e5 ?_
          refine st_ret hK rfl rfl ?_
          exact k0 i τ (Or.inr ⟨rfl, S, hr, fun z => z.2 c81⟩) (Nat.le_refl _) hF
        · refine st_go hK rfl rfl ?_
          refine st_go hK rfl rfl ?_
          refine st_ret hK rfl rfl ?_
          exact k1 S τ hr hd0 c81 hF hC
      · have e7 : τ 140 7 = nI S.1 := hC.1.1
        refine st_go hK rfl rfl ?_
        refine st_go hK rfl rfl ?_
        refine gi (v := nI i) hK rfl qf_140_5 e5 ?_
        refine st_ifn hK rfl rfl (nI_leI (a := i) (b := i) (by omega) (by omega)) (fun _ => ?_) (fun c => absurd (by omega) c)
        refine st_go hK rfl rfl ?_
        refine gi (v := nI S.1) hK rfl qf_140_7 e7 ?_
        refine st_ifn hK rfl rfl (not_congr (nI_eq (a := S.1) (b := 0) (by omega) (by omega))) (fun _ => ?_) (fun c => absurd hd0 c)
        refine st_go hK rfl rfl ?_
        refine gi (v := nI i) hK rfl qf_140_5 e5 ?_
        refine st_ret hK rfl rfl ?_
        exact k0 i τ (Or.inr ⟨rfl, S, hr, fun z => hd0 z.1⟩) (Nat.le_refl _) hF
    | succ m ih =>
      intro i S τ hi hr hF hC
      have e5 : τ 140 5 = nI n := (hF.2 5 (by decide)).trans h5
      obtain ⟨⟨T, hP⟩, hD⟩ := rn_ok hs i S hr
      have eb : τ 141 i = nI (t i) := (congrFun (hF.1 141 (by decide) (by decide)) i).trans (ht i (by omega)).1
      refine st_go hK rfl rfl ?_
      refine st_go hK rfl rfl ?_
      refine gi (v := nI n) hK rfl qf_140_5 e5 ?_
      refine st_ifn hK rfl rfl (nI_leI (a := n) (b := i) (by omega) (by omega)) (fun c => absurd c (by omega)) (fun _ => ?_)
      refine st_go hK rfl rfl ?_
      refine st_go hK rfl rfl ?_
      refine st_ifn hK rfl rfl (nI_leI (a := 60) (b := i) (by omega) (by omega)) (fun c => absurd c (by omega)) (fun _ => ?_)
      refine st_go hK rfl rfl ?_
      refine st_go hK rfl rfl ?_
      refine st_getr hK rfl qf_140_0 ?_
      refine st_go hK rfl rfl ?_
      refine ga (e := i) (v := nI (t i)) hK rfl qa_141 rfl (by omega) rfl eb ?_
      refine st_go hK rfl rfl ?_
      refine cv2 hK rfl qc_140 (Nat.le_of_ble_eq_true rfl) ?_
      refine z_accepts hC (by omega) hP hs (ht i (by omega)).2 (fun S2 e2 τ2 hF2 hC2 => ?_) (fun e2 => ?_)
      · change K _ _ (_ :: _) _
        refine st_if hK rfl rfl (fun _ => ?_) (fun c => absurd (by decide) c)
        refine st_go hK rfl rfl ?_
        rw [nI_1]
        refine st_go hK rfl rfl ?_
        refine ih (i + 1) S2 τ2 (by omega) ?_ (hF.trans hF2) hC2
        show (rn s t i).bind (stP s (t i)) = some S2
        rw [hr]
        exact e2
      · change K _ _ (_ :: _) _
        refine st_if hK rfl rfl (fun c => absurd c (by decide)) (fun _ => ?_)
        refine st_go hK rfl rfl ?_
        refine st_ret hK rfl rfl ?_
        exact k0 i τ (Or.inl ⟨by omega, S, hr, e2⟩) (by omega) hF
  refine st_go hK rfl rfl ?_
  refine st_go hK rfl rfl ?_
  refine st_put hK rfl qf_140_6 rfl ?_
  refine st_go hK rfl rfl ?_
  refine st_go hK rfl rfl ?_
  refine st_put hK rfl qf_140_8 rfl ?_
  refine st_go hK rfl rfl ?_
  refine st_go hK rfl rfl ?_
  refine st_put hK rfl qf_140_7 rfl ?_
  refine st_go hK rfl rfl ?_
  refine st_getr hK rfl qf_140_1 ?_
  refine st_go hK rfl rfl ?_
  refine st_go hK rfl rfl ?_
  refine sa (e := 0) hK rfl qa_142 rfl (by decide) rfl ?_
  refine st_go hK rfl rfl ?_
  refine st_getr hK rfl qf_140_2 ?_
  refine st_go hK rfl rfl ?_
  refine st_go hK rfl rfl ?_
  refine sa (e := 0) hK rfl qa_143 rfl (by decide) rfl ?_
  refine st_go hK rfl rfl ?_
  refine st_go hK rfl rfl ?_
  change K _ [some (.ref 140), some (.int (nI s)), some (.int (0 : Int32))] _ _
  refine loop n 0 S0 _ (by omega) rfl ⟨fun p p1 p2 => by rw [up_ne (by omega), up_ne (by omega), up_ne p1, up_ne p1, up_ne p1], fun k hk => ?_⟩ ⟨⟨?_, ?_, ?_⟩, fun d hd => ?_, fun i a b e => by cases e⟩
  · rw [up_ne (by decide), up_ne (by decide), up_eq, upd_ne (by omega), up_eq, upd_ne (by omega), up_eq, upd_ne (by omega)]
  · simp [cw_up, upd]; rfl
  · simp [cw_up, upd]; rfl
  · simp [cw_up, upd]; rfl
  · obtain rfl : d = 0 := by have : d ≤ 0 := hd; omega
    simp [cw_up, upd, S0]
end

