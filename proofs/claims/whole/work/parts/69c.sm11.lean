/-! THE CALLS: builds -/
theorem rn_none {s : Nat} {t : Nat → Nat} {i : Nat} (h : rn s t i = none) : ∀ m, rn s t (i + m) = none := by
  intro m
  induction m with
  | zero => exact h
  | succ m ih =>
    show (rn s t (i + m)).bind (stP s (t (i + m))) = none
    rw [ih]
    rfl
theorem FA.nx {s n i : Nat} {t : Nat → Nat} (h : i < n ∧ ∃ S, rn s t i = some S ∧ stP s (t i) S = none) : ∀ j, i < j → rn s t j = none := fun j hj => by
  obtain ⟨h1, S, h2, h3⟩ := h
  have h4 : rn s t (i + 1) = none := by
    show (rn s t i).bind (stP s (t i)) = none
    rw [h2]
    exact h3
  have := rn_none h4 (j - (i + 1))
  rw [show i + 1 + (j - (i + 1)) = j by omega] at this
  exact this
theorem FA.uni {s n i i' : Nat} {t : Nat → Nat} (h : FA s t n i) (h' : FA s t n i') : i = i' := by
  have key : ∀ {i i' : Nat}, FA s t n i → FA s t n i' → ¬ i < i' := fun {i i'} h h' hlt => by
    rcases h with a | a
    · have hn := FA.nx a i' hlt
      rcases h' with ⟨_, S, e, _⟩ | ⟨e0, S, e, _⟩
      · rw [hn] at e; cases e
      · rw [← e0, hn] at e; cases e
    · rcases h' with ⟨q, _⟩ | ⟨q, _⟩ <;> (have := a.1; omega)
  rcases Nat.lt_trichotomy i i' with q | q | q
  · exact absurd q (key h h')
  · exact q
  · exact absurd q (key h' h)
theorem FA.no {s n i : Nat} {t : Nat → Nat} {S : PS} (h : FA s t n i) (e : rn s t n = some S) (h0 : S.1 = 0) (hf : S.2.1 0 ≠ -1) : False := by
  rcases h with a | ⟨_, S', e', hn⟩
  · have := FA.nx a n a.1
    rw [e] at this
    cases this
  · rw [e] at e'
    cases e'
    exact hn ⟨h0, hf⟩
theorem TF.sc {σ τ : cw_V} (h : TF σ τ) : SC σ τ := ⟨fun p hp => h.1 p (by omega) (by omega), h.2 5 (by decide), fun k hk => by rw [h.1 146 (by decide) (by decide)]⟩
theorem FRm.sc {σ τ : cw_V} (h : FRm false σ τ) : SC σ τ := by
  refine ⟨fun p hp => ?_, by rw [h.1.1 140 (by omega)], fun k hk => h.1.2 k hk⟩
  by_cases z : 150 ≤ p ∧ p ≤ 153
  · exact h.2 rfl p z.1 z.2
  · exact h.1.1 p (by omega)
theorem jc_len {σ : cw_V} {T : TT} {L : Nat} (h : ∀ n, 8 ≤ n → n < 15 → (T.1 n ≠ -1 ↔ n < 8 + L)) (hL : L ≤ 7) : jcN (vT σ T) 1 7 = L := by
  have key : ∀ m, m ≤ 7 → jcN (vT σ T) 1 m = if m ≤ L then m else L := by
    intro m
    induction m with
    | zero => intro _; rw [if_pos (by omega)]; rfl
    | succ m ih =>
      intro hm
      show jcN (vT σ T) 1 m + (if T.1 (8 + m) ≠ -1 then 1 else 0) = _
      rw [ih (by omega)]
      have q := h (8 + m) (by omega) (by omega)
      by_cases z : m < L
      · rw [if_pos (by omega), if_pos (q.mpr (by omega)), if_pos (by omega)]
      · have hif : (if T.1 (8 + m) ≠ -1 then 1 else 0) = 0 := if_neg (fun w => z (by have := q.mp w; omega))
        rw [hif]
        split <;> split <;> omega
  rw [key 7 (by omega)]
  split <;> omega
section
variable {d s n : Nat} {σ υ : cw_V} {t : Nat → Nat} {lam : Nat → Int64} {Q : cw_Q}
theorem z_readsAll0 (hs : s ≤ 8) (hn : n ≤ 60) (hS1 : υ 146 1 = nI s) (h36 : υ 146 36 = nI n) (ht : ∀ j, j < n → υ 170 j = nI (t j) ∧ t j ≤ 127) (hT : false = true → MW υ s ∧ TE (mv υ) 1 (vT σ T0) 1) (k1 : ∀ S υ', rn s t n = some S → S.1 = 0 → S.2.1 0 ≠ -1 → FRm false υ υ' → MSt false σ υ' s S → Q (some (.int 1)) (cw_B υ' lam)) (k0 : ∀ i υ', FA s t n i → FRm false υ υ' → υ' 146 40 = nI i → Q (some (.int 0)) (cw_B υ' lam)) : cw_Z (d + 4) m_Mo_readsAll [.ref 146, .int 0] (cw_B υ lam) Q := by
  refine zi (L := [some (.ref 146), some (.int 0), none]) rfl rfl (fun K hK => ?_)
  have main : ∀ m r S ξ, n ≤ r + m → r ≤ n → rn s t r = some S → FRm false υ ξ → ξ 146 37 = nI r → MSt false σ ξ s S → K 38 [some (.ref 146), some (.int 0), some (.int 1)] [] (cw_B ξ lam) := by
    intro m
    induction m with
    | zero =>
      intro r S ξ hm hr hrn hF h37 hM
      have x1 : ξ 146 1 = nI s := (hF.1.2 1 (by decide)).trans hS1
      have x36 : ξ 146 36 = nI n := (hF.1.2 36 (by decide)).trans h36
      have xt : ∀ j, j < n → ξ 170 j = nI (t j) ∧ t j ≤ 127 := fun j hj => by rw [hF.1.1 170 (by omega)]; exact ht j hj
      obtain ⟨⟨T, hP⟩, hDr⟩ := rn_ok hs r S hrn
      by_cases hf0 : S.2.1 0 = -1
      · have ew : ξ 146 42 = -1 := hM.2.2.2.1.mpr hf0
        refine st_go hK rfl rfl ?_
        refine st_if hK rfl rfl (fun c => absurd c (by decide)) (fun _ => ?_)
        refine st_go hK rfl rfl ?_
        refine gi (v := (-1 : Int32)) hK rfl qf_146_42 ew ?_
        refine st_go hK rfl rfl ?_
        refine st_if hK rfl rfl (fun c => absurd c (by decide)) (fun _ => ?_)
        refine st_go hK rfl rfl ?_
        refine st_go hK rfl rfl ?_
        refine cv1 hK rfl qc_146 (Nat.le_of_ble_eq_true rfl) ?_
        refine z_reads0 hs hn x1 x36 xt hr h37 hrn hf0 hM (fun r2 S2 ξ2 q1 q2 q3 q4 q5 q6 => ?_) (fun r2 ξ2 q1 q2 q3 => ?_)
        · change K _ _ (_ :: _) _
          refine st_go hK rfl rfl ?_
          change K _ [some (.ref 146), some (.int (0 : Int32)), some (.int (1 : Int32))] _ _
          refine st_go hK rfl rfl ?_
          omega
        · change K _ _ (_ :: _) _
          refine st_go hK rfl rfl ?_
          change K _ [some (.ref 146), some (.int (0 : Int32)), some (.int (0 : Int32))] _ _
          refine st_go hK rfl rfl ?_
          refine st_go hK rfl rfl ?_
          refine st_if hK rfl rfl (fun _ => ?_) (fun c => absurd (by decide) c)
          refine st_go hK rfl rfl ?_
          refine st_if hK rfl rfl (fun _ => ?_) (fun c => absurd (by decide) c)
          refine st_go hK rfl rfl ?_
          refine st_zret hK rfl (Or.inl rfl) ?_
          exact k0 r2 ξ2 q1 (hF.trans q2) q3
      · have ew : ¬ ξ 146 42 = -1 := fun z => hf0 (hM.2.2.2.1.mp z)
        have hd0 : S.1 = 0 := by
          rcases Nat.eq_zero_or_pos S.1 with z | z
          · exact z
          · rcases hP.2.2.2.2.2.1 0 z with q | q
            · exact absurd q hf0
            · omega
        refine st_go hK rfl rfl ?_
        refine st_if hK rfl rfl (fun c => absurd c (by decide)) (fun _ => ?_)
        refine st_go hK rfl rfl ?_
        refine gi (v := ξ 146 42) hK rfl qf_146_42 rfl ?_
        refine st_go hK rfl rfl ?_
        refine st_if hK rfl rfl (fun _ => ?_) (fun c => absurd ew c)
        refine st_go hK rfl rfl ?_
        refine st_if hK rfl rfl (fun c => absurd c (by decide)) (fun _ => ?_)
        refine st_go hK rfl rfl ?_
        refine cv0 hK rfl qc_146 (Nat.le_of_ble_eq_true rfl) ?_
        refine z_here h37 x36 hr hn xt (fun r' q1 q2 q3 q4 => ?_)
        change K _ _ (_ :: _) _
        have hr' : rn s t r' = some S := by
          have := rn_blank hrn (r' - r) (fun j h1 h2 => q3 j h1 (by omega))
          rw [show r + (r' - r) = r' by omega] at this
          exact this
        by_cases hlt : r' < n
        · rw [if_pos hlt]
          have hb127 := (ht r' hlt).2
          have e37 : cw_up ξ 146 37 (nI r') 146 37 = nI r' := by rw [up_eq, upd_eq]
          have hnw : ¬ wt S := by
            rintro (z | z)
            · rw [hd0] at z; exact hf0 z
            · omega
          have hFA : FA s t n r' := by
            refine Or.inl ⟨hlt, S, hr', ?_⟩
            unfold stP
            rw [if_neg (q4 hlt)]
            by_cases b40 : t r' = 40
            · rw [if_pos b40, pif_n hnw]
            · rw [if_neg b40]
              by_cases b41 : t r' = 41
              · rw [if_pos b41, pif_n (fun z => by omega)]
              · rw [if_neg b41, pif_n (fun z => hnw z.1)]
          refine st_go hK rfl rfl ?_
          refine st_if hK rfl rfl (fun c => absurd c (nI_ne1 (by omega))) (fun _ => ?_)
          refine st_go hK rfl rfl ?_
          refine st_go hK rfl rfl ?_
          refine gi (v := nI r') hK rfl qf_146_37 e37 ?_
          refine st_put hK rfl qf_146_40 rfl ?_
          refine st_go hK rfl rfl ?_
          refine st_go hK rfl rfl ?_
          change K _ [some (.ref 146), some (.int (0 : Int32)), some (.int (0 : Int32))] _ _
          refine st_go hK rfl rfl ?_
          refine st_zret hK rfl (Or.inl rfl) ?_
          exact k0 r' _ hFA ((hF.trans (fr_up (by decide))).trans (fr_up (by decide))) (by rw [up_eq, upd_eq])
        · rw [if_neg hlt]
          have hrn2 : r' = n := by omega
          refine st_go hK rfl rfl ?_
          refine st_if hK rfl rfl (fun _ => ?_) (fun c => absurd (by decide) c)
          refine st_go hK rfl rfl ?_
          refine st_zret hK rfl (Or.inr rfl) ?_
          obtain ⟨m1, m2, m3, m4, m5⟩ := hM
          refine k1 S _ (by rw [← hrn2]; exact hr') hd0 hf0 (hF.trans (fr_up (by decide))) ⟨by rw [up_eq, upd_ne (by decide)]; exact m1, fun d hd => by rw [up_ne (by decide)]; exact m2 d hd, fun k hk => by rw [up_ne (by decide)]; exact m3 k hk, by rw [up_eq, upd_ne (by decide)]; exact m4, fun e => ⟨fun d hd => by rw [up_ne (by decide), up_ne (by decide)]; exact (m5 e).1 d hd, ?_⟩⟩
          exact mst_tree (m5 e).2 (fun k hk => by rw [up_eq, upd_ne (by omega)]) (fun p h1 h2 => up_ne (by omega))
    | succ m ih =>
      intro r S ξ hm hr hrn hF h37 hM
      have x1 : ξ 146 1 = nI s := (hF.1.2 1 (by decide)).trans hS1
      have x36 : ξ 146 36 = nI n := (hF.1.2 36 (by decide)).trans h36
      have xt : ∀ j, j < n → ξ 170 j = nI (t j) ∧ t j ≤ 127 := fun j hj => by rw [hF.1.1 170 (by omega)]; exact ht j hj
      obtain ⟨⟨T, hP⟩, hDr⟩ := rn_ok hs r S hrn
      by_cases hf0 : S.2.1 0 = -1
      · have ew : ξ 146 42 = -1 := hM.2.2.2.1.mpr hf0
        refine st_go hK rfl rfl ?_
        refine st_if hK rfl rfl (fun c => absurd c (by decide)) (fun _ => ?_)
        refine st_go hK rfl rfl ?_
        refine gi (v := (-1 : Int32)) hK rfl qf_146_42 ew ?_
        refine st_go hK rfl rfl ?_
        refine st_if hK rfl rfl (fun c => absurd c (by decide)) (fun _ => ?_)
        refine st_go hK rfl rfl ?_
        refine st_go hK rfl rfl ?_
        refine cv1 hK rfl qc_146 (Nat.le_of_ble_eq_true rfl) ?_
        refine z_reads0 hs hn x1 x36 xt hr h37 hrn hf0 hM (fun r2 S2 ξ2 q1 q2 q3 q4 q5 q6 => ?_) (fun r2 ξ2 q1 q2 q3 => ?_)
        · change K _ _ (_ :: _) _
          refine st_go hK rfl rfl ?_
          change K _ [some (.ref 146), some (.int (0 : Int32)), some (.int (1 : Int32))] _ _
          refine st_go hK rfl rfl ?_
          exact ih (r2 + 1) S2 ξ2 (by omega) (by omega) q3 (hF.trans q4) q5 q6
        · change K _ _ (_ :: _) _
          refine st_go hK rfl rfl ?_
          change K _ [some (.ref 146), some (.int (0 : Int32)), some (.int (0 : Int32))] _ _
          refine st_go hK rfl rfl ?_
          refine st_go hK rfl rfl ?_
          refine st_if hK rfl rfl (fun _ => ?_) (fun c => absurd (by decide) c)
          refine st_go hK rfl rfl ?_
          refine st_if hK rfl rfl (fun _ => ?_) (fun c => absurd (by decide) c)
          refine st_go hK rfl rfl ?_
          refine st_zret hK rfl (Or.inl rfl) ?_
          exact k0 r2 ξ2 q1 (hF.trans q2) q3
      · have ew : ¬ ξ 146 42 = -1 := fun z => hf0 (hM.2.2.2.1.mp z)
        have hd0 : S.1 = 0 := by
          rcases Nat.eq_zero_or_pos S.1 with z | z
          · exact z
          · rcases hP.2.2.2.2.2.1 0 z with q | q
            · exact absurd q hf0
            · omega
        refine st_go hK rfl rfl ?_
        refine st_if hK rfl rfl (fun c => absurd c (by decide)) (fun _ => ?_)
        refine st_go hK rfl rfl ?_
        refine gi (v := ξ 146 42) hK rfl qf_146_42 rfl ?_
        refine st_go hK rfl rfl ?_
        refine st_if hK rfl rfl (fun _ => ?_) (fun c => absurd ew c)
        refine st_go hK rfl rfl ?_
        refine st_if hK rfl rfl (fun c => absurd c (by decide)) (fun _ => ?_)
        refine st_go hK rfl rfl ?_
        refine cv0 hK rfl qc_146 (Nat.le_of_ble_eq_true rfl) ?_
        refine z_here h37 x36 hr hn xt (fun r' q1 q2 q3 q4 => ?_)
        change K _ _ (_ :: _) _
        have hr' : rn s t r' = some S := by
          have := rn_blank hrn (r' - r) (fun j h1 h2 => q3 j h1 (by omega))
          rw [show r + (r' - r) = r' by omega] at this
          exact this
        by_cases hlt : r' < n
        · rw [if_pos hlt]
          have hb127 := (ht r' hlt).2
          have e37 : cw_up ξ 146 37 (nI r') 146 37 = nI r' := by rw [up_eq, upd_eq]
          have hnw : ¬ wt S := by
            rintro (z | z)
            · rw [hd0] at z; exact hf0 z
            · omega
          have hFA : FA s t n r' := by
            refine Or.inl ⟨hlt, S, hr', ?_⟩
            unfold stP
            rw [if_neg (q4 hlt)]
            by_cases b40 : t r' = 40
            · rw [if_pos b40, pif_n hnw]
            · rw [if_neg b40]
              by_cases b41 : t r' = 41
              · rw [if_pos b41, pif_n (fun z => by omega)]
              · rw [if_neg b41, pif_n (fun z => hnw z.1)]
          refine st_go hK rfl rfl ?_
          refine st_if hK rfl rfl (fun c => absurd c (nI_ne1 (by omega))) (fun _ => ?_)
          refine st_go hK rfl rfl ?_
          refine st_go hK rfl rfl ?_
          refine gi (v := nI r') hK rfl qf_146_37 e37 ?_
          refine st_put hK rfl qf_146_40 rfl ?_
          refine st_go hK rfl rfl ?_
          refine st_go hK rfl rfl ?_
          change K _ [some (.ref 146), some (.int (0 : Int32)), some (.int (0 : Int32))] _ _
          refine st_go hK rfl rfl ?_
          refine st_zret hK rfl (Or.inl rfl) ?_
          exact k0 r' _ hFA ((hF.trans (fr_up (by decide))).trans (fr_up (by decide))) (by rw [up_eq, upd_eq])
        · rw [if_neg hlt]
          have hrn2 : r' = n := by omega
          refine st_go hK rfl rfl ?_
          refine st_if hK rfl rfl (fun _ => ?_) (fun c => absurd (by decide) c)
          refine st_go hK rfl rfl ?_
          refine st_zret hK rfl (Or.inr rfl) ?_
          obtain ⟨m1, m2, m3, m4, m5⟩ := hM
          refine k1 S _ (by rw [← hrn2]; exact hr') hd0 hf0 (hF.trans (fr_up (by decide))) ⟨by rw [up_eq, upd_ne (by decide)]; exact m1, fun d hd => by rw [up_ne (by decide)]; exact m2 d hd, fun k hk => by rw [up_ne (by decide)]; exact m3 k hk, by rw [up_eq, upd_ne (by decide)]; exact m4, fun e => ⟨fun d hd => by rw [up_ne (by decide), up_ne (by decide)]; exact (m5 e).1 d hd, ?_⟩⟩
          exact mst_tree (m5 e).2 (fun k hk => by rw [up_eq, upd_ne (by omega)]) (fun p h1 h2 => up_ne (by omega))
  have l0 : ∀ m i ξ, i + m = 8 → (∀ p, p ≠ 172 → ξ p = (cw_up (cw_up (cw_up υ 146 37 (0 : Int32)) 146 39 (0 : Int32)) 146 42 (-1 : Int32)) p) → (∀ k, k < i → ξ 172 k = 0) → K 17 [some (.ref 146), some (.int 0), some (.int (nI i))] [] (cw_B ξ lam) := by
    intro m
    induction m with
    | zero =>
      intro i ξ hi h1 h2
      obtain rfl : i = 8 := by omega
      refine st_go hK rfl rfl ?_
      refine st_go hK rfl rfl ?_
      refine st_ifn hK rfl rfl (nI_leI (a := 8) (b := 8) (by omega) (by omega)) (fun _ => ?_) (fun c => absurd (by omega) c)
      refine st_go hK rfl rfl ?_
      refine st_go hK rfl rfl ?_
      change K _ [some (.ref 146), some (.int (0 : Int32)), some (.int (1 : Int32))] _ _
      have fr : FRm false υ ξ := by
        refine ⟨⟨fun p hp => ?_, fun k hk => ?_⟩, fun _ p p1 p2 => ?_⟩
        · rw [h1 p (by omega), up_ne (by omega), up_ne (by omega), up_ne (by omega)]
        · rw [h1 146 (by decide), up_eq, upd_ne (by omega), up_eq, upd_ne (by omega), up_eq, upd_ne (by omega)]
        · rw [h1 p (by omega), up_ne (by omega), up_ne (by omega), up_ne (by omega)]
      refine main n 0 S0 ξ (by omega) (by omega) rfl fr (by rw [h1 146 (by decide)]; simp [cw_up, upd]; rfl) ⟨by rw [h1 146 (by decide)]; simp [cw_up, upd]; rfl, fun d hd => by have : d < 0 := hd; omega, fun k hk => ?_, ?_, fun e => ⟨fun d hd => by have : d < 0 := hd; omega, ?_⟩⟩
      · rw [h2 k hk]
        show (0 : Int32) = nI (0 / 2 ^ k % 2)
        rw [Nat.zero_div]; rfl
      · rw [h1 146 (by decide)]
        simp [cw_up, upd, S0]
      · exact mst_tree (hT e) (fun k hk => by rw [h1 146 (by decide), up_eq, upd_ne (by omega), up_eq, upd_ne (by omega), up_eq, upd_ne (by omega)]) (fun p p1 p2 => by rw [h1 p (by omega), up_ne (by omega), up_ne (by omega), up_ne (by omega)])
    | succ m ih =>
      intro i ξ hi h1 h2
      refine st_go hK rfl rfl ?_
      refine st_go hK rfl rfl ?_
      refine st_ifn hK rfl rfl (nI_leI (a := 8) (b := i) (by omega) (by omega)) (fun c => absurd c (by omega)) (fun _ => ?_)
      refine st_go hK rfl rfl ?_
      refine st_getr hK rfl qf_146_41 ?_
      refine st_go hK rfl rfl ?_
      refine st_go hK rfl rfl ?_
      refine sa (e := i) hK rfl qa_172 rfl (by omega) rfl ?_
      refine st_go hK rfl rfl ?_
      rw [nI_1]
      refine st_go hK rfl rfl ?_
      refine ih (i + 1) _ (by omega) (fun p hp => by rw [up_ne hp, h1 p hp]) (fun k hk => ?_)
      rw [up_eq]
      by_cases z : k = i
      · rw [z, upd_eq]
      · rw [upd_ne z, h2 k (by omega)]
  refine st_go hK rfl rfl ?_
  refine st_go hK rfl rfl ?_
  refine st_put hK rfl qf_146_37 rfl ?_
  refine st_go hK rfl rfl ?_
  refine st_go hK rfl rfl ?_
  refine st_put hK rfl qf_146_39 rfl ?_
  refine st_go hK rfl rfl ?_
  refine st_go hK rfl rfl ?_
  refine st_put hK rfl qf_146_42 rfl ?_
  refine st_go hK rfl rfl ?_
  refine st_go hK rfl rfl ?_
  change K _ [some (.ref 146), some (.int (0 : Int32)), some (.int (0 : Int32))] _ _
  exact l0 8 0 _ (by omega) (fun _ _ => rfl) (fun k hk => by omega)
theorem z_readsAll1 (hs : s ≤ 8) (hn : n ≤ 60) (hS1 : υ 146 1 = nI s) (h36 : υ 146 36 = nI n) (ht : ∀ j, j < n → υ 170 j = nI (t j) ∧ t j ≤ 127) (hT : true = true → MW υ s ∧ TE (mv υ) 1 (vT σ T0) 1) (k1 : ∀ S υ', rn s t n = some S → S.1 = 0 → S.2.1 0 ≠ -1 → FRm true υ υ' → MSt true σ υ' s S → Q (some (.int 1)) (cw_B υ' lam)) (k0 : ∀ i υ', FA s t n i → FRm true υ υ' → υ' 146 40 = nI i → Q (some (.int 0)) (cw_B υ' lam)) : cw_Z (d + 4) m_Mo_readsAll [.ref 146, .int 1] (cw_B υ lam) Q := by
  refine zi (L := [some (.ref 146), some (.int 1), none]) rfl rfl (fun K hK => ?_)
  have main : ∀ m r S ξ, n ≤ r + m → r ≤ n → rn s t r = some S → FRm true υ ξ → ξ 146 37 = nI r → MSt true σ ξ s S → K 38 [some (.ref 146), some (.int 1), some (.int 1)] [] (cw_B ξ lam) := by
    intro m
    induction m with
    | zero =>
      intro r S ξ hm hr hrn hF h37 hM
      have x1 : ξ 146 1 = nI s := (hF.1.2 1 (by decide)).trans hS1
      have x36 : ξ 146 36 = nI n := (hF.1.2 36 (by decide)).trans h36
      have xt : ∀ j, j < n → ξ 170 j = nI (t j) ∧ t j ≤ 127 := fun j hj => by rw [hF.1.1 170 (by omega)]; exact ht j hj
      obtain ⟨⟨T, hP⟩, hDr⟩ := rn_ok hs r S hrn
      by_cases hf0 : S.2.1 0 = -1
      · have ew : ξ 146 42 = -1 := hM.2.2.2.1.mpr hf0
        refine st_go hK rfl rfl ?_
        refine st_if hK rfl rfl (fun c => absurd c (by decide)) (fun _ => ?_)
        refine st_go hK rfl rfl ?_
        refine gi (v := (-1 : Int32)) hK rfl qf_146_42 ew ?_
        refine st_go hK rfl rfl ?_
        refine st_if hK rfl rfl (fun c => absurd c (by decide)) (fun _ => ?_)
        refine st_go hK rfl rfl ?_
        refine st_go hK rfl rfl ?_
        refine cv1 hK rfl qc_146 (Nat.le_of_ble_eq_true rfl) ?_
        refine z_reads1 hs hn x1 x36 xt hr h37 hrn hf0 hM (fun r2 S2 ξ2 q1 q2 q3 q4 q5 q6 => ?_) (fun r2 ξ2 q1 q2 q3 => ?_)
        · change K _ _ (_ :: _) _
          refine st_go hK rfl rfl ?_
          change K _ [some (.ref 146), some (.int (1 : Int32)), some (.int (1 : Int32))] _ _
          refine st_go hK rfl rfl ?_
          omega
        · change K _ _ (_ :: _) _
          refine st_go hK rfl rfl ?_
          change K _ [some (.ref 146), some (.int (1 : Int32)), some (.int (0 : Int32))] _ _
          refine st_go hK rfl rfl ?_
          refine st_go hK rfl rfl ?_
          refine st_if hK rfl rfl (fun _ => ?_) (fun c => absurd (by decide) c)
          refine st_go hK rfl rfl ?_
          refine st_if hK rfl rfl (fun _ => ?_) (fun c => absurd (by decide) c)
          refine st_go hK rfl rfl ?_
          refine st_zret hK rfl (Or.inl rfl) ?_
          exact k0 r2 ξ2 q1 (hF.trans q2) q3
      · have ew : ¬ ξ 146 42 = -1 := fun z => hf0 (hM.2.2.2.1.mp z)
        have hd0 : S.1 = 0 := by
          rcases Nat.eq_zero_or_pos S.1 with z | z
          · exact z
          · rcases hP.2.2.2.2.2.1 0 z with q | q
            · exact absurd q hf0
            · omega
        refine st_go hK rfl rfl ?_
        refine st_if hK rfl rfl (fun c => absurd c (by decide)) (fun _ => ?_)
        refine st_go hK rfl rfl ?_
        refine gi (v := ξ 146 42) hK rfl qf_146_42 rfl ?_
        refine st_go hK rfl rfl ?_
        refine st_if hK rfl rfl (fun _ => ?_) (fun c => absurd ew c)
        refine st_go hK rfl rfl ?_
        refine st_if hK rfl rfl (fun c => absurd c (by decide)) (fun _ => ?_)
        refine st_go hK rfl rfl ?_
        refine cv0 hK rfl qc_146 (Nat.le_of_ble_eq_true rfl) ?_
        refine z_here h37 x36 hr hn xt (fun r' q1 q2 q3 q4 => ?_)
        change K _ _ (_ :: _) _
        have hr' : rn s t r' = some S := by
          have := rn_blank hrn (r' - r) (fun j h1 h2 => q3 j h1 (by omega))
          rw [show r + (r' - r) = r' by omega] at this
          exact this
        by_cases hlt : r' < n
        · rw [if_pos hlt]
          have hb127 := (ht r' hlt).2
          have e37 : cw_up ξ 146 37 (nI r') 146 37 = nI r' := by rw [up_eq, upd_eq]
          have hnw : ¬ wt S := by
            rintro (z | z)
            · rw [hd0] at z; exact hf0 z
            · omega
          have hFA : FA s t n r' := by
            refine Or.inl ⟨hlt, S, hr', ?_⟩
            unfold stP
            rw [if_neg (q4 hlt)]
            by_cases b40 : t r' = 40
            · rw [if_pos b40, pif_n hnw]
            · rw [if_neg b40]
              by_cases b41 : t r' = 41
              · rw [if_pos b41, pif_n (fun z => by omega)]
              · rw [if_neg b41, pif_n (fun z => hnw z.1)]
          refine st_go hK rfl rfl ?_
          refine st_if hK rfl rfl (fun c => absurd c (nI_ne1 (by omega))) (fun _ => ?_)
          refine st_go hK rfl rfl ?_
          refine st_go hK rfl rfl ?_
          refine gi (v := nI r') hK rfl qf_146_37 e37 ?_
          refine st_put hK rfl qf_146_40 rfl ?_
          refine st_go hK rfl rfl ?_
          refine st_go hK rfl rfl ?_
          change K _ [some (.ref 146), some (.int (1 : Int32)), some (.int (0 : Int32))] _ _
          refine st_go hK rfl rfl ?_
          refine st_zret hK rfl (Or.inl rfl) ?_
          exact k0 r' _ hFA ((hF.trans (fr_up (by decide))).trans (fr_up (by decide))) (by rw [up_eq, upd_eq])
        · rw [if_neg hlt]
          have hrn2 : r' = n := by omega
          refine st_go hK rfl rfl ?_
          refine st_if hK rfl rfl (fun _ => ?_) (fun c => absurd (by decide) c)
          refine st_go hK rfl rfl ?_
          refine st_zret hK rfl (Or.inr rfl) ?_
          obtain ⟨m1, m2, m3, m4, m5⟩ := hM
          refine k1 S _ (by rw [← hrn2]; exact hr') hd0 hf0 (hF.trans (fr_up (by decide))) ⟨by rw [up_eq, upd_ne (by decide)]; exact m1, fun d hd => by rw [up_ne (by decide)]; exact m2 d hd, fun k hk => by rw [up_ne (by decide)]; exact m3 k hk, by rw [up_eq, upd_ne (by decide)]; exact m4, fun e => ⟨fun d hd => by rw [up_ne (by decide), up_ne (by decide)]; exact (m5 e).1 d hd, ?_⟩⟩
          exact mst_tree (m5 e).2 (fun k hk => by rw [up_eq, upd_ne (by omega)]) (fun p h1 h2 => up_ne (by omega))
    | succ m ih =>
      intro r S ξ hm hr hrn hF h37 hM
      have x1 : ξ 146 1 = nI s := (hF.1.2 1 (by decide)).trans hS1
      have x36 : ξ 146 36 = nI n := (hF.1.2 36 (by decide)).trans h36
      have xt : ∀ j, j < n → ξ 170 j = nI (t j) ∧ t j ≤ 127 := fun j hj => by rw [hF.1.1 170 (by omega)]; exact ht j hj
      obtain ⟨⟨T, hP⟩, hDr⟩ := rn_ok hs r S hrn
      by_cases hf0 : S.2.1 0 = -1
      · have ew : ξ 146 42 = -1 := hM.2.2.2.1.mpr hf0
        refine st_go hK rfl rfl ?_
        refine st_if hK rfl rfl (fun c => absurd c (by decide)) (fun _ => ?_)
        refine st_go hK rfl rfl ?_
        refine gi (v := (-1 : Int32)) hK rfl qf_146_42 ew ?_
        refine st_go hK rfl rfl ?_
        refine st_if hK rfl rfl (fun c => absurd c (by decide)) (fun _ => ?_)
        refine st_go hK rfl rfl ?_
        refine st_go hK rfl rfl ?_
        refine cv1 hK rfl qc_146 (Nat.le_of_ble_eq_true rfl) ?_
        refine z_reads1 hs hn x1 x36 xt hr h37 hrn hf0 hM (fun r2 S2 ξ2 q1 q2 q3 q4 q5 q6 => ?_) (fun r2 ξ2 q1 q2 q3 => ?_)
        · change K _ _ (_ :: _) _
          refine st_go hK rfl rfl ?_
          change K _ [some (.ref 146), some (.int (1 : Int32)), some (.int (1 : Int32))] _ _
          refine st_go hK rfl rfl ?_
          exact ih (r2 + 1) S2 ξ2 (by omega) (by omega) q3 (hF.trans q4) q5 q6
        · change K _ _ (_ :: _) _
          refine st_go hK rfl rfl ?_
          change K _ [some (.ref 146), some (.int (1 : Int32)), some (.int (0 : Int32))] _ _
          refine st_go hK rfl rfl ?_
          refine st_go hK rfl rfl ?_
          refine st_if hK rfl rfl (fun _ => ?_) (fun c => absurd (by decide) c)
          refine st_go hK rfl rfl ?_
          refine st_if hK rfl rfl (fun _ => ?_) (fun c => absurd (by decide) c)
          refine st_go hK rfl rfl ?_
          refine st_zret hK rfl (Or.inl rfl) ?_
          exact k0 r2 ξ2 q1 (hF.trans q2) q3
      · have ew : ¬ ξ 146 42 = -1 := fun z => hf0 (hM.2.2.2.1.mp z)
        have hd0 : S.1 = 0 := by
          rcases Nat.eq_zero_or_pos S.1 with z | z
          · exact z
          · rcases hP.2.2.2.2.2.1 0 z with q | q
            · exact absurd q hf0
            · omega
        refine st_go hK rfl rfl ?_
        refine st_if hK rfl rfl (fun c => absurd c (by decide)) (fun _ => ?_)
        refine st_go hK rfl rfl ?_
        refine gi (v := ξ 146 42) hK rfl qf_146_42 rfl ?_
        refine st_go hK rfl rfl ?_
        refine st_if hK rfl rfl (fun _ => ?_) (fun c => absurd ew c)
        refine st_go hK rfl rfl ?_
        refine st_if hK rfl rfl (fun c => absurd c (by decide)) (fun _ => ?_)
        refine st_go hK rfl rfl ?_
        refine cv0 hK rfl qc_146 (Nat.le_of_ble_eq_true rfl) ?_
        refine z_here h37 x36 hr hn xt (fun r' q1 q2 q3 q4 => ?_)
        change K _ _ (_ :: _) _
        have hr' : rn s t r' = some S := by
          have := rn_blank hrn (r' - r) (fun j h1 h2 => q3 j h1 (by omega))
          rw [show r + (r' - r) = r' by omega] at this
          exact this
        by_cases hlt : r' < n
        · rw [if_pos hlt]
          have hb127 := (ht r' hlt).2
          have e37 : cw_up ξ 146 37 (nI r') 146 37 = nI r' := by rw [up_eq, upd_eq]
          have hnw : ¬ wt S := by
            rintro (z | z)
            · rw [hd0] at z; exact hf0 z
            · omega
          have hFA : FA s t n r' := by
            refine Or.inl ⟨hlt, S, hr', ?_⟩
            unfold stP
            rw [if_neg (q4 hlt)]
            by_cases b40 : t r' = 40
            · rw [if_pos b40, pif_n hnw]
            · rw [if_neg b40]
              by_cases b41 : t r' = 41
              · rw [if_pos b41, pif_n (fun z => by omega)]
              · rw [if_neg b41, pif_n (fun z => hnw z.1)]
          refine st_go hK rfl rfl ?_
          refine st_if hK rfl rfl (fun c => absurd c (nI_ne1 (by omega))) (fun _ => ?_)
          refine st_go hK rfl rfl ?_
          refine st_go hK rfl rfl ?_
          refine gi (v := nI r') hK rfl qf_146_37 e37 ?_
          refine st_put hK rfl qf_146_40 rfl ?_
          refine st_go hK rfl rfl ?_
          refine st_go hK rfl rfl ?_
          change K _ [some (.ref 146), some (.int (1 : Int32)), some (.int (0 : Int32))] _ _
          refine st_go hK rfl rfl ?_
          refine st_zret hK rfl (Or.inl rfl) ?_
          exact k0 r' _ hFA ((hF.trans (fr_up (by decide))).trans (fr_up (by decide))) (by rw [up_eq, upd_eq])
        · rw [if_neg hlt]
          have hrn2 : r' = n := by omega
          refine st_go hK rfl rfl ?_
          refine st_if hK rfl rfl (fun _ => ?_) (fun c => absurd (by decide) c)
          refine st_go hK rfl rfl ?_
          refine st_zret hK rfl (Or.inr rfl) ?_
          obtain ⟨m1, m2, m3, m4, m5⟩ := hM
          refine k1 S _ (by rw [← hrn2]; exact hr') hd0 hf0 (hF.trans (fr_up (by decide))) ⟨by rw [up_eq, upd_ne (by decide)]; exact m1, fun d hd => by rw [up_ne (by decide)]; exact m2 d hd, fun k hk => by rw [up_ne (by decide)]; exact m3 k hk, by rw [up_eq, upd_ne (by decide)]; exact m4, fun e => ⟨fun d hd => by rw [up_ne (by decide), up_ne (by decide)]; exact (m5 e).1 d hd, ?_⟩⟩
          exact mst_tree (m5 e).2 (fun k hk => by rw [up_eq, upd_ne (by omega)]) (fun p h1 h2 => up_ne (by omega))
  have l0 : ∀ m i ξ, i + m = 8 → (∀ p, p ≠ 172 → ξ p = (cw_up (cw_up (cw_up υ 146 37 (0 : Int32)) 146 39 (0 : Int32)) 146 42 (-1 : Int32)) p) → (∀ k, k < i → ξ 172 k = 0) → K 17 [some (.ref 146), some (.int 1), some (.int (nI i))] [] (cw_B ξ lam) := by
    intro m
    induction m with
    | zero =>
      intro i ξ hi h1 h2
      obtain rfl : i = 8 := by omega
      refine st_go hK rfl rfl ?_
      refine st_go hK rfl rfl ?_
      refine st_ifn hK rfl rfl (nI_leI (a := 8) (b := 8) (by omega) (by omega)) (fun _ => ?_) (fun c => absurd (by omega) c)
      refine st_go hK rfl rfl ?_
      refine st_go hK rfl rfl ?_
      change K _ [some (.ref 146), some (.int (1 : Int32)), some (.int (1 : Int32))] _ _
      have fr : FRm true υ ξ := by
        refine ⟨⟨fun p hp => ?_, fun k hk => ?_⟩, fun _ p p1 p2 => ?_⟩
        · rw [h1 p (by omega), up_ne (by omega), up_ne (by omega), up_ne (by omega)]
        · rw [h1 146 (by decide), up_eq, upd_ne (by omega), up_eq, upd_ne (by omega), up_eq, upd_ne (by omega)]
        · rw [h1 p (by omega), up_ne (by omega), up_ne (by omega), up_ne (by omega)]
      refine main n 0 S0 ξ (by omega) (by omega) rfl fr (by rw [h1 146 (by decide)]; simp [cw_up, upd]; rfl) ⟨by rw [h1 146 (by decide)]; simp [cw_up, upd]; rfl, fun d hd => by have : d < 0 := hd; omega, fun k hk => ?_, ?_, fun e => ⟨fun d hd => by have : d < 0 := hd; omega, ?_⟩⟩
      · rw [h2 k hk]
        show (0 : Int32) = nI (0 / 2 ^ k % 2)
        rw [Nat.zero_div]; rfl
      · rw [h1 146 (by decide)]
        simp [cw_up, upd, S0]
      · exact mst_tree (hT e) (fun k hk => by rw [h1 146 (by decide), up_eq, upd_ne (by omega), up_eq, upd_ne (by omega), up_eq, upd_ne (by omega)]) (fun p p1 p2 => by rw [h1 p (by omega), up_ne (by omega), up_ne (by omega), up_ne (by omega)])
    | succ m ih =>
      intro i ξ hi h1 h2
      refine st_go hK rfl rfl ?_
      refine st_go hK rfl rfl ?_
      refine st_ifn hK rfl rfl (nI_leI (a := 8) (b := i) (by omega) (by omega)) (fun c => absurd c (by omega)) (fun _ => ?_)
      refine st_go hK rfl rfl ?_
      refine st_getr hK rfl qf_146_41 ?_
      refine st_go hK rfl rfl ?_
      refine st_go hK rfl rfl ?_
      refine sa (e := i) hK rfl qa_172 rfl (by omega) rfl ?_
      refine st_go hK rfl rfl ?_
      rw [nI_1]
      refine st_go hK rfl rfl ?_
      refine ih (i + 1) _ (by omega) (fun p hp => by rw [up_ne hp, h1 p hp]) (fun k hk => ?_)
      rw [up_eq]
      by_cases z : k = i
      · rw [z, upd_eq]
      · rw [upd_ne z, h2 k (by omega)]
  refine st_go hK rfl rfl ?_
  refine st_go hK rfl rfl ?_
  refine st_put hK rfl qf_146_37 rfl ?_
  refine st_go hK rfl rfl ?_
  refine st_go hK rfl rfl ?_
  refine st_put hK rfl qf_146_39 rfl ?_
  refine st_go hK rfl rfl ?_
  refine st_go hK rfl rfl ?_
  refine st_put hK rfl qf_146_42 rfl ?_
  refine st_go hK rfl rfl ?_
  refine st_go hK rfl rfl ?_
  change K _ [some (.ref 146), some (.int (1 : Int32)), some (.int (0 : Int32))] _ _
  exact l0 8 0 _ (by omega) (fun _ _ => rfl) (fun k hk => by omega)
end
section
variable {d : Nat}
theorem sim_builds : SimI (d + 16) m_CW_builds m_Mo_builds [] := by
  intro σ lam ⟨s, nx, c, n, hI⟩
  have g := hI.1.1
  have mw := hI.2.1.1
  have te := hI.2.1.2.1
  have es : σ 1 8 = nI s := g.1.1
  have h8 : s ≤ 8 := g.1.2.1
  obtain ⟨⟨hnx, hc, h661, h662, h13⟩, hh⟩ := hI.2.2.2.1
  have md := hI.1.2.1
  have pd := hI.1.2.2.1
  have vr : VR (mv σ) 1 s := te.vr h8 g.2.1
  obtain ⟨x0, x1, x2, x3⟩ := hI.2.2.2.2
  obtain ⟨t, ht⟩ : ∃ t : Nat → Nat, ∀ j, j < n → σ 141 j = nI (t j) ∧ t j ≤ 127 := by
    refine ⟨fun j => (σ 141 j).toNatClampNeg, fun j hj => ?_⟩
    obtain ⟨-, h1, h2⟩ := x3 j hj
    have e0 : (0 : Int32).toInt = 0 := by decide
    have e1 : (127 : Int32).toInt = 127 := by decide
    have hnn : ¬ σ 141 j < 0 := Int32.not_lt.mpr (Int32.le_iff_toInt_le.mpr (by rw [e0]; exact h1))
    obtain ⟨q, q1, q2⟩ := nI_of hnn
    show σ 141 j = nI (σ 141 j).toNatClampNeg ∧ (σ 141 j).toNatClampNeg ≤ 127
    have hle : σ 141 j ≤ (127 : Int32) := Int32.le_iff_toInt_le.mpr (by rw [e1]; exact h2)
    rw [q2] at hle
    rw [q2, nI_clamp q1]
    exact ⟨rfl, (nI_leI (a := q) (b := 127) q1 (by decide)).mp hle⟩
  refine zi (L := [some (.ref 0), none, none]) rfl rfl (fun K hK => ?_)
  refine st_go hK rfl rfl ?_
  refine st_getr hK rfl qf_0_5 ?_
  refine st_go hK rfl rfl ?_
  refine st_getr hK rfl qf_0_0 ?_
  refine gi (v := nI s) hK rfl qf_1_8 es ?_
  refine cv1 hK rfl qc_140 (Nat.le_of_ble_eq_true rfl) ?_
  refine z_parse h8 x0 x1 ht (fun S τ hr hD hf hF hC => ?_) (fun i τ hFA hin hF => ?_)
  · change K _ _ (_ :: _) _
    refine st_go hK rfl rfl ?_
    change K _ [some (.ref 0), some (.int (-1 : Int32)), _] _ _
    refine st_go hK rfl rfl ?_
    refine st_go hK rfl rfl ?_
    refine st_if hK rfl rfl (fun _ => ?_) (fun c => absurd (by decide) c)
    have sc0 := hF.sc
    have hI0 := sc0.inv hI
    have g0 : GT τ 1 s := hI0.1.1
    obtain ⟨⟨hnx0, hc0, h6610, h6620, h130⟩, hh0⟩ := hI0.2.2.2.1
    obtain ⟨⟨T, hP⟩, -⟩ := rn_ok h8 n S hr
    obtain ⟨⟨eT, hokC, hWT, hjn⟩, hP2⟩ := hP
    obtain ⟨J, eJ⟩ : ∃ J, J = S.2.2.2.2 := ⟨_, rfl⟩
    rw [← eJ] at eT hokC hjn
    have hC144 : ∀ i a b, J[i]? = some (a, b) → τ 144 i = nI a ∧ τ 145 i = nI b := by rw [eJ]; exact hC.2.2
    have hC6 : τ 140 6 = nI J.length := by rw [eJ]; exact hC.1.2.1
    have hJ7 : J.length ≤ 7 := by
      rcases Nat.lt_or_ge J.length 8 with z | z
      · omega
      · obtain ⟨x, hx⟩ : ∃ x, x ∈ J.drop 7 := by
          cases e : J.drop 7 with
          | nil => have := congrArg List.length e; rw [List.length_drop] at this; simp at this; omega
          | cons y l => exact ⟨y, List.mem_cons_self⟩
        have key : ∀ (l : List (Nat × Nat)) (T : TT) (i : Nat), okC s l T i → i + l.length ≤ 7 ∨ l = [] := by
          intro l
          induction l with
          | nil => intro T i _; exact Or.inr rfl
          | cons y l ih =>
            intro T i h
            have j15 := h.1.2.2.2.2.2.1.2
            rcases ih _ (i + 1) h.2 with q | q
            · rw [List.length_cons]; exact Or.inl (by omega)
            · rw [q]; exact Or.inl (by show i + 1 ≤ 7; omega)
        rcases key J T0 0 hokC with q | q
        · omega
        · rw [q] at z; simp at z
    refine st_go hK rfl rfl ?_
    refine st_getr hK rfl qf_0_4 ?_
    refine st_go hK rfl rfl ?_
    refine st_getr hK rfl qf_0_0 ?_
    refine cv1 hK rfl qc_66 (Nat.le_of_ble_eq_true rfl) ?_
    refine z_save h6610 hnx0 h6620 hc0 (fun σ1 hS => ?_)
    change K _ _ _ _
    have s1 : ∀ p, p < 66 → σ1 p = τ p := fun p hp => hS.1 p (by omega) (by omega)
    have s14 : ∀ p, 139 < p → σ1 p = τ p := fun p hp => hS.1 p (by omega) (by omega)
    refine st_go hK rfl rfl ?_
    refine st_getr hK rfl qf_0_0 ?_
    refine cv0 hK rfl qc_1 (Nat.le_of_ble_eq_true rfl) ?_
    refine z_removeJoints hT1 ?_
    have hTR : TR σ1 (rmF σ1 1 15) 1 (fun _ => -1) (fun _ => -1) (fun _ => -1) := ⟨fun p p6 p7 p8 => if_neg (fun z => by omega), fun x hx => by unfold rmF; rw [if_pos (Or.inl rfl), if_pos hx], fun x hx => by unfold rmF; rw [if_pos (Or.inr (Or.inl rfl)), if_pos hx], fun x hx => by unfold rmF; rw [if_pos (Or.inr (Or.inr rfl)), if_pos hx]⟩
    have teR : TE (rmF σ1 1 15) 1 (vT τ T0) 1 := te_step (te_of (fun j hj => s1 _ (by omega))) hTR vT_lo (fun _ _ => rfl) (fun _ _ => rfl) (fun _ _ => rfl)
    change K _ _ _ _
    refine st_go hK rfl rfl ?_
    refine st_go hK rfl rfl ?_
    change K _ [some (.ref 0), some (.int (-1 : Int32)), some (.int (0 : Int32))] _ _
    have fin : ∀ ξ, TE ξ 1 (vT τ T) 1 → (∀ p, (p < 1 ∨ 9 < p) → ξ p = σ1 p) → K 100 [some (.ref 0), some (.int (-1)), some (.int (nI J.length))] [] (cw_B ξ lam) := by
      intro ξ teX hfr
      have e6 : ξ 140 6 = nI J.length := by rw [hfr 140 (by omega), s14 140 (by decide)]; exact hC6
      refine st_go hK rfl rfl ?_
      refine cv0 hK rfl qc_0 (Nat.le_of_ble_eq_true rfl) ?_
      have hG : GT ξ 1 s := teX.gt (vT_gt g0 hWT)
      refine z_cfin hS hnx0 hfr hG (fun ξ3 lam2 hCh sr => ?_)
      have e63 : ξ3 140 6 = nI J.length := by rw [hCh.1 140 (by omega)]; exact hC6
      change K _ _ _ _
      refine st_go hK rfl rfl ?_
      refine st_getr hK rfl qf_0_5 ?_
      refine gi (v := nI J.length) hK rfl qf_140_6 e63 ?_
      refine st_ret hK rfl rfl ?_
      obtain ⟨mw2, te2, l2, k2, mv2⟩ := hI0.mf (τ := ξ3) (fun p hp => hCh.1 p (by omega))
      have m36 : ξ3 146 36 = nI n := by rw [hCh.1 146 (by omega), hF.1 146 (by decide) (by decide)]; exact x2
      have mt : ∀ j, j < n → ξ3 170 j = nI (t j) ∧ t j ≤ 127 := fun j hj => by rw [hCh.1 170 (by omega), hF.1 170 (by decide) (by decide), (x3 j hj).1]; exact ht j hj
      refine zi (L := [some (.ref 146), none, none, none]) rfl rfl (fun K2 hK2 => ?_)
      refine st_go hK2 rfl rfl ?_
      refine st_go hK2 rfl rfl ?_
      refine cv1 hK2 rfl qc_146 (Nat.le_of_ble_eq_true rfl) ?_
      refine z_readsAll0 (σ := τ) h8 x0 mw2.1 m36 mt (fun z => by cases z) (fun S2 υ1 hr2 hD2 hf2 hF1 hM1 => ?_) (fun i2 υ1 hFA2 hF1 h40 => (hFA2.no hr hD hf).elim)
      have mw1 : MW υ1 s := mw2.cg (hF1.1.2 1 (by decide)) (fun p h1 h2 => hF1.2 rfl p h1 h2)
      have mv1 : mv υ1 = mv ξ3 := mv_cg (fun k hk => hF1.1.2 k (by omega)) (fun p h1 h2 => hF1.sc.1 p (by omega))
      have te1 : TE (mv υ1) 1 τ 1 := by rw [mv1]; exact te2
      have kp := kp_eq mw2 mw1 te2 te1 hF1.1
      have k1 : υ1 146 13 = nI c := (hF1.1.2 13 (by decide)).trans k2
      have l1 : υ1 146 6 = nI s := (hF1.1.2 6 (by decide)).trans l2
      change K2 _ _ (_ :: _) _
      refine st_if hK2 rfl rfl (fun _ => ?_) (fun c => absurd (by decide) c)
      refine st_go hK2 rfl rfl ?_
      refine cv0 hK2 rfl qc_146 (Nat.le_of_ble_eq_true rfl) ?_
      refine z_leaves k1 hc0 (fun υ hL => ?_)
      change K2 _ _ _ _
      obtain ⟨mw3, mv3⟩ := hL.mf mw1
      have te3 : TE (mv υ) 1 τ 1 := by rw [mv3]; exact te1
      have l3 : υ 146 6 = nI s := (hL.2.1 6 (by decide)).trans l1
      refine st_go hK2 rfl rfl ?_
      refine cv0 hK2 rfl qc_146 (Nat.le_of_ble_eq_true rfl) ?_
      refine z_noJoints mw3 (fun υ2 mw4 hMT => ?_)
      have te4 : TE (mv υ2) 1 (vT τ T0) 1 := te_rows te3 hMT.mr vT_lo hMT.2.1 hMT.2.2.1 hMT.2.2.2
      change K2 _ _ (_ :: _) _
      refine st_go hK2 rfl rfl ?_
      change K2 _ [some (.ref 146), some (.int (nI (jcN (mv υ) 1 7))), _, _] _ _
      refine st_go hK2 rfl rfl ?_
      refine st_go hK2 rfl rfl ?_
      refine cv1 hK2 rfl qc_146 (Nat.le_of_ble_eq_true rfl) ?_
      have m362 : υ2 146 36 = nI n := by rw [hMT.1 146 (by omega), hL.2.1 36 (by decide), hF1.1.2 36 (by decide)]; exact m36
      have mt2 : ∀ j, j < n → υ2 170 j = nI (t j) ∧ t j ≤ 127 := fun j hj => by rw [hMT.1 170 (by omega), hL.1 170 (by decide) (by decide), hF1.1.1 170 (by omega)]; exact mt j hj
      refine z_readsAll1 (σ := τ) h8 x0 mw4.1 m362 mt2 (fun _ => ⟨mw4, te4⟩) (fun S3 υ3 hr3 hD3 hf3 hF3 hM3 => ?_) (fun i2 υ3 hFA2 hF3 h40 => (hFA2.no hr hD hf).elim)
      obtain rfl : S = S3 := by rw [hr] at hr3; exact Option.some.inj hr3
      obtain ⟨-, mw5, te5⟩ := hM3.2.2.2.2 rfl
      rw [← eJ, ← eT] at te5
      have ejc : jcN (mv υ3) 1 7 = J.length := (jc_te te5 7 (by decide)).trans (jc_len hjn hJ7)
      change K2 _ _ (_ :: _) _
      refine st_go hK2 rfl rfl ?_
      refine st_go hK2 rfl rfl ?_
      refine st_go hK2 rfl rfl ?_
      change K2 _ [some (.ref 146), some (.int (nI (jcN (mv υ) 1 7))), some (.int (0 : Int32)), _] _ _
      refine st_go hK2 rfl rfl ?_
      refine st_go hK2 rfl rfl ?_
      change K2 _ [some (.ref 146), some (.int (nI (jcN (mv υ) 1 7))), some (.int (0 : Int32)), some (.int (8 : Int32))] _ _
      have cl : ∀ m i (x1 : Int32), i + m = 7 → K2 36 [some (.ref 146), some (.int x1), some (.int (nI (jcN (mv υ3) 1 i))), some (.int (nI (8 + i)))] [] (cw_B υ3 lam2) := by
        intro m
        induction m with
        | zero =>
          intro i x1 hi
          obtain rfl : i = 7 := by omega
          refine st_go hK2 rfl rfl ?_
          refine st_go hK2 rfl rfl ?_
          refine st_ifn hK2 rfl rfl (nI_leI (a := 15) (b := 8 + 7) (by omega) (by omega)) (fun _ => ?_) (fun c => absurd (by omega) c)
          refine st_go hK2 rfl rfl ?_
          refine st_ret hK2 rfl rfl ?_
          rw [ejc]
          exact Res.mk (hI0.chg hCh (mch_pre hF1.1 kp hL (hMT.mr.trans hF3.1) mw5 l3) (te5.trans (sr.te.trans teX).symm))
        | succ m ih =>
          intro i x1 hi
          refine st_go hK2 rfl rfl ?_
          refine st_go hK2 rfl rfl ?_
          refine st_ifn hK2 rfl rfl (nI_leI (a := 15) (b := 8 + i) (by omega) (by omega)) (fun c => absurd c (by omega)) (fun _ => ?_)
          refine st_go hK2 rfl rfl ?_
          refine st_go hK2 rfl rfl ?_
          refine st_getr hK2 rfl qf_146_8 ?_
          refine st_go hK2 rfl rfl ?_
          refine ga (e := 8 + i) (v := υ3 150 (8 + i)) hK2 rfl qa_150 rfl (by omega) rfl rfl ?_
          refine bnv (v := nI (jcN (mv υ3) 1 (i + 1))) hK2 rfl (mw5.jc (by omega)) ?_
          refine st_go hK2 rfl rfl ?_
          change K2 _ [some (.ref 146), some (.int x1), some (.int (nI (jcN (mv υ3) 1 (i + 1)))), some (.int (nI (8 + i)))] _ _
          refine st_go hK2 rfl rfl ?_
          rw [nI_1]
          refine st_go hK2 rfl rfl ?_
          exact ih (i + 1) _ (by omega)
      exact cl 7 0 _ (by omega)
    have loop : ∀ (l pre : List (Nat × Nat)) (T1 : TT) ξ, J = pre ++ l → okC s l T1 pre.length → tj l T1 pre.length = T → WFt s T1.1 T1.2.1 T1.2.2 → TE ξ 1 (vT τ T1) 1 → (∀ p, (p < 1 ∨ 9 < p) → ξ p = σ1 p) → K 45 [some (.ref 0), some (.int (-1)), some (.int (nI pre.length))] [] (cw_B ξ lam) := by
      intro l
      induction l with
      | nil =>
        intro pre T1 ξ eJ2 hok etj hW1 teX hfr
        have eT1 : T1 = T := etj
        rw [List.append_nil] at eJ2
        subst eJ2
        subst eT1
        have e6 : ξ 140 6 = nI J.length := by rw [hfr 140 (by omega), s14 140 (by decide)]; exact hC6
        refine st_go hK rfl rfl ?_
        refine st_go hK rfl rfl ?_
        refine st_getr hK rfl qf_0_5 ?_
        refine gi (v := nI J.length) hK rfl qf_140_6 e6 ?_
        refine st_ifn hK rfl rfl (nI_leI (a := J.length) (b := J.length) (by omega) (by omega)) (fun _ => ?_) (fun c => absurd (by omega) c)
        exact fin ξ teX hfr
      | cons x l ih =>
        intro pre T1 ξ eJ2 hok etj hW1 teX hfr
        obtain ⟨a, b⟩ := x
        have hlen : J.length = pre.length + (l.length + 1) := by rw [eJ2, List.length_append, List.length_cons]
        have hget : J[pre.length]? = some (a, b) := by rw [eJ2, List.getElem?_append_right (Nat.le_refl _), Nat.sub_self]; rfl
        have e6 : ξ 140 6 = nI J.length := by rw [hfr 140 (by omega), s14 140 (by decide)]; exact hC6
        have e144 : ξ 144 pre.length = nI a := by rw [hfr 144 (by omega), s14 144 (by decide)]; exact (hC144 _ a b hget).1
        have e145 : ξ 145 pre.length = nI b := by rw [hfr 145 (by omega), s14 145 (by decide)]; exact (hC144 _ a b hget).2
        have hW2 := hok.1.wf hW1
        obtain ⟨⟨na, nb, hab, ta, tb, hj⟩, hok2⟩ := hok
        have hWV : WF (vT τ T1) 1 s := vT_wf g0.1 hW1
        have a15 := hW1.lt na
        refine st_go hK rfl rfl ?_
        refine st_go hK rfl rfl ?_
        refine st_getr hK rfl qf_0_5 ?_
        refine gi (v := nI J.length) hK rfl qf_140_6 e6 ?_
        refine st_ifn hK rfl rfl (nI_leI (a := J.length) (b := pre.length) (by omega) (by omega)) (fun c => absurd c (by omega)) (fun _ => ?_)
        refine st_go hK rfl rfl ?_
        refine st_go hK rfl rfl ?_
        refine st_getr hK rfl qf_0_5 ?_
        refine st_getr hK rfl qf_140_3 ?_
        refine st_alen hK rfl qa_144 rfl ?_
        refine st_ifn hK rfl rfl (nI_leI (a := 7) (b := pre.length) (by omega) (by omega)) (fun c => absurd c (by omega)) (fun _ => ?_)
        refine st_go hK rfl rfl ?_
        refine st_getr hK rfl qf_0_0 ?_
        refine st_go hK rfl rfl ?_
        refine st_getr hK rfl qf_0_5 ?_
        refine st_getr hK rfl qf_140_3 ?_
        refine st_go hK rfl rfl ?_
        refine ga (e := pre.length) (v := nI a) hK rfl qa_144 rfl (by omega) rfl e144 ?_
        refine st_go hK rfl rfl ?_
        refine st_getr hK rfl qf_0_5 ?_
        refine st_getr hK rfl qf_140_4 ?_
        refine st_go hK rfl rfl ?_
        refine ga (e := pre.length) (v := nI b) hK rfl qa_145 rfl (by omega) rfl e145 ?_
        refine cv2 hK rfl qc_1 (Nat.le_of_ble_eq_true rfl) ?_
        obtain ⟨w1, w2, w3⟩ : (∀ x, x < 15 → ξ (1 + 6) x = T1.1 x) ∧ (∀ x, x < 15 → ξ (1 + 7) x = T1.2.1 x) ∧ (∀ x, x < 15 → ξ (1 + 8) x = T1.2.2 x) := ⟨fun x hx => teX.hi (i := 6) (by decide) (by decide) hx, fun x hx => teX.hi (i := 7) (by decide) (by decide) hx, fun x hx => teX.hi (i := 8) (by decide) (by decide) hx⟩
        refine z_addT hT1 (teX.wf hWV) (j := 8 + pre.length) (isF_cg (fun x hx => (w1 x hx).symm) hj) ((nodeN_congr w1).mpr na) ((nodeN_congr w1).mpr nb) hab ((w3 a a15).trans ta) (fun ξ2 hTX => ?_)
        have teX2 : TE ξ2 1 (vT τ (gTT (8 + pre.length) a b T1)) 1 := te_step teX hTX (fun p hp => (vT_lo p hp).trans (vT_lo p hp).symm) (fun x hx => gL_cg (w1 x hx)) (fun x hx => gR_cg (w2 x hx)) (fun x hx => gP_cg (w3 x hx) (w3 a a15))
        change K _ _ (_ :: _) _
        refine st_go hK rfl rfl ?_
        refine st_go hK rfl rfl ?_
        rw [nI_1]
        refine st_go hK rfl rfl ?_
        have hh := ih (pre ++ [(a, b)]) (gTT (8 + pre.length) a b T1) ξ2 (by rw [eJ2, List.append_assoc]; rfl) (by rw [List.length_append]; exact hok2) (by rw [List.length_append]; exact etj) hW2 teX2 (fun p hp => by rw [hTX.1 p (by omega) (by omega) (by omega), hfr p hp])
        rw [List.length_append] at hh
        exact hh
    exact loop J [] T0 _ rfl hokC eT.symm (WFt.none h8 (fun _ _ => rfl) (fun _ _ => rfl) (fun _ _ => rfl)) teR (fun p hp => hTR.1 p (by omega) (by omega) (by omega))
  · change K _ _ (_ :: _) _
    refine st_go hK rfl rfl ?_
    change K _ [some (.ref 0), some (.int (nI i)), _] _ _
    refine st_go hK rfl rfl ?_
    refine st_go hK rfl rfl ?_
    refine st_if hK rfl rfl (fun c => absurd c (nI_ne1 (by omega))) (fun _ => ?_)
    refine st_go hK rfl rfl ?_
    refine st_go hK rfl rfl ?_
    refine st_bin hK rfl ?_
    refine st_ret hK rfl rfl ?_
    obtain ⟨mw2, te2, l2, k2, mv2⟩ := hI.mf (τ := τ) (fun p hp => hF.1 p (by omega) (by omega))
    have m36 : τ 146 36 = nI n := by rw [hF.1 146 (by decide) (by decide)]; exact x2
    have mt : ∀ j, j < n → τ 170 j = nI (t j) ∧ t j ≤ 127 := fun j hj => by rw [hF.1 170 (by decide) (by decide), (x3 j hj).1]; exact ht j hj
    refine zi (L := [some (.ref 146), none, none, none]) rfl rfl (fun K2 hK2 => ?_)
    refine st_go hK2 rfl rfl ?_
    refine st_go hK2 rfl rfl ?_
    refine cv1 hK2 rfl qc_146 (Nat.le_of_ble_eq_true rfl) ?_
    refine z_readsAll0 (σ := σ) h8 x0 mw2.1 m36 mt (fun z => by cases z) (fun S υ hr hD hf hF2 hM2 => (hFA.no hr hD hf).elim) (fun i2 υ hFA2 hF2 h40 => ?_)
    obtain rfl : i = i2 := hFA.uni hFA2
    change K2 _ _ (_ :: _) _
    refine st_if hK2 rfl rfl (fun c => absurd c (by decide)) (fun _ => ?_)
    refine st_go hK2 rfl rfl ?_
    refine st_go hK2 rfl rfl ?_
    refine gi (v := nI i) hK2 rfl qf_146_40 h40 ?_
    refine st_bin hK2 rfl ?_
    refine st_ret hK2 rfl rfl ?_
    exact Res.mk ((hF.sc.trans hF2.sc).inv hI)
end
