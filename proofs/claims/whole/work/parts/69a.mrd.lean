/-! READING A TEXT: the model -/
def stg (S : PS) (d : Nat) : Int32 := if S.2.1 d = -1 then 0 else if S.2.2.1 d = -1 then 1 else 2
def MSt (jm : Bool) (σ υ : cw_V) (s : Nat) (S : PS) : Prop := υ 146 39 = nI S.1 ∧ (∀ d, d < S.1 → υ 173 d = stg S (d + 1)) ∧ (∀ k, k < 8 → υ 172 k = nI (bitN S.2.2.2.1 k)) ∧ (υ 146 42 = -1 ↔ S.2.1 0 = -1) ∧ (jm = true → (∀ d, d < S.1 → (S.2.1 (d + 1) ≠ -1 → υ 171 d = S.2.1 (d + 1)) ∧ (S.2.2.1 (d + 1) ≠ -1 → υ 174 d = S.2.2.1 (d + 1))) ∧ MW υ s ∧ TE (mv υ) 1 (vT σ (tj S.2.2.2.2 T0 0)) 1)
def FRm (jm : Bool) (σ τ : cw_V) : Prop := MR σ τ ∧ (jm = false → ∀ p, 150 ≤ p → p ≤ 153 → τ p = σ p)
theorem FRm.rf {jm : Bool} {σ : cw_V} : FRm jm σ σ := ⟨MR.rf, fun _ _ _ _ => rfl⟩
theorem FRm.trans {jm : Bool} {σ τ υ : cw_V} (h : FRm jm σ τ) (h' : FRm jm τ υ) : FRm jm σ υ := ⟨h.1.trans h'.1, fun e p a b => (h'.2 e p a b).trans (h.2 e p a b)⟩
theorem up_up {σ : cw_V} {p k : Nat} {x y : Int32} : cw_up (cw_up σ p k x) p k y = cw_up σ p k y := by
  funext q
  unfold cw_up
  by_cases h : q = p
  · rw [if_pos h, if_pos h, if_pos rfl]
    funext j
    unfold upd
    split <;> rfl
  · rw [if_neg h, if_neg h, if_neg h]
theorem up_self {σ : cw_V} {p k : Nat} {x : Int32} (h : σ p k = x) : cw_up σ p k x = σ := by
  funext q
  unfold cw_up
  by_cases e : q = p
  · rw [if_pos e, e]
    funext j
    unfold upd
    split
    · rename_i z; rw [z, h]
    · rfl
  · rw [if_neg e]
/-- numbers of the model's own change -/
theorem fr_up {jm : Bool} {υ : cw_V} {k : Nat} {x : Int32} (hk : 37 ≤ k) : FRm jm υ (cw_up υ 146 k x) := ⟨⟨fun p hp => up_ne (by omega), fun q hq => by rw [up_eq, upd_ne (by omega)]⟩, fun _ p h1 h2 => up_ne (by omega)⟩
theorem fr_row {jm : Bool} {υ : cw_V} {p k : Nat} {x : Int32} (hp : 171 ≤ p) : FRm jm υ (cw_up υ p k x) := ⟨⟨fun q hq => up_ne (by omega), fun q hq => by rw [up_ne (by omega)]⟩, fun _ q h1 h2 => up_ne (by omega)⟩
/-- what does not touch the tree -/
theorem mst_tree {σ υ υ' : cw_V} {s : Nat} {T : TT} (h : MW υ s ∧ TE (mv υ) 1 (vT σ T) 1) (h1 : ∀ k, k < 13 → υ' 146 k = υ 146 k) (h2 : ∀ p, 148 ≤ p → p ≤ 153 → υ' p = υ p) : MW υ' s ∧ TE (mv υ') 1 (vT σ T) 1 := ⟨h.1.cg (h1 1 (by decide)) (fun p a b => h2 p (by omega) (by omega)), by rw [mv_cg h1 h2]; exact h.2⟩
theorem rn_blank {s : Nat} {t : Nat → Nat} {r : Nat} {S : PS} (h : rn s t r = some S) : ∀ m, (∀ j, r ≤ j → j < r + m → t j = 32) → rn s t (r + m) = some S := by
  intro m
  induction m with
  | zero => intro _; exact h
  | succ m ih =>
    intro hb
    show (rn s t (r + m)).bind (stP s (t (r + m))) = some S
    rw [ih (fun j h1 h2 => hb j h1 (by omega)), hb (r + m) (by omega) (by omega)]
    rfl
theorem stg_lt {S : PS} (h : wt S) (h0 : 0 < S.1) : ¬ (2 : Int32) ≤ stg S S.1 := by
  unfold stg
  rcases h with z | z
  · rw [if_pos z]; decide
  · split
    · decide
    · rw [if_pos z.2]; decide
theorem stg_ge {S : PS} (h : ¬ wt S) (h0 : 0 < S.1) : stg S S.1 = 2 := by
  unfold stg
  rw [if_neg (fun z => h (Or.inl z)), if_neg (fun z => h (Or.inr ⟨h0, z⟩))]
section
variable {d s n : Nat} {σ υ : cw_V} {S : PS} {t : Nat → Nat} {lam : Nat → Int64} {Q : cw_Q} {jm : Bool}
theorem z_here {r0 : Nat} (h37 : υ 146 37 = nI r0) (h36 : υ 146 36 = nI n) (hr : r0 ≤ n) (hn : n ≤ 60) (ht : ∀ j, j < n → υ 170 j = nI (t j) ∧ t j ≤ 127) (kk : ∀ r', r0 ≤ r' → r' ≤ n → (∀ j, r0 ≤ j → j < r' → t j = 32) → (r' < n → t r' ≠ 32) → Q (some (.int (if r' < n then nI (t r') else -1))) (cw_B (cw_up υ 146 37 (nI r')) lam)) : cw_Z (d + 1) m_Mo_here [.ref 146] (cw_B υ lam) Q := by
  refine zi (L := [some (.ref 146)]) rfl rfl (fun K hK => ?_)
  have loop : ∀ m r, r + m = n → r0 ≤ r → (∀ j, r0 ≤ j → j < r → t j = 32) → K 0 [some (.ref 146)] [] (cw_B (cw_up υ 146 37 (nI r)) lam) := by
    intro m
    induction m with
    | zero =>
      intro r hrm h0 hb
      obtain rfl : r = n := by omega
      have e37 : cw_up υ 146 37 (nI r) 146 37 = nI r := by rw [up_eq, upd_eq]
      have e36 : cw_up υ 146 37 (nI r) 146 36 = nI r := by rw [up_eq, upd_ne (by decide), h36]
      have fin := kk r h0 (Nat.le_refl _) hb (fun z => by omega)
      rw [if_neg (by omega)] at fin
      refine st_go hK rfl rfl ?_
      refine gi (v := nI r) hK rfl qf_146_37 e37 ?_
      refine st_go hK rfl rfl ?_
      refine gi (v := nI r) hK rfl qf_146_36 e36 ?_
      refine st_ifn hK rfl rfl (nI_leI (a := r) (b := r) (by omega) (by omega)) (fun _ => ?_) (fun c => absurd (by omega) c)
      refine st_go hK rfl rfl ?_
      refine gi (v := nI r) hK rfl qf_146_37 e37 ?_
      refine st_go hK rfl rfl ?_
      refine gi (v := nI r) hK rfl qf_146_36 e36 ?_
      refine st_ifn hK rfl rfl (nI_leI (a := r) (b := r) (by omega) (by omega)) (fun _ => ?_) (fun c => absurd (by omega) c)
      refine st_go hK rfl rfl ?_
      refine st_ret hK rfl rfl ?_
      exact fin
    | succ m ih =>
      intro r hrm h0 hb
      have e37 : cw_up υ 146 37 (nI r) 146 37 = nI r := by rw [up_eq, upd_eq]
      have e36 : cw_up υ 146 37 (nI r) 146 36 = nI n := by rw [up_eq, upd_ne (by decide), h36]
      have et : cw_up υ 146 37 (nI r) 170 r = nI (t r) := by rw [up_ne (by decide)]; exact (ht r (by omega)).1
      have et2 := (ht r (by omega)).2
      by_cases hb32 : t r = 32
      · skip
        refine st_go hK rfl rfl ?_
        refine gi (v := nI r) hK rfl qf_146_37 e37 ?_
        refine st_go hK rfl rfl ?_
        refine gi (v := nI n) hK rfl qf_146_36 e36 ?_
        refine st_ifn hK rfl rfl (nI_leI (a := n) (b := r) (by omega) (by omega)) (fun c => absurd c (by omega)) (fun _ => ?_)
        refine st_go hK rfl rfl ?_
        refine st_getr hK rfl qf_146_35 ?_
        refine st_go hK rfl rfl ?_
        refine gi (v := nI r) hK rfl qf_146_37 e37 ?_
        refine ga (e := r) (v := nI (t r)) hK rfl qa_170 rfl (by omega) rfl et ?_
        refine st_go hK rfl rfl ?_
        refine st_ifn hK rfl rfl (not_congr (nI_eq (a := t r) (b := 32) (by omega) (by omega))) (fun c => absurd c (fun z => z hb32)) (fun _ => ?_)
        refine st_go hK rfl rfl ?_
        refine st_go hK rfl rfl ?_
        refine gi (v := nI r) hK rfl qf_146_37 e37 ?_
        refine st_go hK rfl rfl ?_
        refine bnv hK rfl (show _ = nI (r + 1) from nI_add r 1) ?_
        refine st_put hK rfl qf_146_37 rfl ?_
        refine st_go hK rfl rfl ?_
        rw [up_up]
        exact ih (r + 1) (by omega) (by omega) (fun j h1 h2 => by
          by_cases z : j = r
          · rw [z, hb32]
          · exact hb j h1 (by omega))
      · have fin := kk r h0 (by omega) hb (fun _ => hb32)
        rw [if_pos (by omega)] at fin
        refine st_go hK rfl rfl ?_
        refine gi (v := nI r) hK rfl qf_146_37 e37 ?_
        refine st_go hK rfl rfl ?_
        refine gi (v := nI n) hK rfl qf_146_36 e36 ?_
        refine st_ifn hK rfl rfl (nI_leI (a := n) (b := r) (by omega) (by omega)) (fun c => absurd c (by omega)) (fun _ => ?_)
        refine st_go hK rfl rfl ?_
        refine st_getr hK rfl qf_146_35 ?_
        refine st_go hK rfl rfl ?_
        refine gi (v := nI r) hK rfl qf_146_37 e37 ?_
        refine ga (e := r) (v := nI (t r)) hK rfl qa_170 rfl (by omega) rfl et ?_
        refine st_go hK rfl rfl ?_
        refine st_ifn hK rfl rfl (not_congr (nI_eq (a := t r) (b := 32) (by omega) (by omega))) (fun _ => ?_) (fun c => absurd hb32 c)
        refine st_go hK rfl rfl ?_
        refine gi (v := nI r) hK rfl qf_146_37 e37 ?_
        refine st_go hK rfl rfl ?_
        refine gi (v := nI n) hK rfl qf_146_36 e36 ?_
        refine st_ifn hK rfl rfl (nI_leI (a := n) (b := r) (by omega) (by omega)) (fun c => absurd c (by omega)) (fun _ => ?_)
        refine st_go hK rfl rfl ?_
        refine st_getr hK rfl qf_146_35 ?_
        refine st_go hK rfl rfl ?_
        refine gi (v := nI r) hK rfl qf_146_37 e37 ?_
        refine ga (e := r) (v := nI (t r)) hK rfl qa_170 rfl (by omega) rfl et ?_
        refine st_go hK rfl rfl ?_
        refine st_ret hK rfl rfl ?_
        exact fin
  have := loop (n - r0) r0 (by omega) (Nat.le_refl _) (fun j h1 h2 => by omega)
  rw [up_self h37] at this
  exact this
theorem z_tells {v v' : Int32} (h : MSt jm σ υ s S) (hw : wt S) (hD : S.1 ≤ 60) (h4 : S.2.2.1 S.1 ≠ -1 → S.2.1 S.1 ≠ -1) (hv : v ≠ -1) (hv' : v' ≠ -1) (hj : jm = true → v = v') (kk : ∀ υ', FRm jm υ υ' → υ' 146 37 = υ 146 37 → MSt jm σ υ' s (ad v' S) → Q none (cw_B υ' lam)) : cw_Z (d + 1) m_Mo_tells [.ref 146, .int v] (cw_B υ lam) Q := by
  obtain ⟨m1, m2, m3, m4, m5⟩ := h
  obtain ⟨a1, a2⟩ := adp_1 (S := S) (v := v')
  have aM : (ad v' S).2.2.2.1 = S.2.2.2.1 := by rw [a2]
  have aJ : (ad v' S).2.2.2.2 = S.2.2.2.2 := by rw [a2]
  refine zi (L := [some (.ref 146), some (.int v)]) rfl rfl (fun K hK => ?_)
  by_cases hd0 : S.1 = 0
  · have f0 : S.2.1 0 = -1 := by
      rcases hw with z | z
      · rw [hd0] at z; exact z
      · omega
    have af : (ad v' S).2.1 0 = v' := by
      unfold ad
      rw [if_pos (by rw [hd0]; exact f0)]
      show upd S.2.1 S.1 v' 0 = v'
      rw [hd0, upd_eq]
    refine st_go hK rfl rfl ?_
    refine gi (v := nI S.1) hK rfl qf_146_39 m1 ?_
    refine st_ifn hK rfl rfl (not_congr (nI_eq (a := S.1) (b := 0) (by omega) (by omega))) (fun c => absurd c (fun z => z hd0)) (fun _ => ?_)
    refine st_go hK rfl rfl ?_
    refine st_go hK rfl rfl ?_
    refine st_put hK rfl qf_146_42 rfl ?_
    refine st_go hK rfl rfl ?_
    refine st_ret hK rfl rfl ?_
    refine kk _ (fr_up (by decide)) (by rw [up_eq, upd_ne (by decide)]) ⟨by rw [a1, up_eq, upd_ne (by decide)]; exact m1, fun d hd => by rw [a1] at hd; omega, fun k hk => by rw [up_ne (by decide), aM]; exact m3 k hk, ?_, fun e => ⟨fun d hd => by rw [a1] at hd; omega, ?_⟩⟩
    · rw [up_eq, upd_eq, af]
      exact ⟨fun z => absurd z hv, fun z => absurd z hv'⟩
    · rw [aJ]
      exact mst_tree (m5 e).2 (fun k hk => by rw [up_eq, upd_ne (by omega)]) (fun p h1 h2 => up_ne (by omega))
  · obtain ⟨D, hD1⟩ : ∃ D, S.1 = D + 1 := ⟨S.1 - 1, by omega⟩
    have m1' : υ 146 39 = nI (D + 1) := by rw [← hD1]; exact m1
    have st := m2 D (by omega)
    by_cases hf : S.2.1 S.1 = -1
    · have e0 : υ 173 D = 0 := by rw [st]; unfold stg; rw [← hD1, if_pos hf]
      have hg : S.2.2.1 S.1 = -1 := by
        rcases Classical.em (S.2.2.1 S.1 = -1) with z | z
        · exact z
        · exact absurd hf (h4 z)
      have af : ∀ d, (ad v' S).2.1 d = upd S.2.1 S.1 v' d := fun d => by unfold ad; rw [if_pos hf]
      have ag : ∀ d, (ad v' S).2.2.1 d = S.2.2.1 d := fun d => by unfold ad; rw [if_pos hf]
      refine st_go hK rfl rfl ?_
      refine gi (v := nI (D + 1)) hK rfl qf_146_39 m1' ?_
      refine st_ifn hK rfl rfl (not_congr (nI_eq (a := D + 1) (b := 0) (by omega) (by omega))) (fun _ => ?_) (fun c => absurd (by omega) c)
      refine st_go hK rfl rfl ?_
      refine st_getr hK rfl qf_146_43 ?_
      refine st_go hK rfl rfl ?_
      refine gi (v := nI (D + 1)) hK rfl qf_146_39 m1' ?_
      refine st_go hK rfl rfl ?_
      refine bnv hK rfl (show _ = nI D from nI_pred _) ?_
      refine ga (e := D) (v := (0 : Int32)) hK rfl qa_173 rfl (by omega) rfl e0 ?_
      refine st_if hK rfl rfl (fun c => absurd c (by decide)) (fun _ => ?_)
      refine st_go hK rfl rfl ?_
      refine st_getr hK rfl qf_146_38 ?_
      refine st_go hK rfl rfl ?_
      refine gi (v := nI (D + 1)) hK rfl qf_146_39 m1' ?_
      refine st_go hK rfl rfl ?_
      refine bnv hK rfl (show _ = nI D from nI_pred _) ?_
      refine st_go hK rfl rfl ?_
      refine sa (e := D) hK rfl qa_171 rfl (by omega) rfl ?_
      refine st_go hK rfl rfl ?_
      refine st_getr hK rfl qf_146_43 ?_
      refine st_go hK rfl rfl ?_
      refine gi (v := nI (D + 1)) hK rfl qf_146_39 (by rw [up_ne (by decide), m1']) ?_
      refine st_go hK rfl rfl ?_
      refine bnv hK rfl (show _ = nI D from nI_pred _) ?_
      refine st_go hK rfl rfl ?_
      refine sa (e := D) hK rfl qa_173 rfl (by omega) rfl ?_
      refine st_go hK rfl rfl ?_
      refine st_ret hK rfl rfl ?_
      have f0 : S.2.1 0 = -1 ↔ (ad v' S).2.1 0 = -1 := by
        rw [af]
        rw [upd_ne (by omega)]
      refine kk _ ((fr_row (by decide)).trans (fr_row (by decide))) (by rw [up_ne (by decide), up_ne (by decide)]) ⟨by rw [a1, up_ne (by decide), up_ne (by decide)]; exact m1, fun d hd => ?_, fun k hk => by rw [up_ne (by decide), up_ne (by decide), aM]; exact m3 k hk, by rw [up_ne (by decide), up_ne (by decide)]; exact m4.trans f0, fun e => ⟨fun d hd => ?_, ?_⟩⟩
      · rw [a1] at hd
        rw [up_eq, up_ne (by decide)]
        unfold stg
        rw [af, ag]
        by_cases z : d = D
        · rw [z, upd_eq, ← hD1, upd_eq, if_neg hv', if_pos hg]
        · rw [upd_ne z, upd_ne (by omega)]
          exact m2 d hd
      · rw [a1] at hd
        have q := (m5 e).1 d hd
        rw [af, ag]
        rw [up_ne (by decide), up_eq, up_ne (by decide), up_ne (by decide)]
        by_cases z : d = D
        · rw [z, upd_eq, ← hD1, upd_eq]
          rw [z, ← hD1] at q
          exact ⟨fun _ => hj e, q.2⟩
        · rw [upd_ne z, upd_ne (show d + 1 ≠ S.1 by omega)]
          exact q
      · rw [aJ]
        exact mst_tree (m5 e).2 (fun k hk => by rw [up_ne (by decide), up_ne (by decide)]) (fun p h1 h2 => by rw [up_ne (by omega), up_ne (by omega)])
    · have hg : S.2.2.1 S.1 = -1 := (hw.resolve_left hf).2
      have e0 : υ 173 D = 1 := by rw [st]; unfold stg; rw [← hD1, if_neg hf, if_pos hg]
      have af : ∀ d, (ad v' S).2.1 d = S.2.1 d := fun d => by unfold ad; rw [if_neg hf]
      have ag : ∀ d, (ad v' S).2.2.1 d = upd S.2.2.1 S.1 v' d := fun d => by unfold ad; rw [if_neg hf]
      refine st_go hK rfl rfl ?_
      refine gi (v := nI (D + 1)) hK rfl qf_146_39 m1' ?_
      refine st_ifn hK rfl rfl (not_congr (nI_eq (a := D + 1) (b := 0) (by omega) (by omega))) (fun _ => ?_) (fun c => absurd (by omega) c)
      refine st_go hK rfl rfl ?_
      refine st_getr hK rfl qf_146_43 ?_
      refine st_go hK rfl rfl ?_
      refine gi (v := nI (D + 1)) hK rfl qf_146_39 m1' ?_
      refine st_go hK rfl rfl ?_
      refine bnv hK rfl (show _ = nI D from nI_pred _) ?_
      refine ga (e := D) (v := (1 : Int32)) hK rfl qa_173 rfl (by omega) rfl e0 ?_
      refine st_if hK rfl rfl (fun _ => ?_) (fun c => absurd (by decide) c)
      refine st_go hK rfl rfl ?_
      refine st_getr hK rfl qf_146_44 ?_
      refine st_go hK rfl rfl ?_
      refine gi (v := nI (D + 1)) hK rfl qf_146_39 m1' ?_
      refine st_go hK rfl rfl ?_
      refine bnv hK rfl (show _ = nI D from nI_pred _) ?_
      refine st_go hK rfl rfl ?_
      refine sa (e := D) hK rfl qa_174 rfl (by omega) rfl ?_
      refine st_go hK rfl rfl ?_
      refine st_getr hK rfl qf_146_43 ?_
      refine st_go hK rfl rfl ?_
      refine gi (v := nI (D + 1)) hK rfl qf_146_39 (by rw [up_ne (by decide), m1']) ?_
      refine st_go hK rfl rfl ?_
      refine bnv hK rfl (show _ = nI D from nI_pred _) ?_
      refine st_go hK rfl rfl ?_
      refine sa (e := D) hK rfl qa_173 rfl (by omega) rfl ?_
      refine st_ret hK rfl rfl ?_
      have f0 : S.2.1 0 = -1 ↔ (ad v' S).2.1 0 = -1 := by
        rw [af]
        skip
      refine kk _ ((fr_row (by decide)).trans (fr_row (by decide))) (by rw [up_ne (by decide), up_ne (by decide)]) ⟨by rw [a1, up_ne (by decide), up_ne (by decide)]; exact m1, fun d hd => ?_, fun k hk => by rw [up_ne (by decide), up_ne (by decide), aM]; exact m3 k hk, by rw [up_ne (by decide), up_ne (by decide)]; exact m4.trans f0, fun e => ⟨fun d hd => ?_, ?_⟩⟩
      · rw [a1] at hd
        rw [up_eq, up_ne (by decide)]
        unfold stg
        rw [af, ag]
        by_cases z : d = D
        · rw [z, upd_eq, ← hD1, upd_eq, if_neg hf, if_neg hv']
        · rw [upd_ne z, upd_ne (by omega)]
          exact m2 d hd
      · rw [a1] at hd
        have q := (m5 e).1 d hd
        rw [af, ag]
        rw [up_ne (by decide), up_ne (by decide), up_ne (by decide), up_eq]
        by_cases z : d = D
        · rw [z, upd_eq, ← hD1, upd_eq]
          rw [z, ← hD1] at q
          exact ⟨q.1, fun _ => hj e⟩
        · rw [upd_ne z, upd_ne (show d + 1 ≠ S.1 by omega)]
          exact q
      · rw [aJ]
        exact mst_tree (m5 e).2 (fun k hk => by rw [up_ne (by decide), up_ne (by decide)]) (fun p h1 h2 => by rw [up_ne (by omega), up_ne (by omega)])
theorem okC_last {x : Nat × Nat} : ∀ (l : List (Nat × Nat)) (T : TT) (i : Nat), okC s (l ++ [x]) T i → okP s (tj l T i) x.1 x.2 (8 + (i + l.length))
  | [], T, i, h => h.1
  | y :: l, T, i, h => by
    have := okC_last l (gTT (8 + i) y.1 y.2 T) (i + 1) h.2
    rw [List.length_cons, show i + (l.length + 1) = i + 1 + l.length by omega]
    exact this
end

