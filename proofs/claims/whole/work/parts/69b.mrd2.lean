/-! READING A TEXT: the model, all of it -/
section
variable {d s n : Nat} {σ υ : cw_V} {S : PS} {t : Nat → Nat} {lam : Nat → Int64} {Q : cw_Q}
theorem z_reads0 {r : Nat} (hs : s ≤ 8) (hn : n ≤ 60) (hS1 : υ 146 1 = nI s) (h36 : υ 146 36 = nI n) (ht : ∀ j, j < n → υ 170 j = nI (t j) ∧ t j ≤ 127) (hr : r ≤ n) (h37 : υ 146 37 = nI r) (hrn : rn s t r = some S) (hf0 : S.2.1 0 = -1) (hM : MSt false σ υ s S) (k1 : ∀ r' S' υ', r ≤ r' → r' < n → rn s t (r' + 1) = some S' → FRm false υ υ' → υ' 146 37 = nI (r' + 1) → MSt false σ υ' s S' → Q (some (.int 1)) (cw_B υ' lam)) (k0 : ∀ r' υ', FA s t n r' → FRm false υ υ' → υ' 146 40 = nI r' → Q (some (.int 0)) (cw_B υ' lam)) : cw_Z (d + 3) m_Mo_reads [.ref 146, .int 0] (cw_B υ lam) Q := by
  refine zi (L := [some (.ref 146), some (.int 0), none, none, none, none]) rfl rfl (fun K hK => ?_)
  refine st_go hK rfl rfl ?_
  refine cv0 hK rfl qc_146 (Nat.le_of_ble_eq_true rfl) ?_
  refine z_here h37 h36 hr hn ht (fun r' q1 q2 q3 q4 => ?_)
  change K _ _ (_ :: _) _
  have hr' : rn s t r' = some S := by
    have := rn_blank hrn (r' - r) (fun j h1 h2 => q3 j h1 (by omega))
    rw [show r + (r' - r) = r' by omega] at this
    exact this
  obtain ⟨⟨T, hP⟩, hDr⟩ := rn_ok hs r' S hr'
  obtain ⟨p1, p2, p3, p4, p5, p6, p7, p8⟩ := hP
  have hP : PI2 s S T := ⟨p1, p2, p3, p4, p5, p6, p7, p8⟩
  obtain ⟨m1, m2, m3, m4, m5⟩ := hM
  have e39 : (cw_up υ 146 37 (nI r')) 146 39 = nI S.1 := by rw [up_eq, upd_ne (by decide)]; exact m1
  have eS1 : (cw_up υ 146 37 (nI r')) 146 1 = nI s := by rw [up_eq, upd_ne (by decide)]; exact hS1
  have e37 : (cw_up υ 146 37 (nI r')) 146 37 = nI r' := by rw [up_eq, upd_eq]
  have fr2 : FRm false υ (cw_up (cw_up υ 146 37 (nI r')) 146 40 (nI r')) := (fr_up (by decide)).trans (fr_up (by decide))
  have pre : ∀ c : Int32, (wt S → K 33 [some (.ref 146), some (.int 0), some (.int c), some (.int 1), none, none] [] (cw_B (cw_up υ 146 37 (nI r')) lam)) → (¬ wt S → K 33 [some (.ref 146), some (.int 0), some (.int c), some (.int 0), none, none] [] (cw_B (cw_up υ 146 37 (nI r')) lam)) → K 4 [some (.ref 146), some (.int 0), none, none, none, none] [.int c] (cw_B (cw_up υ 146 37 (nI r')) lam) := by
    intro c g1 g0
    by_cases hd0 : S.1 = 0
    · have hw : wt S := Or.inl (by rw [hd0]; exact hf0)
      refine st_go hK rfl rfl ?_
      change K _ [some (.ref 146), some (.int (0 : Int32)), some (.int c), _, _, _] _ _
      refine st_go hK rfl rfl ?_
      refine gi (v := nI S.1) hK rfl qf_146_39 e39 ?_
      refine st_ifn hK rfl rfl (nI_eq (a := S.1) (b := 0) (by omega) (by omega)) (fun _ => ?_) (fun c => absurd hd0 c)
      refine st_go hK rfl rfl ?_
      refine st_go hK rfl rfl ?_
      refine st_go hK rfl rfl ?_
      change K _ [some (.ref 146), some (.int (0 : Int32)), some (.int c), some (.int (1 : Int32)), _, _] _ _
      exact g1 hw
    · have est : (cw_up υ 146 37 (nI r')) 173 (S.1 - 1) = stg S S.1 := by
        rw [up_ne (by decide), m2 (S.1 - 1) (by omega), show S.1 - 1 + 1 = S.1 by omega]
      rcases Classical.em (wt S) with hw | hw
      · have hst := stg_lt hw (by omega)
        refine st_go hK rfl rfl ?_
        change K _ [some (.ref 146), some (.int (0 : Int32)), some (.int c), _, _, _] _ _
        refine st_go hK rfl rfl ?_
        refine gi (v := nI S.1) hK rfl qf_146_39 e39 ?_
        refine st_ifn hK rfl rfl (nI_eq (a := S.1) (b := 0) (by omega) (by omega)) (fun c => absurd c hd0) (fun _ => ?_)
        refine st_go hK rfl rfl ?_
        refine st_getr hK rfl qf_146_43 ?_
        refine st_go hK rfl rfl ?_
        refine gi (v := nI S.1) hK rfl qf_146_39 e39 ?_
        refine st_go hK rfl rfl ?_
        refine bnv (v := nI (S.1 - 1)) hK rfl (nI_sub (a := S.1) (b := 1) (by omega)) ?_
        refine ga (e := S.1 - 1) (v := stg S S.1) hK rfl qa_173 rfl (by omega) rfl est ?_
        refine st_go hK rfl rfl ?_
        refine st_if hK rfl rfl (fun c => absurd c hst) (fun _ => ?_)
        refine st_go hK rfl rfl ?_
        refine st_go hK rfl rfl ?_
        refine st_go hK rfl rfl ?_
        change K _ [some (.ref 146), some (.int (0 : Int32)), some (.int c), some (.int (1 : Int32)), _, _] _ _
        exact g1 hw
      · have hst : (2 : Int32) ≤ stg S S.1 := by rw [stg_ge hw (by omega)]; decide
        refine st_go hK rfl rfl ?_
        change K _ [some (.ref 146), some (.int (0 : Int32)), some (.int c), _, _, _] _ _
        refine st_go hK rfl rfl ?_
        refine gi (v := nI S.1) hK rfl qf_146_39 e39 ?_
        refine st_ifn hK rfl rfl (nI_eq (a := S.1) (b := 0) (by omega) (by omega)) (fun c => absurd c hd0) (fun _ => ?_)
        refine st_go hK rfl rfl ?_
        refine st_getr hK rfl qf_146_43 ?_
        refine st_go hK rfl rfl ?_
        refine gi (v := nI S.1) hK rfl qf_146_39 e39 ?_
        refine st_go hK rfl rfl ?_
        refine bnv (v := nI (S.1 - 1)) hK rfl (nI_sub (a := S.1) (b := 1) (by omega)) ?_
        refine ga (e := S.1 - 1) (v := stg S S.1) hK rfl qa_173 rfl (by omega) rfl est ?_
        refine st_go hK rfl rfl ?_
        refine st_if hK rfl rfl (fun _ => ?_) (fun c => absurd hst c)
        refine st_go hK rfl rfl ?_
        refine st_go hK rfl rfl ?_
        change K _ [some (.ref 146), some (.int (0 : Int32)), some (.int c), some (.int (0 : Int32)), _, _] _ _
        exact g0 hw
  have bad : ∀ {i : Nat}, FA s t n i → i = r' → Q (some (.int 0)) (cw_B (cw_up (cw_up υ 146 37 (nI r')) 146 40 (nI r')) lam) := fun hFA e => k0 _ _ hFA fr2 (by rw [e, up_eq, upd_eq])
  by_cases hlt : r' < n
  · rw [if_pos hlt]
    have hb32 := q4 hlt
    have hb127 := (ht r' hlt).2
    obtain ⟨b, eb⟩ : ∃ b, b = t r' := ⟨_, rfl⟩
    rw [← eb] at hb32 hb127 ⊢
    have ok1 : ∀ S', stP s b S = some S' → rn s t (r' + 1) = some S' := fun S' e => by
      show (rn s t r').bind (stP s (t r')) = some S'
      rw [hr', ← eb]
      exact e
    have no1 : stP s b S = none → FA s t n r' := fun e => Or.inl ⟨hlt, S, hr', by rw [← eb]; exact e⟩
    have hsp : stP s b S = if b = 32 then some S
        else if b = 40 then pif (wt S) (some (S.1 + 1, upd S.2.1 (S.1 + 1) (-1), upd S.2.2.1 (S.1 + 1) (-1), S.2.2.2)) none
        else if b = 41 then pif (0 < S.1 ∧ S.2.2.1 S.1 ≠ -1) (some (ad (nI (8 + S.2.2.2.2.length)) (S.1 - 1, S.2.1, S.2.2.1, S.2.2.2.1, S.2.2.2.2 ++ [((S.2.1 S.1).toNatClampNeg, (S.2.2.1 S.1).toNatClampNeg)]))) none
        else pif (wt S ∧ 48 ≤ b ∧ b - 48 < s ∧ bitN S.2.2.2.1 (b - 48) = 0) (some (ad (nI (b - 48)) (S.1, S.2.1, S.2.2.1, S.2.2.2.1 + 2 ^ (b - 48), S.2.2.2.2))) none := rfl
    rw [if_neg hb32] at hsp
    refine pre (nI b) (fun hw => ?_) (fun hw => ?_)
    · by_cases b40 : b = 40
      · rw [if_pos b40, pif_p hw] at hsp
        have hrs := ok1 _ hsp
        refine st_go hK rfl rfl ?_
        refine st_go hK rfl rfl ?_
        refine gi (v := nI r') hK rfl qf_146_37 e37 ?_
        refine st_put hK rfl qf_146_40 rfl ?_
        refine st_go hK rfl rfl ?_
        refine st_go hK rfl rfl ?_
        refine st_ifn hK rfl rfl (not_congr (nI_eq (a := b) (b := 40) (by omega) (by omega))) (fun c => absurd c (fun z => z b40)) (fun _ => ?_)
        refine st_go hK rfl rfl ?_
        refine st_if hK rfl rfl (fun c => absurd c (by decide)) (fun _ => ?_)
        refine st_go hK rfl rfl ?_
        refine st_getr hK rfl qf_146_43 ?_
        refine st_go hK rfl rfl ?_
        refine gi (v := nI S.1) hK rfl qf_146_39 (by rw [up_eq, upd_ne (by decide), e39]) ?_
        refine st_go hK rfl rfl ?_
        refine sa (e := S.1) hK rfl qa_173 rfl (by omega) rfl ?_
        refine st_go hK rfl rfl ?_
        refine st_go hK rfl rfl ?_
        refine gi (v := nI S.1) hK rfl qf_146_39 (by rw [up_ne (by decide), up_eq, upd_ne (by decide), e39]) ?_
        refine st_go hK rfl rfl ?_
        refine bnv hK rfl (show _ = nI (S.1 + 1) from nI_add S.1 1) ?_
        refine st_put hK rfl qf_146_39 rfl ?_
        refine st_go hK rfl rfl ?_
        refine st_go hK rfl rfl ?_
        refine st_go hK rfl rfl ?_
        refine gi (v := nI r') hK rfl qf_146_37 (by rw [up_eq, upd_ne (by decide), up_ne (by decide), up_eq, upd_ne (by decide), e37]) ?_
        refine st_go hK rfl rfl ?_
        refine bnv hK rfl (show _ = nI (r' + 1) from nI_add r' 1) ?_
        refine st_put hK rfl qf_146_37 rfl ?_
        refine st_go hK rfl rfl ?_
        refine st_zret hK rfl (Or.inr rfl) ?_
        refine k1 r' _ _ q1 hlt hrs ⟨⟨fun p hp => ?_, fun k hk => ?_⟩, fun _ p h1 h2 => ?_⟩ ?_ ⟨?_, fun d hd => ?_, fun k hk => ?_, ?_, fun e => ⟨fun d hd => ?_, ?_⟩⟩
        · simp only [up_ne (show p ≠ 146 by omega), up_ne (show p ≠ 173 by omega)]
        · rw [up_eq, upd_ne (by omega), up_eq, upd_ne (by omega), up_ne (by decide), up_eq, upd_ne (by omega), up_eq, upd_ne (by omega)]
        · simp only [up_ne (show p ≠ 146 by omega), up_ne (show p ≠ 173 by omega)]
        · rw [up_eq, upd_eq]
        · simp [cw_up, upd]
        · have hd' : d < S.1 + 1 := hd
          have e173 : ∀ x y z w : Int32, cw_up (cw_up (cw_up (cw_up (cw_up υ 146 37 x) 146 40 y) 173 S.1 0) 146 39 z) 146 37 w 173 d = upd (υ 173) S.1 0 d := fun x y z w => by simp [cw_up]
          rw [e173]
          unfold stg
          show _ = if upd S.2.1 (S.1 + 1) (-1) (d + 1) = -1 then (0 : Int32) else if upd S.2.2.1 (S.1 + 1) (-1) (d + 1) = -1 then 1 else 2
          by_cases z : d = S.1
          · rw [z, upd_eq, upd_eq, if_pos rfl]
          · rw [upd_ne z, upd_ne (by omega), upd_ne (by omega)]
            exact m2 d (by omega)
        · have : ∀ x y z w : Int32, cw_up (cw_up (cw_up (cw_up (cw_up υ 146 37 x) 146 40 y) 173 S.1 0) 146 39 z) 146 37 w 172 k = υ 172 k := fun x y z w => by simp [cw_up]
          rw [this]
          exact m3 k hk
        · have : ∀ x y z w : Int32, cw_up (cw_up (cw_up (cw_up (cw_up υ 146 37 x) 146 40 y) 173 S.1 0) 146 39 z) 146 37 w 146 42 = υ 146 42 := fun x y z w => by simp [cw_up, upd]
          rw [this]
          show _ ↔ upd S.2.1 (S.1 + 1) (-1) 0 = -1
          rw [upd_ne (by omega)]
          exact m4
        · have hd' : d < S.1 + 1 := hd
          have t1 : ∀ x y z w : Int32, cw_up (cw_up (cw_up (cw_up (cw_up υ 146 37 x) 146 40 y) 173 S.1 0) 146 39 z) 146 37 w 171 d = υ 171 d := fun x y z w => by simp [cw_up]
          have t2 : ∀ x y z w : Int32, cw_up (cw_up (cw_up (cw_up (cw_up υ 146 37 x) 146 40 y) 173 S.1 0) 146 39 z) 146 37 w 174 d = υ 174 d := fun x y z w => by simp [cw_up]
          rw [t1, t2]
          show (upd S.2.1 (S.1 + 1) (-1) (d + 1) ≠ -1 → υ 171 d = upd S.2.1 (S.1 + 1) (-1) (d + 1)) ∧ (upd S.2.2.1 (S.1 + 1) (-1) (d + 1) ≠ -1 → υ 174 d = upd S.2.2.1 (S.1 + 1) (-1) (d + 1))
          by_cases z : d = S.1
          · rw [z, upd_eq, upd_eq]
            exact ⟨fun q => absurd rfl q, fun q => absurd rfl q⟩
          · rw [upd_ne (by omega), upd_ne (by omega)]
            exact (m5 e).1 d (by omega)
        · exact mst_tree (m5 e).2 (fun k hk => by rw [up_eq, upd_ne (by omega), up_eq, upd_ne (by omega), up_ne (by decide), up_eq, upd_ne (by omega), up_eq, upd_ne (by omega)]) (fun p h1 h2 => by simp only [up_ne (show p ≠ 146 by omega), up_ne (show p ≠ 173 by omega)])
      · rw [if_neg b40] at hsp
        by_cases hk : 48 ≤ b ∧ b - 48 < s
        · obtain ⟨k, rfl⟩ : ∃ k, b = 48 + k := ⟨b - 48, by omega⟩
          rw [if_neg (by omega), Nat.add_sub_cancel_left] at hsp
          have hks : k < s := by have := hk.2; rw [Nat.add_sub_cancel_left] at this; exact this
          have hin : (0 : Int32) ≤ nI k ∧ nI k ≤ nI s - 1 := (nI_up hs).mpr ⟨k, hks, rfl⟩
          have etk : (cw_up (cw_up υ 146 37 (nI r')) 146 40 (nI r')) 172 k = nI (bitN S.2.2.2.1 k) := by rw [up_ne (by decide), up_ne (by decide)]; exact m3 k (by omega)
          rcases bit_01 (M := S.2.2.2.1) (k := k) with hbit | hbit
          · rw [pif_p ⟨hw, by omega, hks, hbit⟩] at hsp
            have hrs := ok1 _ hsp
            obtain ⟨bm1, bm2⟩ := bit_add _ p8 k (by omega) hbit
            have etk0 : (cw_up υ 146 37 (nI r')) 172 k = (0 : Int32) := by rw [up_ne (by decide), m3 k (by omega), hbit]; rfl
            refine st_go hK rfl rfl ?_
            refine st_go hK rfl rfl ?_
            refine gi (v := nI r') hK rfl qf_146_37 e37 ?_
            refine st_put hK rfl qf_146_40 rfl ?_
            refine st_go hK rfl rfl ?_
            refine st_go hK rfl rfl ?_
            refine st_ifn hK rfl rfl (not_congr (nI_eq (a := 48 + k) (b := 40) (by omega) (by omega))) (fun _ => ?_) (fun c => absurd b40 c)
            refine st_go hK rfl rfl ?_
            refine st_if hK rfl rfl (fun c => absurd c (by decide)) (fun _ => ?_)
            refine st_go hK rfl rfl ?_
            refine st_go hK rfl rfl ?_
            refine bnv (v := nI k) hK rfl ((nI_sub (a := 48 + k) (b := 48) (by omega)).trans (congrArg nI (by omega))) ?_
            refine st_go hK rfl rfl ?_
            refine st_go hK rfl rfl ?_
            refine gi (v := nI s) hK rfl qf_146_1 (by rw [up_eq, upd_ne (by decide), eS1]) ?_
            refine st_go hK rfl rfl ?_
            refine st_bin hK rfl ?_
            refine cs3 hK rfl (Nat.le_of_ble_eq_true rfl) ?_
            refine z_min (fun _ => ?_) (fun c => absurd hin c)
            change K _ _ (_ :: _) _
            refine st_if hK rfl rfl (fun c => absurd c (by decide)) (fun _ => ?_)
            refine st_go hK rfl rfl ?_
            refine st_getr hK rfl qf_146_41 ?_
            refine st_go hK rfl rfl ?_
            refine st_go hK rfl rfl ?_
            refine bnv (v := nI k) hK rfl ((nI_sub (a := 48 + k) (b := 48) (by omega)).trans (congrArg nI (by omega))) ?_
            refine ga (e := k) (v := (0 : Int32)) hK rfl qa_172 rfl (by omega) rfl (by rw [up_ne (by decide), etk0]) ?_
            refine st_if hK rfl rfl (fun c => absurd c (by decide)) (fun _ => ?_)
            refine st_go hK rfl rfl ?_
            refine st_getr hK rfl qf_146_41 ?_
            refine st_go hK rfl rfl ?_
            refine st_go hK rfl rfl ?_
            refine bnv (v := nI k) hK rfl ((nI_sub (a := 48 + k) (b := 48) (by omega)).trans (congrArg nI (by omega))) ?_
            refine st_go hK rfl rfl ?_
            refine sa (e := k) hK rfl qa_172 rfl (by omega) rfl ?_
            refine st_go hK rfl rfl ?_
            refine st_go hK rfl rfl ?_
            refine st_go hK rfl rfl ?_
            refine bnv (v := nI k) hK rfl ((nI_sub (a := 48 + k) (b := 48) (by omega)).trans (congrArg nI (by omega))) ?_
            refine cv1 hK rfl qc_146 (Nat.le_of_ble_eq_true rfl) ?_
            have hMk : MSt false σ (cw_up (cw_up (cw_up υ 146 37 (nI r')) 146 40 (nI r')) 172 k (1 : Int32)) s (S.1, S.2.1, S.2.2.1, S.2.2.2.1 + 2 ^ k, S.2.2.2.2) := by
              refine ⟨by simp only [up_ne (show (146 : Nat) ≠ 172 by decide), up_eq, upd_ne (show (39 : Nat) ≠ 40 by decide), upd_ne (show (39 : Nat) ≠ 37 by decide)]; exact m1, fun d hd => ?_, fun q hq => ?_, by simp only [up_ne (show (146 : Nat) ≠ 172 by decide), up_eq, upd_ne (show (42 : Nat) ≠ 40 by decide), upd_ne (show (42 : Nat) ≠ 37 by decide)]; exact m4, fun e => ⟨fun d hd => ?_, ?_⟩⟩
              · rw [up_ne (by decide), up_ne (by decide), up_ne (by decide)]
                exact m2 d hd
              · rw [up_eq, up_ne (by decide), up_ne (by decide)]
                show _ = nI (bitN (S.2.2.2.1 + 2 ^ k) q)
                rw [bm2 q hq]
                by_cases z : q = k
                · rw [z, upd_eq, if_pos rfl]; rfl
                · rw [upd_ne z, if_neg z]; exact m3 q hq
              · rw [up_ne (by decide), up_ne (by decide), up_ne (by decide), up_ne (by decide), up_ne (by decide), up_ne (by decide)]
                exact (m5 e).1 d hd
              · exact mst_tree (m5 e).2 (fun k hk => by rw [up_ne (by decide), up_eq, upd_ne (by omega), up_eq, upd_ne (by omega)]) (fun p h1 h2 => by rw [up_ne (by omega), up_ne (by omega), up_ne (by omega)])
            have frk : FRm false υ (cw_up (cw_up (cw_up υ 146 37 (nI r')) 146 40 (nI r')) 172 k (1 : Int32)) := fr2.trans (fr_row (by decide))
            refine z_tells (v' := nI k) hMk hw (by show S.1 ≤ 60; omega) (p4 S.1 (Nat.le_refl _)) (nI_ne1 (by omega)) (nI_ne1 (by omega)) (fun _ => rfl) (fun υ2 hF2 h237 hM2 => ?_)
            have h2r : υ2 146 37 = nI r' := by rw [h237, up_ne (by decide), up_eq, upd_ne (by decide), up_eq, upd_eq]
            change K _ _ _ _
            refine st_go hK rfl rfl ?_
            refine st_go hK rfl rfl ?_
            refine st_go hK rfl rfl ?_
            refine gi (v := nI r') hK rfl qf_146_37 h2r ?_
            refine st_go hK rfl rfl ?_
            refine bnv hK rfl (show _ = nI (r' + 1) from nI_add r' 1) ?_
            refine st_put hK rfl qf_146_37 rfl ?_
            refine st_go hK rfl rfl ?_
            refine st_zret hK rfl (Or.inr rfl) ?_
            have hM3 : MSt false σ (cw_up υ2 146 37 (nI (r' + 1))) s (ad (nI k) (S.1, S.2.1, S.2.2.1, S.2.2.2.1 + 2 ^ k, S.2.2.2.2)) := by
              obtain ⟨n1, n2, n3, n4, n5⟩ := hM2
              refine ⟨by rw [up_eq, upd_ne (by decide)]; exact n1, fun d hd => by rw [up_ne (by decide)]; exact n2 d hd, fun q hq => by rw [up_ne (by decide)]; exact n3 q hq, by rw [up_eq, upd_ne (by decide)]; exact n4, fun e => ⟨fun d hd => by rw [up_ne (by decide), up_ne (by decide)]; exact (n5 e).1 d hd, ?_⟩⟩
              exact mst_tree (n5 e).2 (fun k hk => by rw [up_eq, upd_ne (by omega)]) (fun p h1 h2 => up_ne (by omega))
            exact k1 r' _ _ q1 hlt hrs ((frk.trans hF2).trans (fr_up (by decide))) (by rw [up_eq, upd_eq]) hM3
          · rw [pif_n (fun z => by omega)] at hsp
            rw [hbit] at etk
            have etk1 : (cw_up υ 146 37 (nI r')) 172 k = (1 : Int32) := by rw [up_ne (by decide), m3 k (by omega), hbit]; rfl
            refine st_go hK rfl rfl ?_
            refine st_go hK rfl rfl ?_
            refine gi (v := nI r') hK rfl qf_146_37 e37 ?_
            refine st_put hK rfl qf_146_40 rfl ?_
            refine st_go hK rfl rfl ?_
            refine st_go hK rfl rfl ?_
            refine st_ifn hK rfl rfl (not_congr (nI_eq (a := 48 + k) (b := 40) (by omega) (by omega))) (fun _ => ?_) (fun c => absurd b40 c)
            refine st_go hK rfl rfl ?_
            refine st_if hK rfl rfl (fun c => absurd c (by decide)) (fun _ => ?_)
            refine st_go hK rfl rfl ?_
            refine st_go hK rfl rfl ?_
            refine bnv (v := nI k) hK rfl ((nI_sub (a := 48 + k) (b := 48) (by omega)).trans (congrArg nI (by omega))) ?_
            refine st_go hK rfl rfl ?_
            refine st_go hK rfl rfl ?_
            refine gi (v := nI s) hK rfl qf_146_1 (by rw [up_eq, upd_ne (by decide), eS1]) ?_
            refine st_go hK rfl rfl ?_
            refine st_bin hK rfl ?_
            refine cs3 hK rfl (Nat.le_of_ble_eq_true rfl) ?_
            refine z_min (fun _ => ?_) (fun c => absurd hin c)
            change K _ _ (_ :: _) _
            refine st_if hK rfl rfl (fun c => absurd c (by decide)) (fun _ => ?_)
            refine st_go hK rfl rfl ?_
            refine st_getr hK rfl qf_146_41 ?_
            refine st_go hK rfl rfl ?_
            refine st_go hK rfl rfl ?_
            refine bnv (v := nI k) hK rfl ((nI_sub (a := 48 + k) (b := 48) (by omega)).trans (congrArg nI (by omega))) ?_
            refine ga (e := k) (v := (1 : Int32)) hK rfl qa_172 rfl (by omega) rfl (by rw [up_ne (by decide), etk1]) ?_
            refine st_if hK rfl rfl (fun _ => ?_) (fun c => absurd (by decide) c)
            refine st_go hK rfl rfl ?_
            refine st_go hK rfl rfl ?_
            refine st_ifn hK rfl rfl (not_congr (nI_eq (a := 48 + k) (b := 41) (by omega) (by omega))) (fun _ => ?_) (fun c => absurd (by omega) c)
            refine st_go hK rfl rfl ?_
            refine st_zret hK rfl (Or.inl rfl) ?_
            exact bad (no1 hsp) rfl
        · have hin : ¬ ((0 : Int32) ≤ nI b - 48 ∧ nI b - 48 ≤ nI s - 1) := fun z => by
            obtain ⟨k, k1, k2⟩ := (nI_up hs).mp z
            have : nI b = nI (48 + k) := by
              rw [← nI_add, show nI 48 = (48 : Int32) from rfl, ← k2, Int32.add_comm, Int32.sub_add_cancel]
            have := nI_inj (by omega) (by omega) this
            omega
          by_cases b41 : b = 41
          · rw [if_pos b41, pif_n (fun z => by
              rcases hw with q | q
              · exact p4 S.1 (Nat.le_refl _) z.2 q
              · exact z.2 q.2)] at hsp
            refine st_go hK rfl rfl ?_
            refine st_go hK rfl rfl ?_
            refine gi (v := nI r') hK rfl qf_146_37 e37 ?_
            refine st_put hK rfl qf_146_40 rfl ?_
            refine st_go hK rfl rfl ?_
            refine st_go hK rfl rfl ?_
            refine st_ifn hK rfl rfl (not_congr (nI_eq (a := b) (b := 40) (by omega) (by omega))) (fun _ => ?_) (fun c => absurd b40 c)
            refine st_go hK rfl rfl ?_
            refine st_if hK rfl rfl (fun c => absurd c (by decide)) (fun _ => ?_)
            refine st_go hK rfl rfl ?_
            refine st_go hK rfl rfl ?_
            refine bnv (v := (nI b - 48)) hK rfl rfl ?_
            refine st_go hK rfl rfl ?_
            refine st_go hK rfl rfl ?_
            refine gi (v := nI s) hK rfl qf_146_1 (by rw [up_eq, upd_ne (by decide), eS1]) ?_
            refine st_go hK rfl rfl ?_
            refine st_bin hK rfl ?_
            refine cs3 hK rfl (Nat.le_of_ble_eq_true rfl) ?_
            refine z_min (fun c => absurd c hin) (fun _ => ?_)
            change K _ _ (_ :: _) _
            refine st_if hK rfl rfl (fun _ => ?_) (fun c => absurd (by decide) c)
            refine st_go hK rfl rfl ?_
            refine st_go hK rfl rfl ?_
            refine st_ifn hK rfl rfl (not_congr (nI_eq (a := b) (b := 41) (by omega) (by omega))) (fun c => absurd c (fun z => z b41)) (fun _ => ?_)
            refine st_go hK rfl rfl ?_
            refine st_if hK rfl rfl (fun _ => ?_) (fun c => absurd (by decide) c)
            refine st_go hK rfl rfl ?_
            refine st_zret hK rfl (Or.inl rfl) ?_
            exact bad (no1 hsp) rfl
          · rw [if_neg b41, pif_n (fun z => hk ⟨z.2.1, z.2.2.1⟩)] at hsp
            refine st_go hK rfl rfl ?_
            refine st_go hK rfl rfl ?_
            refine gi (v := nI r') hK rfl qf_146_37 e37 ?_
            refine st_put hK rfl qf_146_40 rfl ?_
            refine st_go hK rfl rfl ?_
            refine st_go hK rfl rfl ?_
            refine st_ifn hK rfl rfl (not_congr (nI_eq (a := b) (b := 40) (by omega) (by omega))) (fun _ => ?_) (fun c => absurd b40 c)
            refine st_go hK rfl rfl ?_
            refine st_if hK rfl rfl (fun c => absurd c (by decide)) (fun _ => ?_)
            refine st_go hK rfl rfl ?_
            refine st_go hK rfl rfl ?_
            refine bnv (v := (nI b - 48)) hK rfl rfl ?_
            refine st_go hK rfl rfl ?_
            refine st_go hK rfl rfl ?_
            refine gi (v := nI s) hK rfl qf_146_1 (by rw [up_eq, upd_ne (by decide), eS1]) ?_
            refine st_go hK rfl rfl ?_
            refine st_bin hK rfl ?_
            refine cs3 hK rfl (Nat.le_of_ble_eq_true rfl) ?_
            refine z_min (fun c => absurd c hin) (fun _ => ?_)
            change K _ _ (_ :: _) _
            refine st_if hK rfl rfl (fun _ => ?_) (fun c => absurd (by decide) c)
            refine st_go hK rfl rfl ?_
            refine st_go hK rfl rfl ?_
            refine st_ifn hK rfl rfl (not_congr (nI_eq (a := b) (b := 41) (by omega) (by omega))) (fun _ => ?_) (fun c => absurd b41 c)
            refine st_go hK rfl rfl ?_
            refine st_zret hK rfl (Or.inl rfl) ?_
            exact bad (no1 hsp) rfl
    · have hd : 0 < S.1 := by
        rcases Nat.eq_zero_or_pos S.1 with z | z
        · exact absurd (Or.inl (by rw [z]; exact hf0)) hw
        · exact z
      have hfn : S.2.1 S.1 ≠ -1 := fun z => hw (Or.inl z)
      have hgn : S.2.2.1 S.1 ≠ -1 := fun z => hw (Or.inr ⟨hd, z⟩)
      by_cases b41 : b = 41
      · rw [if_neg (by omega), if_pos b41, pif_p ⟨hd, hgn⟩] at hsp
        have hrs := ok1 _ hsp
        obtain ⟨a, ea, a15, -⟩ := (p2 S.1 false (Nat.le_refl _)).resolve_left hfn
        obtain ⟨b', eb', b15, -⟩ := (p2 S.1 true (Nat.le_refl _)).resolve_left hgn
        have ea1 : S.2.1 S.1 = nI a := ea
        have eb1 : S.2.2.1 S.1 = nI b' := eb'
        rw [ea1, eb1, nI_clamp (show a < 2 ^ 31 by omega), nI_clamp (show b' < 2 ^ 31 by omega)] at hsp hrs
        obtain ⟨⟨T', hP'⟩, -⟩ := hP.step hs hsp
        have hokc : okC s (S.2.2.2.2 ++ [(a, b')]) T0 0 := by
          have := hP'.1.2.1
          rw [adp_1.2] at this
          exact this
        have hokp := okC_last S.2.2.2.2 T0 0 hokc
        rw [Nat.zero_add] at hokp
        have hwt2 : wt (S.1 - 1, S.2.1, S.2.2.1, S.2.2.2.1, S.2.2.2.2 ++ [(a, b')]) := p6 (S.1 - 1) (by omega)
        have hj15 := hokp.2.2.2.2.2.1.2
        have MS1 : ∀ υ1, υ1 146 39 = nI (S.1 - 1) → (∀ p, 171 ≤ p → p ≤ 174 → υ1 p = υ p) → υ1 146 42 = υ 146 42 → (false = true → MW υ1 s ∧ TE (mv υ1) 1 (vT σ (tj (S.2.2.2.2 ++ [(a, b')]) T0 0)) 1) → MSt false σ υ1 s (S.1 - 1, S.2.1, S.2.2.1, S.2.2.2.1, S.2.2.2.2 ++ [(a, b')]) := fun υ1 u1 u2 u3 u4 => by
          refine ⟨u1, fun d hd' => ?_, fun k hk => by rw [u2 172 (by decide) (by decide)]; exact m3 k hk, by rw [u3]; exact m4, fun e => ⟨fun d hd' => ?_, u4 e⟩⟩
          · have hd2 : d < S.1 - 1 := hd'
            rw [u2 173 (by decide) (by decide)]
            exact m2 d (by omega)
          · have hd2 : d < S.1 - 1 := hd'
            rw [u2 171 (by decide) (by decide), u2 174 (by decide) (by decide)]
            exact (m5 e).1 d (by omega)
        have hMS := MS1 (cw_up (cw_up (cw_up υ 146 37 (nI r')) 146 40 (nI r')) 146 39 (nI (S.1 - 1))) (by rw [up_eq, upd_eq]) (fun p h1 h2 => by rw [up_ne (by omega), up_ne (by omega), up_ne (by omega)]) (by rw [up_eq, upd_ne (by decide), up_eq, upd_ne (by decide), up_eq, upd_ne (by decide)]) (fun z => by cases z)
        have fr3 : FRm false υ (cw_up (cw_up (cw_up υ 146 37 (nI r')) 146 40 (nI r')) 146 39 (nI (S.1 - 1))) := fr2.trans (fr_up (by decide))
        have e1r : (cw_up (cw_up (cw_up υ 146 37 (nI r')) 146 40 (nI r')) 146 39 (nI (S.1 - 1))) 146 37 = nI r' := by rw [up_eq, upd_ne (by decide), up_eq, upd_ne (by decide), up_eq, upd_eq]
        refine st_go hK rfl rfl ?_
        refine st_go hK rfl rfl ?_
        refine gi (v := nI r') hK rfl qf_146_37 e37 ?_
        refine st_put hK rfl qf_146_40 rfl ?_
        refine st_go hK rfl rfl ?_
        refine st_go hK rfl rfl ?_
        refine st_ifn hK rfl rfl (not_congr (nI_eq (a := b) (b := 40) (by omega) (by omega))) (fun _ => ?_) (fun c => absurd (by omega) c)
        refine st_go hK rfl rfl ?_
        refine st_if hK rfl rfl (fun _ => ?_) (fun c => absurd (by decide) c)
        refine st_go hK rfl rfl ?_
        refine st_go hK rfl rfl ?_
        refine st_ifn hK rfl rfl (not_congr (nI_eq (a := b) (b := 41) (by omega) (by omega))) (fun c => absurd c (fun z => z b41)) (fun _ => ?_)
        refine st_go hK rfl rfl ?_
        refine st_if hK rfl rfl (fun c => absurd c (by decide)) (fun _ => ?_)
        refine st_go hK rfl rfl ?_
        refine st_go hK rfl rfl ?_
        refine gi (v := nI S.1) hK rfl qf_146_39 (by rw [up_eq, upd_ne (by decide), e39]) ?_
        refine st_go hK rfl rfl ?_
        refine bnv (v := nI (S.1 - 1)) hK rfl (nI_sub (a := S.1) (b := 1) (by omega)) ?_
        refine st_put hK rfl qf_146_39 rfl ?_
        refine st_go hK rfl rfl ?_
        refine st_getr hK rfl qf_146_38 ?_
        refine st_go hK rfl rfl ?_
        refine gi (v := nI (S.1 - 1)) hK rfl qf_146_39 (by rw [up_eq, upd_eq]) ?_
        refine ga (e := S.1 - 1) (v := (cw_up υ 146 37 (nI r')) 171 (S.1 - 1)) hK rfl qa_171 rfl (by omega) rfl (by rw [up_ne (by decide), up_ne (by decide)]) ?_
        refine st_go hK rfl rfl ?_
        change K _ [some (.ref 146), some (.int (0 : Int32)), some (.int (nI b)), some (.int (0 : Int32)), some (.int ((cw_up υ 146 37 (nI r')) 171 (S.1 - 1))), _] _ _
        refine st_go hK rfl rfl ?_
        refine st_getr hK rfl qf_146_44 ?_
        refine st_go hK rfl rfl ?_
        refine gi (v := nI (S.1 - 1)) hK rfl qf_146_39 (by rw [up_eq, upd_eq]) ?_
        refine ga (e := S.1 - 1) (v := (cw_up υ 146 37 (nI r')) 174 (S.1 - 1)) hK rfl qa_174 rfl (by omega) rfl (by rw [up_ne (by decide), up_ne (by decide)]) ?_
        refine st_go hK rfl rfl ?_
        change K _ [some (.ref 146), some (.int (0 : Int32)), some (.int (nI b)), some (.int (0 : Int32)), some (.int ((cw_up υ 146 37 (nI r')) 171 (S.1 - 1))), some (.int ((cw_up υ 146 37 (nI r')) 174 (S.1 - 1)))] _ _
        refine st_go hK rfl rfl ?_
        refine st_go hK rfl rfl ?_
        refine st_if hK rfl rfl (fun _ => ?_) (fun c => absurd (by decide) c)
        refine st_go hK rfl rfl ?_
        refine cv1 hK rfl qc_146 (Nat.le_of_ble_eq_true rfl) ?_
        refine z_tells (v := (8 : Int32)) (v' := nI (8 + S.2.2.2.2.length)) hMS hwt2 (by show S.1 - 1 ≤ 60; omega) (p4 (S.1 - 1) (by omega)) (by decide) (nI_ne1 (by omega)) (fun z => by cases z) (fun υ2 hF2 h237 hM2 => ?_)
        have h2r : υ2 146 37 = nI r' := h237.trans e1r
        change K _ _ _ _
        refine st_go hK rfl rfl ?_
        refine st_go hK rfl rfl ?_
        refine st_go hK rfl rfl ?_
        refine gi (v := nI r') hK rfl qf_146_37 h2r ?_
        refine st_go hK rfl rfl ?_
        refine bnv hK rfl (show _ = nI (r' + 1) from nI_add r' 1) ?_
        refine st_put hK rfl qf_146_37 rfl ?_
        refine st_go hK rfl rfl ?_
        refine st_zret hK rfl (Or.inr rfl) ?_
        have hM3 : MSt false σ (cw_up υ2 146 37 (nI (r' + 1))) s (ad (nI (8 + S.2.2.2.2.length)) (S.1 - 1, S.2.1, S.2.2.1, S.2.2.2.1, S.2.2.2.2 ++ [(a, b')])) := by
          obtain ⟨n1, n2, n3, n4, n5⟩ := hM2
          refine ⟨by rw [up_eq, upd_ne (by decide)]; exact n1, fun d hd => by rw [up_ne (by decide)]; exact n2 d hd, fun q hq => by rw [up_ne (by decide)]; exact n3 q hq, by rw [up_eq, upd_ne (by decide)]; exact n4, fun e => ⟨fun d hd => by rw [up_ne (by decide), up_ne (by decide)]; exact (n5 e).1 d hd, ?_⟩⟩
          exact mst_tree (n5 e).2 (fun k hk => by rw [up_eq, upd_ne (by omega)]) (fun p h1 h2 => up_ne (by omega))
        exact k1 r' _ _ q1 hlt hrs ((fr3.trans hF2).trans (fr_up (by decide))) (by rw [up_eq, upd_eq]) hM3
      · have hnone : stP s b S = none := by
          rw [hsp, if_neg b41]
          by_cases b40 : b = 40
          · rw [if_pos b40, pif_n hw]
          · rw [if_neg b40, pif_n (fun z => hw z.1)]
        refine st_go hK rfl rfl ?_
        refine st_go hK rfl rfl ?_
        refine gi (v := nI r') hK rfl qf_146_37 e37 ?_
        refine st_put hK rfl qf_146_40 rfl ?_
        refine st_go hK rfl rfl ?_
        refine st_go hK rfl rfl ?_
        refine st_ifn hK rfl rfl (not_congr (nI_eq (a := b) (b := 40) (by omega) (by omega))) (fun c44 => ?_) (fun c44 => ?_)
        · refine st_go hK rfl rfl ?_
          refine st_if hK rfl rfl (fun _ => ?_) (fun c => absurd (by decide) c)
          refine st_go hK rfl rfl ?_
          refine st_go hK rfl rfl ?_
          refine st_ifn hK rfl rfl (not_congr (nI_eq (a := b) (b := 41) (by omega) (by omega))) (fun _ => ?_) (fun c => absurd b41 c)
          refine st_go hK rfl rfl ?_
          refine st_zret hK rfl (Or.inl rfl) ?_
          exact bad (no1 hnone) rfl
        · refine st_go hK rfl rfl ?_
          refine st_if hK rfl rfl (fun _ => ?_) (fun c => absurd (by decide) c)
          refine st_go hK rfl rfl ?_
          refine st_if hK rfl rfl (fun _ => ?_) (fun c => absurd (by decide) c)
          refine st_go hK rfl rfl ?_
          refine st_go hK rfl rfl ?_
          refine st_ifn hK rfl rfl (not_congr (nI_eq (a := b) (b := 41) (by omega) (by omega))) (fun _ => ?_) (fun c => absurd b41 c)
          refine st_go hK rfl rfl ?_
          refine st_zret hK rfl (Or.inl rfl) ?_
          exact bad (no1 hnone) rfl
  · rw [if_neg hlt]
    have hrn2 : r' = n := by omega
    have hFA : FA s t n r' := Or.inr ⟨hrn2, S, by rw [← hrn2]; exact hr', fun z => z.2 hf0⟩
    refine pre (-1) (fun hw => ?_) (fun hw => ?_)
    · skip
      refine st_go hK rfl rfl ?_
      refine st_go hK rfl rfl ?_
      refine gi (v := nI r') hK rfl qf_146_37 e37 ?_
      refine st_put hK rfl qf_146_40 rfl ?_
      refine st_go hK rfl rfl ?_
      refine st_go hK rfl rfl ?_
      refine st_if hK rfl rfl (fun _ => ?_) (fun c => absurd (by decide) c)
      refine st_go hK rfl rfl ?_
      refine st_if hK rfl rfl (fun c => absurd c (by decide)) (fun _ => ?_)
      refine st_go hK rfl rfl ?_
      refine st_go hK rfl rfl ?_
      refine st_bin hK rfl ?_
      refine st_go hK rfl rfl ?_
      refine st_go hK rfl rfl ?_
      refine gi (v := nI s) hK rfl qf_146_1 (by rw [up_eq, upd_ne (by decide), eS1]) ?_
      refine st_go hK rfl rfl ?_
      refine st_bin hK rfl ?_
      refine cs3 hK rfl (Nat.le_of_ble_eq_true rfl) ?_
      refine z_min (fun c => absurd c.1 (by decide)) (fun _ => ?_)
      change K _ _ (_ :: _) _
      refine st_if hK rfl rfl (fun _ => ?_) (fun c => absurd (by decide) c)
      refine st_go hK rfl rfl ?_
      refine st_go hK rfl rfl ?_
      refine st_if hK rfl rfl (fun _ => ?_) (fun c => absurd (by decide) c)
      refine st_go hK rfl rfl ?_
      refine st_zret hK rfl (Or.inl rfl) ?_
      exact bad hFA rfl
    · skip
      refine st_go hK rfl rfl ?_
      refine st_go hK rfl rfl ?_
      refine gi (v := nI r') hK rfl qf_146_37 e37 ?_
      refine st_put hK rfl qf_146_40 rfl ?_
      refine st_go hK rfl rfl ?_
      refine st_go hK rfl rfl ?_
      refine st_if hK rfl rfl (fun _ => ?_) (fun c => absurd (by decide) c)
      refine st_go hK rfl rfl ?_
      refine st_if hK rfl rfl (fun _ => ?_) (fun c => absurd (by decide) c)
      refine st_go hK rfl rfl ?_
      refine st_go hK rfl rfl ?_
      refine st_if hK rfl rfl (fun _ => ?_) (fun c => absurd (by decide) c)
      refine st_go hK rfl rfl ?_
      refine st_zret hK rfl (Or.inl rfl) ?_
      exact bad hFA rfl
theorem z_reads1 {r : Nat} (hs : s ≤ 8) (hn : n ≤ 60) (hS1 : υ 146 1 = nI s) (h36 : υ 146 36 = nI n) (ht : ∀ j, j < n → υ 170 j = nI (t j) ∧ t j ≤ 127) (hr : r ≤ n) (h37 : υ 146 37 = nI r) (hrn : rn s t r = some S) (hf0 : S.2.1 0 = -1) (hM : MSt true σ υ s S) (k1 : ∀ r' S' υ', r ≤ r' → r' < n → rn s t (r' + 1) = some S' → FRm true υ υ' → υ' 146 37 = nI (r' + 1) → MSt true σ υ' s S' → Q (some (.int 1)) (cw_B υ' lam)) (k0 : ∀ r' υ', FA s t n r' → FRm true υ υ' → υ' 146 40 = nI r' → Q (some (.int 0)) (cw_B υ' lam)) : cw_Z (d + 3) m_Mo_reads [.ref 146, .int 1] (cw_B υ lam) Q := by
  refine zi (L := [some (.ref 146), some (.int 1), none, none, none, none]) rfl rfl (fun K hK => ?_)
  refine st_go hK rfl rfl ?_
  refine cv0 hK rfl qc_146 (Nat.le_of_ble_eq_true rfl) ?_
  refine z_here h37 h36 hr hn ht (fun r' q1 q2 q3 q4 => ?_)
  change K _ _ (_ :: _) _
  have hr' : rn s t r' = some S := by
    have := rn_blank hrn (r' - r) (fun j h1 h2 => q3 j h1 (by omega))
    rw [show r + (r' - r) = r' by omega] at this
    exact this
  obtain ⟨⟨T, hP⟩, hDr⟩ := rn_ok hs r' S hr'
  obtain ⟨p1, p2, p3, p4, p5, p6, p7, p8⟩ := hP
  have hP : PI2 s S T := ⟨p1, p2, p3, p4, p5, p6, p7, p8⟩
  obtain ⟨m1, m2, m3, m4, m5⟩ := hM
  have e39 : (cw_up υ 146 37 (nI r')) 146 39 = nI S.1 := by rw [up_eq, upd_ne (by decide)]; exact m1
  have eS1 : (cw_up υ 146 37 (nI r')) 146 1 = nI s := by rw [up_eq, upd_ne (by decide)]; exact hS1
  have e37 : (cw_up υ 146 37 (nI r')) 146 37 = nI r' := by rw [up_eq, upd_eq]
  have fr2 : FRm true υ (cw_up (cw_up υ 146 37 (nI r')) 146 40 (nI r')) := (fr_up (by decide)).trans (fr_up (by decide))
  have pre : ∀ c : Int32, (wt S → K 33 [some (.ref 146), some (.int 1), some (.int c), some (.int 1), none, none] [] (cw_B (cw_up υ 146 37 (nI r')) lam)) → (¬ wt S → K 33 [some (.ref 146), some (.int 1), some (.int c), some (.int 0), none, none] [] (cw_B (cw_up υ 146 37 (nI r')) lam)) → K 4 [some (.ref 146), some (.int 1), none, none, none, none] [.int c] (cw_B (cw_up υ 146 37 (nI r')) lam) := by
    intro c g1 g0
    by_cases hd0 : S.1 = 0
    · have hw : wt S := Or.inl (by rw [hd0]; exact hf0)
      refine st_go hK rfl rfl ?_
      change K _ [some (.ref 146), some (.int (1 : Int32)), some (.int c), _, _, _] _ _
      refine st_go hK rfl rfl ?_
      refine gi (v := nI S.1) hK rfl qf_146_39 e39 ?_
      refine st_ifn hK rfl rfl (nI_eq (a := S.1) (b := 0) (by omega) (by omega)) (fun _ => ?_) (fun c => absurd hd0 c)
      refine st_go hK rfl rfl ?_
      refine st_go hK rfl rfl ?_
      refine st_go hK rfl rfl ?_
      change K _ [some (.ref 146), some (.int (1 : Int32)), some (.int c), some (.int (1 : Int32)), _, _] _ _
      exact g1 hw
    · have est : (cw_up υ 146 37 (nI r')) 173 (S.1 - 1) = stg S S.1 := by
        rw [up_ne (by decide), m2 (S.1 - 1) (by omega), show S.1 - 1 + 1 = S.1 by omega]
      rcases Classical.em (wt S) with hw | hw
      · have hst := stg_lt hw (by omega)
        refine st_go hK rfl rfl ?_
        change K _ [some (.ref 146), some (.int (1 : Int32)), some (.int c), _, _, _] _ _
        refine st_go hK rfl rfl ?_
        refine gi (v := nI S.1) hK rfl qf_146_39 e39 ?_
        refine st_ifn hK rfl rfl (nI_eq (a := S.1) (b := 0) (by omega) (by omega)) (fun c => absurd c hd0) (fun _ => ?_)
        refine st_go hK rfl rfl ?_
        refine st_getr hK rfl qf_146_43 ?_
        refine st_go hK rfl rfl ?_
        refine gi (v := nI S.1) hK rfl qf_146_39 e39 ?_
        refine st_go hK rfl rfl ?_
        refine bnv (v := nI (S.1 - 1)) hK rfl (nI_sub (a := S.1) (b := 1) (by omega)) ?_
        refine ga (e := S.1 - 1) (v := stg S S.1) hK rfl qa_173 rfl (by omega) rfl est ?_
        refine st_go hK rfl rfl ?_
        refine st_if hK rfl rfl (fun c => absurd c hst) (fun _ => ?_)
        refine st_go hK rfl rfl ?_
        refine st_go hK rfl rfl ?_
        refine st_go hK rfl rfl ?_
        change K _ [some (.ref 146), some (.int (1 : Int32)), some (.int c), some (.int (1 : Int32)), _, _] _ _
        exact g1 hw
      · have hst : (2 : Int32) ≤ stg S S.1 := by rw [stg_ge hw (by omega)]; decide
        refine st_go hK rfl rfl ?_
        change K _ [some (.ref 146), some (.int (1 : Int32)), some (.int c), _, _, _] _ _
        refine st_go hK rfl rfl ?_
        refine gi (v := nI S.1) hK rfl qf_146_39 e39 ?_
        refine st_ifn hK rfl rfl (nI_eq (a := S.1) (b := 0) (by omega) (by omega)) (fun c => absurd c hd0) (fun _ => ?_)
        refine st_go hK rfl rfl ?_
        refine st_getr hK rfl qf_146_43 ?_
        refine st_go hK rfl rfl ?_
        refine gi (v := nI S.1) hK rfl qf_146_39 e39 ?_
        refine st_go hK rfl rfl ?_
        refine bnv (v := nI (S.1 - 1)) hK rfl (nI_sub (a := S.1) (b := 1) (by omega)) ?_
        refine ga (e := S.1 - 1) (v := stg S S.1) hK rfl qa_173 rfl (by omega) rfl est ?_
        refine st_go hK rfl rfl ?_
        refine st_if hK rfl rfl (fun _ => ?_) (fun c => absurd hst c)
        refine st_go hK rfl rfl ?_
        refine st_go hK rfl rfl ?_
        change K _ [some (.ref 146), some (.int (1 : Int32)), some (.int c), some (.int (0 : Int32)), _, _] _ _
        exact g0 hw
  have bad : ∀ {i : Nat}, FA s t n i → i = r' → Q (some (.int 0)) (cw_B (cw_up (cw_up υ 146 37 (nI r')) 146 40 (nI r')) lam) := fun hFA e => k0 _ _ hFA fr2 (by rw [e, up_eq, upd_eq])
  by_cases hlt : r' < n
  · rw [if_pos hlt]
    have hb32 := q4 hlt
    have hb127 := (ht r' hlt).2
    obtain ⟨b, eb⟩ : ∃ b, b = t r' := ⟨_, rfl⟩
    rw [← eb] at hb32 hb127 ⊢
    have ok1 : ∀ S', stP s b S = some S' → rn s t (r' + 1) = some S' := fun S' e => by
      show (rn s t r').bind (stP s (t r')) = some S'
      rw [hr', ← eb]
      exact e
    have no1 : stP s b S = none → FA s t n r' := fun e => Or.inl ⟨hlt, S, hr', by rw [← eb]; exact e⟩
    have hsp : stP s b S = if b = 32 then some S
        else if b = 40 then pif (wt S) (some (S.1 + 1, upd S.2.1 (S.1 + 1) (-1), upd S.2.2.1 (S.1 + 1) (-1), S.2.2.2)) none
        else if b = 41 then pif (0 < S.1 ∧ S.2.2.1 S.1 ≠ -1) (some (ad (nI (8 + S.2.2.2.2.length)) (S.1 - 1, S.2.1, S.2.2.1, S.2.2.2.1, S.2.2.2.2 ++ [((S.2.1 S.1).toNatClampNeg, (S.2.2.1 S.1).toNatClampNeg)]))) none
        else pif (wt S ∧ 48 ≤ b ∧ b - 48 < s ∧ bitN S.2.2.2.1 (b - 48) = 0) (some (ad (nI (b - 48)) (S.1, S.2.1, S.2.2.1, S.2.2.2.1 + 2 ^ (b - 48), S.2.2.2.2))) none := rfl
    rw [if_neg hb32] at hsp
    refine pre (nI b) (fun hw => ?_) (fun hw => ?_)
    · by_cases b40 : b = 40
      · rw [if_pos b40, pif_p hw] at hsp
        have hrs := ok1 _ hsp
        refine st_go hK rfl rfl ?_
        refine st_go hK rfl rfl ?_
        refine gi (v := nI r') hK rfl qf_146_37 e37 ?_
        refine st_put hK rfl qf_146_40 rfl ?_
        refine st_go hK rfl rfl ?_
        refine st_go hK rfl rfl ?_
        refine st_ifn hK rfl rfl (not_congr (nI_eq (a := b) (b := 40) (by omega) (by omega))) (fun c => absurd c (fun z => z b40)) (fun _ => ?_)
        refine st_go hK rfl rfl ?_
        refine st_if hK rfl rfl (fun c => absurd c (by decide)) (fun _ => ?_)
        refine st_go hK rfl rfl ?_
        refine st_getr hK rfl qf_146_43 ?_
        refine st_go hK rfl rfl ?_
        refine gi (v := nI S.1) hK rfl qf_146_39 (by rw [up_eq, upd_ne (by decide), e39]) ?_
        refine st_go hK rfl rfl ?_
        refine sa (e := S.1) hK rfl qa_173 rfl (by omega) rfl ?_
        refine st_go hK rfl rfl ?_
        refine st_go hK rfl rfl ?_
        refine gi (v := nI S.1) hK rfl qf_146_39 (by rw [up_ne (by decide), up_eq, upd_ne (by decide), e39]) ?_
        refine st_go hK rfl rfl ?_
        refine bnv hK rfl (show _ = nI (S.1 + 1) from nI_add S.1 1) ?_
        refine st_put hK rfl qf_146_39 rfl ?_
        refine st_go hK rfl rfl ?_
        refine st_go hK rfl rfl ?_
        refine st_go hK rfl rfl ?_
        refine gi (v := nI r') hK rfl qf_146_37 (by rw [up_eq, upd_ne (by decide), up_ne (by decide), up_eq, upd_ne (by decide), e37]) ?_
        refine st_go hK rfl rfl ?_
        refine bnv hK rfl (show _ = nI (r' + 1) from nI_add r' 1) ?_
        refine st_put hK rfl qf_146_37 rfl ?_
        refine st_go hK rfl rfl ?_
        refine st_zret hK rfl (Or.inr rfl) ?_
        refine k1 r' _ _ q1 hlt hrs ⟨⟨fun p hp => ?_, fun k hk => ?_⟩, fun _ p h1 h2 => ?_⟩ ?_ ⟨?_, fun d hd => ?_, fun k hk => ?_, ?_, fun e => ⟨fun d hd => ?_, ?_⟩⟩
        · simp only [up_ne (show p ≠ 146 by omega), up_ne (show p ≠ 173 by omega)]
        · rw [up_eq, upd_ne (by omega), up_eq, upd_ne (by omega), up_ne (by decide), up_eq, upd_ne (by omega), up_eq, upd_ne (by omega)]
        · simp only [up_ne (show p ≠ 146 by omega), up_ne (show p ≠ 173 by omega)]
        · rw [up_eq, upd_eq]
        · simp [cw_up, upd]
        · have hd' : d < S.1 + 1 := hd
          have e173 : ∀ x y z w : Int32, cw_up (cw_up (cw_up (cw_up (cw_up υ 146 37 x) 146 40 y) 173 S.1 0) 146 39 z) 146 37 w 173 d = upd (υ 173) S.1 0 d := fun x y z w => by simp [cw_up]
          rw [e173]
          unfold stg
          show _ = if upd S.2.1 (S.1 + 1) (-1) (d + 1) = -1 then (0 : Int32) else if upd S.2.2.1 (S.1 + 1) (-1) (d + 1) = -1 then 1 else 2
          by_cases z : d = S.1
          · rw [z, upd_eq, upd_eq, if_pos rfl]
          · rw [upd_ne z, upd_ne (by omega), upd_ne (by omega)]
            exact m2 d (by omega)
        · have : ∀ x y z w : Int32, cw_up (cw_up (cw_up (cw_up (cw_up υ 146 37 x) 146 40 y) 173 S.1 0) 146 39 z) 146 37 w 172 k = υ 172 k := fun x y z w => by simp [cw_up]
          rw [this]
          exact m3 k hk
        · have : ∀ x y z w : Int32, cw_up (cw_up (cw_up (cw_up (cw_up υ 146 37 x) 146 40 y) 173 S.1 0) 146 39 z) 146 37 w 146 42 = υ 146 42 := fun x y z w => by simp [cw_up, upd]
          rw [this]
          show _ ↔ upd S.2.1 (S.1 + 1) (-1) 0 = -1
          rw [upd_ne (by omega)]
          exact m4
        · have hd' : d < S.1 + 1 := hd
          have t1 : ∀ x y z w : Int32, cw_up (cw_up (cw_up (cw_up (cw_up υ 146 37 x) 146 40 y) 173 S.1 0) 146 39 z) 146 37 w 171 d = υ 171 d := fun x y z w => by simp [cw_up]
          have t2 : ∀ x y z w : Int32, cw_up (cw_up (cw_up (cw_up (cw_up υ 146 37 x) 146 40 y) 173 S.1 0) 146 39 z) 146 37 w 174 d = υ 174 d := fun x y z w => by simp [cw_up]
          rw [t1, t2]
          show (upd S.2.1 (S.1 + 1) (-1) (d + 1) ≠ -1 → υ 171 d = upd S.2.1 (S.1 + 1) (-1) (d + 1)) ∧ (upd S.2.2.1 (S.1 + 1) (-1) (d + 1) ≠ -1 → υ 174 d = upd S.2.2.1 (S.1 + 1) (-1) (d + 1))
          by_cases z : d = S.1
          · rw [z, upd_eq, upd_eq]
            exact ⟨fun q => absurd rfl q, fun q => absurd rfl q⟩
          · rw [upd_ne (by omega), upd_ne (by omega)]
            exact (m5 e).1 d (by omega)
        · exact mst_tree (m5 e).2 (fun k hk => by rw [up_eq, upd_ne (by omega), up_eq, upd_ne (by omega), up_ne (by decide), up_eq, upd_ne (by omega), up_eq, upd_ne (by omega)]) (fun p h1 h2 => by simp only [up_ne (show p ≠ 146 by omega), up_ne (show p ≠ 173 by omega)])
      · rw [if_neg b40] at hsp
        by_cases hk : 48 ≤ b ∧ b - 48 < s
        · obtain ⟨k, rfl⟩ : ∃ k, b = 48 + k := ⟨b - 48, by omega⟩
          rw [if_neg (by omega), Nat.add_sub_cancel_left] at hsp
          have hks : k < s := by have := hk.2; rw [Nat.add_sub_cancel_left] at this; exact this
          have hin : (0 : Int32) ≤ nI k ∧ nI k ≤ nI s - 1 := (nI_up hs).mpr ⟨k, hks, rfl⟩
          have etk : (cw_up (cw_up υ 146 37 (nI r')) 146 40 (nI r')) 172 k = nI (bitN S.2.2.2.1 k) := by rw [up_ne (by decide), up_ne (by decide)]; exact m3 k (by omega)
          rcases bit_01 (M := S.2.2.2.1) (k := k) with hbit | hbit
          · rw [pif_p ⟨hw, by omega, hks, hbit⟩] at hsp
            have hrs := ok1 _ hsp
            obtain ⟨bm1, bm2⟩ := bit_add _ p8 k (by omega) hbit
            have etk0 : (cw_up υ 146 37 (nI r')) 172 k = (0 : Int32) := by rw [up_ne (by decide), m3 k (by omega), hbit]; rfl
            refine st_go hK rfl rfl ?_
            refine st_go hK rfl rfl ?_
            refine gi (v := nI r') hK rfl qf_146_37 e37 ?_
            refine st_put hK rfl qf_146_40 rfl ?_
            refine st_go hK rfl rfl ?_
            refine st_go hK rfl rfl ?_
            refine st_ifn hK rfl rfl (not_congr (nI_eq (a := 48 + k) (b := 40) (by omega) (by omega))) (fun _ => ?_) (fun c => absurd b40 c)
            refine st_go hK rfl rfl ?_
            refine st_if hK rfl rfl (fun c => absurd c (by decide)) (fun _ => ?_)
            refine st_go hK rfl rfl ?_
            refine st_go hK rfl rfl ?_
            refine bnv (v := nI k) hK rfl ((nI_sub (a := 48 + k) (b := 48) (by omega)).trans (congrArg nI (by omega))) ?_
            refine st_go hK rfl rfl ?_
            refine st_go hK rfl rfl ?_
            refine gi (v := nI s) hK rfl qf_146_1 (by rw [up_eq, upd_ne (by decide), eS1]) ?_
            refine st_go hK rfl rfl ?_
            refine st_bin hK rfl ?_
            refine cs3 hK rfl (Nat.le_of_ble_eq_true rfl) ?_
            refine z_min (fun _ => ?_) (fun c => absurd hin c)
            change K _ _ (_ :: _) _
            refine st_if hK rfl rfl (fun c => absurd c (by decide)) (fun _ => ?_)
            refine st_go hK rfl rfl ?_
            refine st_getr hK rfl qf_146_41 ?_
            refine st_go hK rfl rfl ?_
            refine st_go hK rfl rfl ?_
            refine bnv (v := nI k) hK rfl ((nI_sub (a := 48 + k) (b := 48) (by omega)).trans (congrArg nI (by omega))) ?_
            refine ga (e := k) (v := (0 : Int32)) hK rfl qa_172 rfl (by omega) rfl (by rw [up_ne (by decide), etk0]) ?_
            refine st_if hK rfl rfl (fun c => absurd c (by decide)) (fun _ => ?_)
            refine st_go hK rfl rfl ?_
            refine st_getr hK rfl qf_146_41 ?_
            refine st_go hK rfl rfl ?_
            refine st_go hK rfl rfl ?_
            refine bnv (v := nI k) hK rfl ((nI_sub (a := 48 + k) (b := 48) (by omega)).trans (congrArg nI (by omega))) ?_
            refine st_go hK rfl rfl ?_
            refine sa (e := k) hK rfl qa_172 rfl (by omega) rfl ?_
            refine st_go hK rfl rfl ?_
            refine st_go hK rfl rfl ?_
            refine st_go hK rfl rfl ?_
            refine bnv (v := nI k) hK rfl ((nI_sub (a := 48 + k) (b := 48) (by omega)).trans (congrArg nI (by omega))) ?_
            refine cv1 hK rfl qc_146 (Nat.le_of_ble_eq_true rfl) ?_
            have hMk : MSt true σ (cw_up (cw_up (cw_up υ 146 37 (nI r')) 146 40 (nI r')) 172 k (1 : Int32)) s (S.1, S.2.1, S.2.2.1, S.2.2.2.1 + 2 ^ k, S.2.2.2.2) := by
              refine ⟨by simp only [up_ne (show (146 : Nat) ≠ 172 by decide), up_eq, upd_ne (show (39 : Nat) ≠ 40 by decide), upd_ne (show (39 : Nat) ≠ 37 by decide)]; exact m1, fun d hd => ?_, fun q hq => ?_, by simp only [up_ne (show (146 : Nat) ≠ 172 by decide), up_eq, upd_ne (show (42 : Nat) ≠ 40 by decide), upd_ne (show (42 : Nat) ≠ 37 by decide)]; exact m4, fun e => ⟨fun d hd => ?_, ?_⟩⟩
              · rw [up_ne (by decide), up_ne (by decide), up_ne (by decide)]
                exact m2 d hd
              · rw [up_eq, up_ne (by decide), up_ne (by decide)]
                show _ = nI (bitN (S.2.2.2.1 + 2 ^ k) q)
                rw [bm2 q hq]
                by_cases z : q = k
                · rw [z, upd_eq, if_pos rfl]; rfl
                · rw [upd_ne z, if_neg z]; exact m3 q hq
              · rw [up_ne (by decide), up_ne (by decide), up_ne (by decide), up_ne (by decide), up_ne (by decide), up_ne (by decide)]
                exact (m5 e).1 d hd
              · exact mst_tree (m5 e).2 (fun k hk => by rw [up_ne (by decide), up_eq, upd_ne (by omega), up_eq, upd_ne (by omega)]) (fun p h1 h2 => by rw [up_ne (by omega), up_ne (by omega), up_ne (by omega)])
            have frk : FRm true υ (cw_up (cw_up (cw_up υ 146 37 (nI r')) 146 40 (nI r')) 172 k (1 : Int32)) := fr2.trans (fr_row (by decide))
            refine z_tells (v' := nI k) hMk hw (by show S.1 ≤ 60; omega) (p4 S.1 (Nat.le_refl _)) (nI_ne1 (by omega)) (nI_ne1 (by omega)) (fun _ => rfl) (fun υ2 hF2 h237 hM2 => ?_)
            have h2r : υ2 146 37 = nI r' := by rw [h237, up_ne (by decide), up_eq, upd_ne (by decide), up_eq, upd_eq]
            change K _ _ _ _
            refine st_go hK rfl rfl ?_
            refine st_go hK rfl rfl ?_
            refine st_go hK rfl rfl ?_
            refine gi (v := nI r') hK rfl qf_146_37 h2r ?_
            refine st_go hK rfl rfl ?_
            refine bnv hK rfl (show _ = nI (r' + 1) from nI_add r' 1) ?_
            refine st_put hK rfl qf_146_37 rfl ?_
            refine st_go hK rfl rfl ?_
            refine st_zret hK rfl (Or.inr rfl) ?_
            have hM3 : MSt true σ (cw_up υ2 146 37 (nI (r' + 1))) s (ad (nI k) (S.1, S.2.1, S.2.2.1, S.2.2.2.1 + 2 ^ k, S.2.2.2.2)) := by
              obtain ⟨n1, n2, n3, n4, n5⟩ := hM2
              refine ⟨by rw [up_eq, upd_ne (by decide)]; exact n1, fun d hd => by rw [up_ne (by decide)]; exact n2 d hd, fun q hq => by rw [up_ne (by decide)]; exact n3 q hq, by rw [up_eq, upd_ne (by decide)]; exact n4, fun e => ⟨fun d hd => by rw [up_ne (by decide), up_ne (by decide)]; exact (n5 e).1 d hd, ?_⟩⟩
              exact mst_tree (n5 e).2 (fun k hk => by rw [up_eq, upd_ne (by omega)]) (fun p h1 h2 => up_ne (by omega))
            exact k1 r' _ _ q1 hlt hrs ((frk.trans hF2).trans (fr_up (by decide))) (by rw [up_eq, upd_eq]) hM3
          · rw [pif_n (fun z => by omega)] at hsp
            rw [hbit] at etk
            have etk1 : (cw_up υ 146 37 (nI r')) 172 k = (1 : Int32) := by rw [up_ne (by decide), m3 k (by omega), hbit]; rfl
            refine st_go hK rfl rfl ?_
            refine st_go hK rfl rfl ?_
            refine gi (v := nI r') hK rfl qf_146_37 e37 ?_
            refine st_put hK rfl qf_146_40 rfl ?_
            refine st_go hK rfl rfl ?_
            refine st_go hK rfl rfl ?_
            refine st_ifn hK rfl rfl (not_congr (nI_eq (a := 48 + k) (b := 40) (by omega) (by omega))) (fun _ => ?_) (fun c => absurd b40 c)
            refine st_go hK rfl rfl ?_
            refine st_if hK rfl rfl (fun c => absurd c (by decide)) (fun _ => ?_)
            refine st_go hK rfl rfl ?_
            refine st_go hK rfl rfl ?_
            refine bnv (v := nI k) hK rfl ((nI_sub (a := 48 + k) (b := 48) (by omega)).trans (congrArg nI (by omega))) ?_
            refine st_go hK rfl rfl ?_
            refine st_go hK rfl rfl ?_
            refine gi (v := nI s) hK rfl qf_146_1 (by rw [up_eq, upd_ne (by decide), eS1]) ?_
            refine st_go hK rfl rfl ?_
            refine st_bin hK rfl ?_
            refine cs3 hK rfl (Nat.le_of_ble_eq_true rfl) ?_
            refine z_min (fun _ => ?_) (fun c => absurd hin c)
            change K _ _ (_ :: _) _
            refine st_if hK rfl rfl (fun c => absurd c (by decide)) (fun _ => ?_)
            refine st_go hK rfl rfl ?_
            refine st_getr hK rfl qf_146_41 ?_
            refine st_go hK rfl rfl ?_
            refine st_go hK rfl rfl ?_
            refine bnv (v := nI k) hK rfl ((nI_sub (a := 48 + k) (b := 48) (by omega)).trans (congrArg nI (by omega))) ?_
            refine ga (e := k) (v := (1 : Int32)) hK rfl qa_172 rfl (by omega) rfl (by rw [up_ne (by decide), etk1]) ?_
            refine st_if hK rfl rfl (fun _ => ?_) (fun c => absurd (by decide) c)
            refine st_go hK rfl rfl ?_
            refine st_go hK rfl rfl ?_
            refine st_ifn hK rfl rfl (not_congr (nI_eq (a := 48 + k) (b := 41) (by omega) (by omega))) (fun _ => ?_) (fun c => absurd (by omega) c)
            refine st_go hK rfl rfl ?_
            refine st_zret hK rfl (Or.inl rfl) ?_
            exact bad (no1 hsp) rfl
        · have hin : ¬ ((0 : Int32) ≤ nI b - 48 ∧ nI b - 48 ≤ nI s - 1) := fun z => by
            obtain ⟨k, k1, k2⟩ := (nI_up hs).mp z
            have : nI b = nI (48 + k) := by
              rw [← nI_add, show nI 48 = (48 : Int32) from rfl, ← k2, Int32.add_comm, Int32.sub_add_cancel]
            have := nI_inj (by omega) (by omega) this
            omega
          by_cases b41 : b = 41
          · rw [if_pos b41, pif_n (fun z => by
              rcases hw with q | q
              · exact p4 S.1 (Nat.le_refl _) z.2 q
              · exact z.2 q.2)] at hsp
            refine st_go hK rfl rfl ?_
            refine st_go hK rfl rfl ?_
            refine gi (v := nI r') hK rfl qf_146_37 e37 ?_
            refine st_put hK rfl qf_146_40 rfl ?_
            refine st_go hK rfl rfl ?_
            refine st_go hK rfl rfl ?_
            refine st_ifn hK rfl rfl (not_congr (nI_eq (a := b) (b := 40) (by omega) (by omega))) (fun _ => ?_) (fun c => absurd b40 c)
            refine st_go hK rfl rfl ?_
            refine st_if hK rfl rfl (fun c => absurd c (by decide)) (fun _ => ?_)
            refine st_go hK rfl rfl ?_
            refine st_go hK rfl rfl ?_
            refine bnv (v := (nI b - 48)) hK rfl rfl ?_
            refine st_go hK rfl rfl ?_
            refine st_go hK rfl rfl ?_
            refine gi (v := nI s) hK rfl qf_146_1 (by rw [up_eq, upd_ne (by decide), eS1]) ?_
            refine st_go hK rfl rfl ?_
            refine st_bin hK rfl ?_
            refine cs3 hK rfl (Nat.le_of_ble_eq_true rfl) ?_
            refine z_min (fun c => absurd c hin) (fun _ => ?_)
            change K _ _ (_ :: _) _
            refine st_if hK rfl rfl (fun _ => ?_) (fun c => absurd (by decide) c)
            refine st_go hK rfl rfl ?_
            refine st_go hK rfl rfl ?_
            refine st_ifn hK rfl rfl (not_congr (nI_eq (a := b) (b := 41) (by omega) (by omega))) (fun c => absurd c (fun z => z b41)) (fun _ => ?_)
            refine st_go hK rfl rfl ?_
            refine st_if hK rfl rfl (fun _ => ?_) (fun c => absurd (by decide) c)
            refine st_go hK rfl rfl ?_
            refine st_zret hK rfl (Or.inl rfl) ?_
            exact bad (no1 hsp) rfl
          · rw [if_neg b41, pif_n (fun z => hk ⟨z.2.1, z.2.2.1⟩)] at hsp
            refine st_go hK rfl rfl ?_
            refine st_go hK rfl rfl ?_
            refine gi (v := nI r') hK rfl qf_146_37 e37 ?_
            refine st_put hK rfl qf_146_40 rfl ?_
            refine st_go hK rfl rfl ?_
            refine st_go hK rfl rfl ?_
            refine st_ifn hK rfl rfl (not_congr (nI_eq (a := b) (b := 40) (by omega) (by omega))) (fun _ => ?_) (fun c => absurd b40 c)
            refine st_go hK rfl rfl ?_
            refine st_if hK rfl rfl (fun c => absurd c (by decide)) (fun _ => ?_)
            refine st_go hK rfl rfl ?_
            refine st_go hK rfl rfl ?_
            refine bnv (v := (nI b - 48)) hK rfl rfl ?_
            refine st_go hK rfl rfl ?_
            refine st_go hK rfl rfl ?_
            refine gi (v := nI s) hK rfl qf_146_1 (by rw [up_eq, upd_ne (by decide), eS1]) ?_
            refine st_go hK rfl rfl ?_
            refine st_bin hK rfl ?_
            refine cs3 hK rfl (Nat.le_of_ble_eq_true rfl) ?_
            refine z_min (fun c => absurd c hin) (fun _ => ?_)
            change K _ _ (_ :: _) _
            refine st_if hK rfl rfl (fun _ => ?_) (fun c => absurd (by decide) c)
            refine st_go hK rfl rfl ?_
            refine st_go hK rfl rfl ?_
            refine st_ifn hK rfl rfl (not_congr (nI_eq (a := b) (b := 41) (by omega) (by omega))) (fun _ => ?_) (fun c => absurd b41 c)
            refine st_go hK rfl rfl ?_
            refine st_zret hK rfl (Or.inl rfl) ?_
            exact bad (no1 hsp) rfl
    · have hd : 0 < S.1 := by
        rcases Nat.eq_zero_or_pos S.1 with z | z
        · exact absurd (Or.inl (by rw [z]; exact hf0)) hw
        · exact z
      have hfn : S.2.1 S.1 ≠ -1 := fun z => hw (Or.inl z)
      have hgn : S.2.2.1 S.1 ≠ -1 := fun z => hw (Or.inr ⟨hd, z⟩)
      by_cases b41 : b = 41
      · rw [if_neg (by omega), if_pos b41, pif_p ⟨hd, hgn⟩] at hsp
        have hrs := ok1 _ hsp
        obtain ⟨a, ea, a15, -⟩ := (p2 S.1 false (Nat.le_refl _)).resolve_left hfn
        obtain ⟨b', eb', b15, -⟩ := (p2 S.1 true (Nat.le_refl _)).resolve_left hgn
        have ea1 : S.2.1 S.1 = nI a := ea
        have eb1 : S.2.2.1 S.1 = nI b' := eb'
        rw [ea1, eb1, nI_clamp (show a < 2 ^ 31 by omega), nI_clamp (show b' < 2 ^ 31 by omega)] at hsp hrs
        obtain ⟨⟨T', hP'⟩, -⟩ := hP.step hs hsp
        have hokc : okC s (S.2.2.2.2 ++ [(a, b')]) T0 0 := by
          have := hP'.1.2.1
          rw [adp_1.2] at this
          exact this
        have hokp := okC_last S.2.2.2.2 T0 0 hokc
        rw [Nat.zero_add] at hokp
        have hwt2 : wt (S.1 - 1, S.2.1, S.2.2.1, S.2.2.2.1, S.2.2.2.2 ++ [(a, b')]) := p6 (S.1 - 1) (by omega)
        have hj15 := hokp.2.2.2.2.2.1.2
        have MS1 : ∀ υ1, υ1 146 39 = nI (S.1 - 1) → (∀ p, 171 ≤ p → p ≤ 174 → υ1 p = υ p) → υ1 146 42 = υ 146 42 → (true = true → MW υ1 s ∧ TE (mv υ1) 1 (vT σ (tj (S.2.2.2.2 ++ [(a, b')]) T0 0)) 1) → MSt true σ υ1 s (S.1 - 1, S.2.1, S.2.2.1, S.2.2.2.1, S.2.2.2.2 ++ [(a, b')]) := fun υ1 u1 u2 u3 u4 => by
          refine ⟨u1, fun d hd' => ?_, fun k hk => by rw [u2 172 (by decide) (by decide)]; exact m3 k hk, by rw [u3]; exact m4, fun e => ⟨fun d hd' => ?_, u4 e⟩⟩
          · have hd2 : d < S.1 - 1 := hd'
            rw [u2 173 (by decide) (by decide)]
            exact m2 d (by omega)
          · have hd2 : d < S.1 - 1 := hd'
            rw [u2 171 (by decide) (by decide), u2 174 (by decide) (by decide)]
            exact (m5 e).1 d (by omega)
        have e171 : (cw_up υ 146 37 (nI r')) 171 (S.1 - 1) = nI a := by
          rw [up_ne (by decide), ((m5 rfl).1 (S.1 - 1) (by omega)).1 (by rw [show S.1 - 1 + 1 = S.1 by omega]; exact hfn), show S.1 - 1 + 1 = S.1 by omega]
          exact ea1
        have e174 : (cw_up υ 146 37 (nI r')) 174 (S.1 - 1) = nI b' := by
          rw [up_ne (by decide), ((m5 rfl).1 (S.1 - 1) (by omega)).2 (by rw [show S.1 - 1 + 1 = S.1 by omega]; exact hgn), show S.1 - 1 + 1 = S.1 by omega]
          exact eb1
        refine st_go hK rfl rfl ?_
        refine st_go hK rfl rfl ?_
        refine gi (v := nI r') hK rfl qf_146_37 e37 ?_
        refine st_put hK rfl qf_146_40 rfl ?_
        refine st_go hK rfl rfl ?_
        refine st_go hK rfl rfl ?_
        refine st_ifn hK rfl rfl (not_congr (nI_eq (a := b) (b := 40) (by omega) (by omega))) (fun _ => ?_) (fun c => absurd (by omega) c)
        refine st_go hK rfl rfl ?_
        refine st_if hK rfl rfl (fun _ => ?_) (fun c => absurd (by decide) c)
        refine st_go hK rfl rfl ?_
        refine st_go hK rfl rfl ?_
        refine st_ifn hK rfl rfl (not_congr (nI_eq (a := b) (b := 41) (by omega) (by omega))) (fun c => absurd c (fun z => z b41)) (fun _ => ?_)
        refine st_go hK rfl rfl ?_
        refine st_if hK rfl rfl (fun c => absurd c (by decide)) (fun _ => ?_)
        refine st_go hK rfl rfl ?_
        refine st_go hK rfl rfl ?_
        refine gi (v := nI S.1) hK rfl qf_146_39 (by rw [up_eq, upd_ne (by decide), e39]) ?_
        refine st_go hK rfl rfl ?_
        refine bnv (v := nI (S.1 - 1)) hK rfl (nI_sub (a := S.1) (b := 1) (by omega)) ?_
        refine st_put hK rfl qf_146_39 rfl ?_
        refine st_go hK rfl rfl ?_
        refine st_getr hK rfl qf_146_38 ?_
        refine st_go hK rfl rfl ?_
        refine gi (v := nI (S.1 - 1)) hK rfl qf_146_39 (by rw [up_eq, upd_eq]) ?_
        refine ga (e := S.1 - 1) (v := nI a) hK rfl qa_171 rfl (by omega) rfl (by rw [up_ne (by decide), up_ne (by decide), e171]) ?_
        refine st_go hK rfl rfl ?_
        change K _ [some (.ref 146), some (.int (1 : Int32)), some (.int (nI b)), some (.int (0 : Int32)), some (.int (nI a)), _] _ _
        refine st_go hK rfl rfl ?_
        refine st_getr hK rfl qf_146_44 ?_
        refine st_go hK rfl rfl ?_
        refine gi (v := nI (S.1 - 1)) hK rfl qf_146_39 (by rw [up_eq, upd_eq]) ?_
        refine ga (e := S.1 - 1) (v := nI b') hK rfl qa_174 rfl (by omega) rfl (by rw [up_ne (by decide), up_ne (by decide), e174]) ?_
        refine st_go hK rfl rfl ?_
        change K _ [some (.ref 146), some (.int (1 : Int32)), some (.int (nI b)), some (.int (0 : Int32)), some (.int (nI a)), some (.int (nI b'))] _ _
        refine st_go hK rfl rfl ?_
        refine st_go hK rfl rfl ?_
        refine st_if hK rfl rfl (fun c => absurd c (by decide)) (fun _ => ?_)
        refine st_go hK rfl rfl ?_
        refine st_go hK rfl rfl ?_
        refine st_go hK rfl rfl ?_
        refine cv2 hK rfl qc_146 (Nat.le_of_ble_eq_true rfl) ?_
        have tr3 := mst_tree (υ' := (cw_up (cw_up (cw_up υ 146 37 (nI r')) 146 40 (nI r')) 146 39 (nI (S.1 - 1)))) (m5 rfl).2 (fun k hk => by rw [up_eq, upd_ne (by omega), up_eq, upd_ne (by omega), up_eq, upd_ne (by omega)]) (fun p h1 h2 => by rw [up_ne (by omega), up_ne (by omega), up_ne (by omega)])
        obtain ⟨mw3, te3⟩ := tr3
        obtain ⟨w1, w2, w3⟩ : (∀ x, x < 15 → (cw_up (cw_up (cw_up υ 146 37 (nI r')) 146 40 (nI r')) 146 39 (nI (S.1 - 1))) 151 x = (tj S.2.2.2.2 T0 0).1 x) ∧ (∀ x, x < 15 → (cw_up (cw_up (cw_up υ 146 37 (nI r')) 146 40 (nI r')) 146 39 (nI (S.1 - 1))) 152 x = (tj S.2.2.2.2 T0 0).2.1 x) ∧ (∀ x, x < 15 → (cw_up (cw_up (cw_up υ 146 37 (nI r')) 146 40 (nI r')) 146 39 (nI (S.1 - 1))) 153 x = (tj S.2.2.2.2 T0 0).2.2 x) := ⟨fun x hx => te3.hi (i := 6) (by decide) (by decide) hx, fun x hx => te3.hi (i := 7) (by decide) (by decide) hx, fun x hx => te3.hi (i := 8) (by decide) (by decide) hx⟩
        obtain ⟨na, nb, hab, ta, tb, hjf⟩ := hokp
        obtain ⟨ρ, hρ⟩ := mw3.2.1.2.2.2.2.2
        have na2 : nodeN s ((cw_up (cw_up (cw_up υ 146 37 (nI r')) 146 40 (nI r')) 146 39 (nI (S.1 - 1))) 151) a := (nodeN_congr w1).mpr na
        refine z_lays mw3 (j := 8 + S.2.2.2.2.length) (isF_cg (fun x hx => (w1 x hx).symm) hjf) na2 ((nodeN_congr w1).mpr nb) ((w3 b' b15).trans tb) hρ (fun z => hab ((Inr.top hρ na2 ((w3 a a15).trans ta)).mp z)) (fun υ1 mw4 hMT => ?_)
        have te4 : TE (mv υ1) 1 (vT σ (tj (S.2.2.2.2 ++ [(a, b')]) T0 0)) 1 := by
          rw [tj_app, Nat.zero_add]
          exact te_rows te3 hMT.mr (fun p hp => (vT_lo p hp).trans (vT_lo p hp).symm) (fun x hx => (hMT.2.1 x hx).trans (gL_cg (w1 x hx))) (fun x hx => (hMT.2.2.1 x hx).trans (gR_cg (w2 x hx))) (fun x hx => (hMT.2.2.2 x hx).trans (gP_cg (w3 x hx) (w3 a a15)))
        have hMS := MS1 υ1 (by rw [hMT.1 146 (by decide), up_eq, upd_eq]) (fun p h1 h2 => by rw [hMT.1 p (by omega), up_ne (by omega), up_ne (by omega), up_ne (by omega)]) (by rw [hMT.1 146 (by decide), up_eq, upd_ne (by decide), up_eq, upd_ne (by decide), up_eq, upd_ne (by decide)]) (fun _ => ⟨mw4, te4⟩)
        have fr3 : FRm true υ υ1 := ⟨((fr2.trans (fr_up (by decide))).1).trans hMT.mr, fun z => by cases z⟩
        have e1r : υ1 146 37 = nI r' := by rw [hMT.1 146 (by decide), up_eq, upd_ne (by decide), up_eq, upd_ne (by decide), up_eq, upd_eq]
        change K _ _ (_ :: _) _
        refine st_go hK rfl rfl ?_
        refine cv1 hK rfl qc_146 (Nat.le_of_ble_eq_true rfl) ?_
        refine z_tells (v := nI (8 + S.2.2.2.2.length)) (v' := nI (8 + S.2.2.2.2.length)) hMS hwt2 (by show S.1 - 1 ≤ 60; omega) (p4 (S.1 - 1) (by omega)) (nI_ne1 (by omega)) (nI_ne1 (by omega)) (fun z => rfl) (fun υ2 hF2 h237 hM2 => ?_)
        have h2r : υ2 146 37 = nI r' := h237.trans e1r
        change K _ _ _ _
        refine st_go hK rfl rfl ?_
        refine st_go hK rfl rfl ?_
        refine st_go hK rfl rfl ?_
        refine gi (v := nI r') hK rfl qf_146_37 h2r ?_
        refine st_go hK rfl rfl ?_
        refine bnv hK rfl (show _ = nI (r' + 1) from nI_add r' 1) ?_
        refine st_put hK rfl qf_146_37 rfl ?_
        refine st_go hK rfl rfl ?_
        refine st_zret hK rfl (Or.inr rfl) ?_
        have hM3 : MSt true σ (cw_up υ2 146 37 (nI (r' + 1))) s (ad (nI (8 + S.2.2.2.2.length)) (S.1 - 1, S.2.1, S.2.2.1, S.2.2.2.1, S.2.2.2.2 ++ [(a, b')])) := by
          obtain ⟨n1, n2, n3, n4, n5⟩ := hM2
          refine ⟨by rw [up_eq, upd_ne (by decide)]; exact n1, fun d hd => by rw [up_ne (by decide)]; exact n2 d hd, fun q hq => by rw [up_ne (by decide)]; exact n3 q hq, by rw [up_eq, upd_ne (by decide)]; exact n4, fun e => ⟨fun d hd => by rw [up_ne (by decide), up_ne (by decide)]; exact (n5 e).1 d hd, ?_⟩⟩
          exact mst_tree (n5 e).2 (fun k hk => by rw [up_eq, upd_ne (by omega)]) (fun p h1 h2 => up_ne (by omega))
        exact k1 r' _ _ q1 hlt hrs ((fr3.trans hF2).trans (fr_up (by decide))) (by rw [up_eq, upd_eq]) hM3
      · have hnone : stP s b S = none := by
          rw [hsp, if_neg b41]
          by_cases b40 : b = 40
          · rw [if_pos b40, pif_n hw]
          · rw [if_neg b40, pif_n (fun z => hw z.1)]
        refine st_go hK rfl rfl ?_
        refine st_go hK rfl rfl ?_
        refine gi (v := nI r') hK rfl qf_146_37 e37 ?_
        refine st_put hK rfl qf_146_40 rfl ?_
        refine st_go hK rfl rfl ?_
        refine st_go hK rfl rfl ?_
        refine st_ifn hK rfl rfl (not_congr (nI_eq (a := b) (b := 40) (by omega) (by omega))) (fun c44 => ?_) (fun c44 => ?_)
        · refine st_go hK rfl rfl ?_
          refine st_if hK rfl rfl (fun _ => ?_) (fun c => absurd (by decide) c)
          refine st_go hK rfl rfl ?_
          refine st_go hK rfl rfl ?_
          refine st_ifn hK rfl rfl (not_congr (nI_eq (a := b) (b := 41) (by omega) (by omega))) (fun _ => ?_) (fun c => absurd b41 c)
          refine st_go hK rfl rfl ?_
          refine st_zret hK rfl (Or.inl rfl) ?_
          exact bad (no1 hnone) rfl
        · refine st_go hK rfl rfl ?_
          refine st_if hK rfl rfl (fun _ => ?_) (fun c => absurd (by decide) c)
          refine st_go hK rfl rfl ?_
          refine st_if hK rfl rfl (fun _ => ?_) (fun c => absurd (by decide) c)
          refine st_go hK rfl rfl ?_
          refine st_go hK rfl rfl ?_
          refine st_ifn hK rfl rfl (not_congr (nI_eq (a := b) (b := 41) (by omega) (by omega))) (fun _ => ?_) (fun c => absurd b41 c)
          refine st_go hK rfl rfl ?_
          refine st_zret hK rfl (Or.inl rfl) ?_
          exact bad (no1 hnone) rfl
  · rw [if_neg hlt]
    have hrn2 : r' = n := by omega
    have hFA : FA s t n r' := Or.inr ⟨hrn2, S, by rw [← hrn2]; exact hr', fun z => z.2 hf0⟩
    refine pre (-1) (fun hw => ?_) (fun hw => ?_)
    · skip
      refine st_go hK rfl rfl ?_
      refine st_go hK rfl rfl ?_
      refine gi (v := nI r') hK rfl qf_146_37 e37 ?_
      refine st_put hK rfl qf_146_40 rfl ?_
      refine st_go hK rfl rfl ?_
      refine st_go hK rfl rfl ?_
      refine st_if hK rfl rfl (fun _ => ?_) (fun c => absurd (by decide) c)
      refine st_go hK rfl rfl ?_
      refine st_if hK rfl rfl (fun c => absurd c (by decide)) (fun _ => ?_)
      refine st_go hK rfl rfl ?_
      refine st_go hK rfl rfl ?_
      refine st_bin hK rfl ?_
      refine st_go hK rfl rfl ?_
      refine st_go hK rfl rfl ?_
      refine gi (v := nI s) hK rfl qf_146_1 (by rw [up_eq, upd_ne (by decide), eS1]) ?_
      refine st_go hK rfl rfl ?_
      refine st_bin hK rfl ?_
      refine cs3 hK rfl (Nat.le_of_ble_eq_true rfl) ?_
      refine z_min (fun c => absurd c.1 (by decide)) (fun _ => ?_)
      change K _ _ (_ :: _) _
      refine st_if hK rfl rfl (fun _ => ?_) (fun c => absurd (by decide) c)
      refine st_go hK rfl rfl ?_
      refine st_go hK rfl rfl ?_
      refine st_if hK rfl rfl (fun _ => ?_) (fun c => absurd (by decide) c)
      refine st_go hK rfl rfl ?_
      refine st_zret hK rfl (Or.inl rfl) ?_
      exact bad hFA rfl
    · skip
      refine st_go hK rfl rfl ?_
      refine st_go hK rfl rfl ?_
      refine gi (v := nI r') hK rfl qf_146_37 e37 ?_
      refine st_put hK rfl qf_146_40 rfl ?_
      refine st_go hK rfl rfl ?_
      refine st_go hK rfl rfl ?_
      refine st_if hK rfl rfl (fun _ => ?_) (fun c => absurd (by decide) c)
      refine st_go hK rfl rfl ?_
      refine st_if hK rfl rfl (fun _ => ?_) (fun c => absurd (by decide) c)
      refine st_go hK rfl rfl ?_
      refine st_go hK rfl rfl ?_
      refine st_if hK rfl rfl (fun _ => ?_) (fun c => absurd (by decide) c)
      refine st_go hK rfl rfl ?_
      refine st_zret hK rfl (Or.inl rfl) ?_
      exact bad hFA rfl
end
