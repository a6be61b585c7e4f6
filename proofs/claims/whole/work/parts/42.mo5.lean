/-! THE MODEL'S LABELS -/
/-- what the model has of a node, in the order of a part -/
def mP (σ : cw_V) (n : Nat) : Nat → Int32 := fun k => σ (156 + k) n
def mSk (σ : cw_V) : Int32 := σ 146 3 * 65536
theorem mx_comm {a b : Int32} : mx a b = mx b a := by
  unfold mx
  grind
theorem rk_gap {σ : cw_V} {a b : Nat} : mx 0 (mx (mx (σ 156 a - σ 157 b) (σ 156 b - σ 157 a)) (mx (σ 158 a - σ 159 b) (σ 158 b - σ 159 a))) = gapF (mP σ a) (mP σ b) := by
  unfold gapF
  rw [mx_comm (a := σ 156 a - σ 157 b), mx_comm (a := σ 158 a - σ 159 b)]
  rfl
theorem lead_1 {a b : Nat → Int32} {g sk : Int32} (h : ¬ wantF a b ≤ g) : leadF a b g sk = mx g (b 5 - a 4 - sk) := if_neg h
theorem lead_2 {a b : Nat → Int32} {g sk : Int32} (h : wantF a b ≤ g) (h2 : -g ≤ wantF a b) : leadF a b g sk = wantF a b := (if_pos h).trans (if_pos h2)
theorem lead_3 {a b : Nat → Int32} {g sk : Int32} (h : wantF a b ≤ g) (h2 : ¬ -g ≤ wantF a b) : leadF a b g sk = mn (-g) (sk + b 4 - a 5) := (if_pos h).trans (if_neg h2)
def rkF (σ : cw_V) (a b : Nat) : cw_V := cw_up (cw_up (cw_up (cw_up σ 146 25 (gapF (mP σ a) (mP σ b))) 146 26 (spanF (mP σ a) (mP σ b) (mSk σ))) 146 27 (lwF (mP σ a) (mP σ b) (mSk σ))) 146 28 (rwF (mP σ a) (mP σ b) (mSk σ))
theorem rk_26 {σ : cw_V} {a b : Nat} : rkF σ a b 146 26 = spanF (mP σ a) (mP σ b) (mSk σ) := by
  unfold rkF
  rw [up_eq, upd_ne (by decide), up_eq, upd_ne (by decide), up_eq, upd_eq]
theorem rk_25 {σ : cw_V} {a b : Nat} : rkF σ a b 146 25 = gapF (mP σ a) (mP σ b) := by
  unfold rkF
  rw [up_eq, upd_ne (by decide), up_eq, upd_ne (by decide), up_eq, upd_ne (by decide), up_eq, upd_eq]
theorem rk_27 {σ : cw_V} {a b : Nat} : rkF σ a b 146 27 = lwF (mP σ a) (mP σ b) (mSk σ) := by
  unfold rkF
  rw [up_eq, upd_ne (by decide), up_eq, upd_eq]
theorem rk_28 {σ : cw_V} {a b : Nat} : rkF σ a b 146 28 = rwF (mP σ a) (mP σ b) (mSk σ) := by
  unfold rkF
  rw [up_eq, upd_eq]
theorem rk_k {σ : cw_V} {a b k : Nat} (hk : k < 25 ∨ 28 < k) : rkF σ a b 146 k = σ 146 k := by
  unfold rkF
  rw [up_eq, upd_ne (by omega), up_eq, upd_ne (by omega), up_eq, upd_ne (by omega), up_eq, upd_ne (by omega)]
theorem rk_p {σ : cw_V} {a b p : Nat} (hp : p ≠ 146) : rkF σ a b p = σ p := by
  unfold rkF
  rw [up_ne hp, up_ne hp, up_ne hp, up_ne hp]
section
variable {d s : Nat} {σ : cw_V} {lam : Nat → Int64} {Q : cw_Q}
theorem z_reckons {a b : Nat} (ha : a < 15) (hb : b < 15) (kk : Q none (cw_B (rkF σ a b) lam)) : cw_Z (d + 2) m_Mo_reckons [.ref 146, .int (nI a), .int (nI b)] (cw_B σ lam) Q := by
  refine zi (L := [some (.ref 146), some (.int (nI a)), some (.int (nI b)), none, none, none, none, none, none, none]) rfl rfl (fun K hK => ?_)
  have key : ∀ (l3 l4 l5 l6 l7 l8 : Option Value) (dd : Int32), dd = leadF (mP σ a) (mP σ b) (gapF (mP σ a) (mP σ b)) (mSk σ) → K 200 [some (.ref 146), some (.int (nI a)), some (.int (nI b)), l3, l4, l5, l6, l7, l8, some (.int dd)] [] (cw_B (cw_up σ 146 25 (gapF (mP σ a) (mP σ b))) lam) := by
    intro l3 l4 l5 l6 l7 l8 dd hdd
    refine st_go hK rfl rfl ?_
    refine st_go hK rfl rfl ?_
    refine gi (v := gapF (mP σ a) (mP σ b)) hK rfl qf_146_25 (by rw [up_eq, upd_eq]) ?_
    refine st_go hK rfl rfl ?_
    refine cs1 hK rfl (Nat.le_of_ble_eq_true rfl) ?_
    refine z_msize ?_
    change K _ _ (_ :: _) _
    refine cs2 hK rfl (Nat.le_of_ble_eq_true rfl) ?_
    refine z_mgreater ?_
    change K _ _ (_ :: _) _
    rw [show ((mx (gapF (mP σ a) (mP σ b)) (ab dd)) : Int32) = spanF (mP σ a) (mP σ b) (mSk σ) from (by rw [hdd]; rfl)]
    refine st_put hK rfl qf_146_26 rfl ?_
    refine st_go hK rfl rfl ?_
    refine st_go hK rfl rfl ?_
    refine gi (v := spanF (mP σ a) (mP σ b) (mSk σ)) hK rfl qf_146_26 (by rw [up_eq, upd_eq]) ?_
    refine st_go hK rfl rfl ?_
    refine st_bin hK rfl ?_
    refine st_go hK rfl rfl ?_
    refine dvv (v := lwF (mP σ a) (mP σ b) (mSk σ)) hK rfl (by decide) (by rw [hdd]; rfl) ?_
    refine st_put hK rfl qf_146_27 rfl ?_
    refine st_go hK rfl rfl ?_
    refine st_go hK rfl rfl ?_
    refine gi (v := spanF (mP σ a) (mP σ b) (mSk σ)) hK rfl qf_146_26 (by rw [up_eq, upd_ne (by decide), up_eq, upd_eq]) ?_
    refine st_go hK rfl rfl ?_
    refine st_bin hK rfl ?_
    refine st_go hK rfl rfl ?_
    refine dvv (v := rwF (mP σ a) (mP σ b) (mSk σ)) hK rfl (by decide) (by rw [hdd]; rfl) ?_
    refine st_put hK rfl qf_146_28 rfl ?_
    refine st_ret hK rfl rfl ?_
    exact kk
  refine st_go hK rfl rfl ?_
  refine st_getr hK rfl qf_146_15 ?_
  refine st_go hK rfl rfl ?_
  refine ga (e := a) (v := σ 156 a) hK rfl qa_156 rfl (by omega) rfl rfl ?_
  refine st_go hK rfl rfl ?_
  refine st_getr hK rfl qf_146_16 ?_
  refine st_go hK rfl rfl ?_
  refine ga (e := b) (v := σ 157 b) hK rfl qa_157 rfl (by omega) rfl rfl ?_
  refine st_bin hK rfl ?_
  refine st_go hK rfl rfl ?_
  refine st_getr hK rfl qf_146_15 ?_
  refine st_go hK rfl rfl ?_
  refine ga (e := b) (v := σ 156 b) hK rfl qa_156 rfl (by omega) rfl rfl ?_
  refine st_go hK rfl rfl ?_
  refine st_getr hK rfl qf_146_16 ?_
  refine st_go hK rfl rfl ?_
  refine ga (e := a) (v := σ 157 a) hK rfl qa_157 rfl (by omega) rfl rfl ?_
  refine st_bin hK rfl ?_
  refine cs2 hK rfl (Nat.le_of_ble_eq_true rfl) ?_
  refine z_mgreater ?_
  change K _ _ (_ :: _) _
  refine st_go hK rfl rfl ?_
  change K _ [some (.ref 146), some (.int (nI a)), some (.int (nI b)), some (.int (mx (σ 156 a - σ 157 b) (σ 156 b - σ 157 a))), _, _, _, _, _, _] _ _
  refine st_go hK rfl rfl ?_
  refine st_getr hK rfl qf_146_17 ?_
  refine st_go hK rfl rfl ?_
  refine ga (e := a) (v := σ 158 a) hK rfl qa_158 rfl (by omega) rfl rfl ?_
  refine st_go hK rfl rfl ?_
  refine st_getr hK rfl qf_146_18 ?_
  refine st_go hK rfl rfl ?_
  refine ga (e := b) (v := σ 159 b) hK rfl qa_159 rfl (by omega) rfl rfl ?_
  refine st_bin hK rfl ?_
  refine st_go hK rfl rfl ?_
  refine st_getr hK rfl qf_146_17 ?_
  refine st_go hK rfl rfl ?_
  refine ga (e := b) (v := σ 158 b) hK rfl qa_158 rfl (by omega) rfl rfl ?_
  refine st_go hK rfl rfl ?_
  refine st_getr hK rfl qf_146_18 ?_
  refine st_go hK rfl rfl ?_
  refine ga (e := a) (v := σ 159 a) hK rfl qa_159 rfl (by omega) rfl rfl ?_
  refine st_bin hK rfl ?_
  refine cs2 hK rfl (Nat.le_of_ble_eq_true rfl) ?_
  refine z_mgreater ?_
  change K _ _ (_ :: _) _
  refine st_go hK rfl rfl ?_
  change K _ [some (.ref 146), some (.int (nI a)), some (.int (nI b)), some (.int (mx (σ 156 a - σ 157 b) (σ 156 b - σ 157 a))), some (.int (mx (σ 158 a - σ 159 b) (σ 158 b - σ 159 a))), _, _, _, _, _] _ _
  refine st_go hK rfl rfl ?_
  refine st_go hK rfl rfl ?_
  refine st_go hK rfl rfl ?_
  refine st_go hK rfl rfl ?_
  refine cs2 hK rfl (Nat.le_of_ble_eq_true rfl) ?_
  refine z_mgreater ?_
  change K _ _ (_ :: _) _
  refine cs2 hK rfl (Nat.le_of_ble_eq_true rfl) ?_
  refine z_mgreater ?_
  change K _ _ (_ :: _) _
  rw [show ((mx (0 : Int32) (mx (mx (σ 156 a - σ 157 b) (σ 156 b - σ 157 a)) (mx (σ 158 a - σ 159 b) (σ 158 b - σ 159 a)))) : Int32) = gapF (mP σ a) (mP σ b) from rk_gap]
  refine st_put hK rfl qf_146_25 rfl ?_
  refine st_go hK rfl rfl ?_
  refine gi (v := σ 146 3) hK rfl qf_146_3 (by rw [up_eq, upd_ne (by decide)]) ?_
  refine st_go hK rfl rfl ?_
  refine st_bin hK rfl ?_
  refine st_go hK rfl rfl ?_
  change K _ [some (.ref 146), some (.int (nI a)), some (.int (nI b)), some (.int (mx (σ 156 a - σ 157 b) (σ 156 b - σ 157 a))), some (.int (mx (σ 158 a - σ 159 b) (σ 158 b - σ 159 a))), some (.int (σ 146 3 * (65536 : Int32))), _, _, _, _] _ _
  refine st_go hK rfl rfl ?_
  refine st_getr hK rfl qf_146_20 ?_
  refine st_go hK rfl rfl ?_
  refine ga (e := b) (v := σ 161 b) hK rfl qa_161 rfl (by omega) rfl (by rw [up_ne (by decide)]) ?_
  refine st_go hK rfl rfl ?_
  refine st_getr hK rfl qf_146_19 ?_
  refine st_go hK rfl rfl ?_
  refine ga (e := a) (v := σ 160 a) hK rfl qa_160 rfl (by omega) rfl (by rw [up_ne (by decide)]) ?_
  refine st_bin hK rfl ?_
  refine st_go hK rfl rfl ?_
  refine st_bin hK rfl ?_
  refine st_go hK rfl rfl ?_
  change K _ [some (.ref 146), some (.int (nI a)), some (.int (nI b)), some (.int (mx (σ 156 a - σ 157 b) (σ 156 b - σ 157 a))), some (.int (mx (σ 158 a - σ 159 b) (σ 158 b - σ 159 a))), some (.int (σ 146 3 * (65536 : Int32))), some (.int ((σ 161 b - σ 160 a) - (σ 146 3 * (65536 : Int32)))), _, _, _] _ _
  refine st_go hK rfl rfl ?_
  refine st_go hK rfl rfl ?_
  refine st_getr hK rfl qf_146_19 ?_
  refine st_go hK rfl rfl ?_
  refine ga (e := b) (v := σ 160 b) hK rfl qa_160 rfl (by omega) rfl (by rw [up_ne (by decide)]) ?_
  refine st_bin hK rfl ?_
  refine st_go hK rfl rfl ?_
  refine st_getr hK rfl qf_146_20 ?_
  refine st_go hK rfl rfl ?_
  refine ga (e := a) (v := σ 161 a) hK rfl qa_161 rfl (by omega) rfl (by rw [up_ne (by decide)]) ?_
  refine st_bin hK rfl ?_
  refine st_go hK rfl rfl ?_
  change K _ [some (.ref 146), some (.int (nI a)), some (.int (nI b)), some (.int (mx (σ 156 a - σ 157 b) (σ 156 b - σ 157 a))), some (.int (mx (σ 158 a - σ 159 b) (σ 158 b - σ 159 a))), some (.int (σ 146 3 * (65536 : Int32))), some (.int ((σ 161 b - σ 160 a) - (σ 146 3 * (65536 : Int32)))), some (.int (((σ 146 3 * (65536 : Int32)) + σ 160 b) - σ 161 a)), _, _] _ _
  refine st_go hK rfl rfl ?_
  refine st_getr hK rfl qf_146_19 ?_
  refine st_go hK rfl rfl ?_
  refine ga (e := b) (v := σ 160 b) hK rfl qa_160 rfl (by omega) rfl (by rw [up_ne (by decide)]) ?_
  refine st_go hK rfl rfl ?_
  refine st_getr hK rfl qf_146_20 ?_
  refine st_go hK rfl rfl ?_
  refine ga (e := b) (v := σ 161 b) hK rfl qa_161 rfl (by omega) rfl (by rw [up_ne (by decide)]) ?_
  refine st_bin hK rfl ?_
  refine st_go hK rfl rfl ?_
  refine st_getr hK rfl qf_146_19 ?_
  refine st_go hK rfl rfl ?_
  refine ga (e := a) (v := σ 160 a) hK rfl qa_160 rfl (by omega) rfl (by rw [up_ne (by decide)]) ?_
  refine st_bin hK rfl ?_
  refine st_go hK rfl rfl ?_
  refine st_getr hK rfl qf_146_20 ?_
  refine st_go hK rfl rfl ?_
  refine ga (e := a) (v := σ 161 a) hK rfl qa_161 rfl (by omega) rfl (by rw [up_ne (by decide)]) ?_
  refine st_bin hK rfl ?_
  refine st_go hK rfl rfl ?_
  refine dvv (v := wantF (mP σ a) (mP σ b)) hK rfl (by decide) rfl ?_
  refine st_go hK rfl rfl ?_
  change K _ [some (.ref 146), some (.int (nI a)), some (.int (nI b)), some (.int (mx (σ 156 a - σ 157 b) (σ 156 b - σ 157 a))), some (.int (mx (σ 158 a - σ 159 b) (σ 158 b - σ 159 a))), some (.int (σ 146 3 * (65536 : Int32))), some (.int ((σ 161 b - σ 160 a) - (σ 146 3 * (65536 : Int32)))), some (.int (((σ 146 3 * (65536 : Int32)) + σ 160 b) - σ 161 a)), some (.int (wantF (mP σ a) (mP σ b))), _] _ _
  refine st_go hK rfl rfl ?_
  refine st_go hK rfl rfl ?_
  change K _ [some (.ref 146), some (.int (nI a)), some (.int (nI b)), some (.int (mx (σ 156 a - σ 157 b) (σ 156 b - σ 157 a))), some (.int (mx (σ 158 a - σ 159 b) (σ 158 b - σ 159 a))), some (.int (σ 146 3 * (65536 : Int32))), some (.int ((σ 161 b - σ 160 a) - (σ 146 3 * (65536 : Int32)))), some (.int (((σ 146 3 * (65536 : Int32)) + σ 160 b) - σ 161 a)), some (.int (wantF (mP σ a) (mP σ b))), some (.int (wantF (mP σ a) (mP σ b)))] _ _
  refine st_go hK rfl rfl ?_
  refine st_go hK rfl rfl ?_
  refine gi (v := gapF (mP σ a) (mP σ b)) hK rfl qf_146_25 (by rw [up_eq, upd_eq]) ?_
  refine st_if hK rfl rfl (fun c161 => ?_) (fun c161 => ?_)
  · refine st_go hK rfl rfl ?_
    refine st_go hK rfl rfl ?_
    refine gi (v := gapF (mP σ a) (mP σ b)) hK rfl qf_146_25 (by rw [up_eq, upd_eq]) ?_
    refine st_go hK rfl rfl ?_
    refine st_if hK rfl rfl (fun c185 => ?_) (fun c185 => ?_)
    · exact key _ _ _ _ _ _ _ ((lead_2 c161 c185).symm)
    · refine st_go hK rfl rfl ?_
      refine gi (v := gapF (mP σ a) (mP σ b)) hK rfl qf_146_25 (by rw [up_eq, upd_eq]) ?_
      refine st_go hK rfl rfl ?_
      refine st_go hK rfl rfl ?_
      refine cs2 hK rfl (Nat.le_of_ble_eq_true rfl) ?_
      refine z_mlesser ?_
      change K _ _ (_ :: _) _
      refine st_go hK rfl rfl ?_
      change K _ [some (.ref 146), some (.int (nI a)), some (.int (nI b)), some (.int (mx (σ 156 a - σ 157 b) (σ 156 b - σ 157 a))), some (.int (mx (σ 158 a - σ 159 b) (σ 158 b - σ 159 a))), some (.int (σ 146 3 * (65536 : Int32))), some (.int ((σ 161 b - σ 160 a) - (σ 146 3 * (65536 : Int32)))), some (.int (((σ 146 3 * (65536 : Int32)) + σ 160 b) - σ 161 a)), some (.int (wantF (mP σ a) (mP σ b))), some (.int (mn (-(gapF (mP σ a) (mP σ b))) (((σ 146 3 * (65536 : Int32)) + σ 160 b) - σ 161 a)))] _ _
      exact key _ _ _ _ _ _ _ ((lead_3 c161 c185).symm)
  · refine st_go hK rfl rfl ?_
    refine gi (v := gapF (mP σ a) (mP σ b)) hK rfl qf_146_25 (by rw [up_eq, upd_eq]) ?_
    refine st_go hK rfl rfl ?_
    refine cs2 hK rfl (Nat.le_of_ble_eq_true rfl) ?_
    refine z_mgreater ?_
    change K _ _ (_ :: _) _
    refine st_go hK rfl rfl ?_
    change K _ [some (.ref 146), some (.int (nI a)), some (.int (nI b)), some (.int (mx (σ 156 a - σ 157 b) (σ 156 b - σ 157 a))), some (.int (mx (σ 158 a - σ 159 b) (σ 158 b - σ 159 a))), some (.int (σ 146 3 * (65536 : Int32))), some (.int ((σ 161 b - σ 160 a) - (σ 146 3 * (65536 : Int32)))), some (.int (((σ 146 3 * (65536 : Int32)) + σ 160 b) - σ 161 a)), some (.int (wantF (mP σ a) (mP σ b))), some (.int (mx (gapF (mP σ a) (mP σ b)) ((σ 161 b - σ 160 a) - (σ 146 3 * (65536 : Int32)))))] _ _
    refine st_go hK rfl rfl ?_
    exact key _ _ _ _ _ _ _ ((lead_1 c161).symm)
/-- an end told -/
def tsS (σ τ : cw_V) (k : Nat) : Prop := (∀ p, (p < 156 ∨ 165 < p ∨ p = 162) → τ p = σ p) ∧ (∀ i, i < 9 → i ≠ 6 → τ (156 + i) = upd (σ (156 + i)) k (ssF (fun _ => 0) (σ 148 (4 * k)) (σ 148 (4 * k + 1)) (σ 148 (4 * k + 2)) (σ 148 (4 * k + 3)) i)) ∧ τ 165 = upd (σ 165) k 1
theorem z_tellsSink {k : Nat} (hk : k < 8) (kk : ∀ τ, tsS σ τ k → Q none (cw_B τ lam)) : cw_Z (d + 1) m_Mo_tellsSink [.ref 146, .int (nI k)] (cw_B σ lam) Q := by
  refine zi (L := [some (.ref 146), some (.int (nI k)), none, none]) rfl rfl (fun K hK => ?_)
  refine st_go hK rfl rfl ?_
  refine st_getr hK rfl qf_146_2 ?_
  refine st_go hK rfl rfl ?_
  refine st_go hK rfl rfl ?_
  refine bnv hK rfl (show _ = nI (4 * k) from nI_mul 4 k) ?_
  refine ga (e := 4 * k) (v := σ 148 (4 * k)) hK rfl qa_148 rfl (by omega) rfl rfl ?_
  refine st_go hK rfl rfl ?_
  change K _ [some (.ref 146), some (.int (nI k)), some (.int (σ 148 (4 * k))), _] _ _
  refine st_go hK rfl rfl ?_
  refine st_getr hK rfl qf_146_2 ?_
  refine st_go hK rfl rfl ?_
  refine st_go hK rfl rfl ?_
  refine bnv hK rfl (show _ = nI (4 * k) from nI_mul 4 k) ?_
  refine st_go hK rfl rfl ?_
  refine bnv hK rfl (show _ = nI ((4 * k) + 1) from nI_add (4 * k) 1) ?_
  refine ga (e := (4 * k) + 1) (v := σ 148 ((4 * k) + 1)) hK rfl qa_148 rfl (by omega) rfl rfl ?_
  refine st_go hK rfl rfl ?_
  change K _ [some (.ref 146), some (.int (nI k)), some (.int (σ 148 (4 * k))), some (.int (σ 148 ((4 * k) + 1)))] _ _
  refine st_go hK rfl rfl ?_
  refine st_getr hK rfl qf_146_15 ?_
  refine st_go hK rfl rfl ?_
  refine st_go hK rfl rfl ?_
  refine st_go hK rfl rfl ?_
  refine st_bin hK rfl ?_
  refine st_go hK rfl rfl ?_
  refine st_bin hK rfl ?_
  refine sa (e := k) hK rfl qa_156 rfl (by omega) rfl ?_
  refine st_go hK rfl rfl ?_
  refine st_getr hK rfl qf_146_16 ?_
  refine st_go hK rfl rfl ?_
  refine st_go hK rfl rfl ?_
  refine st_getr hK rfl qf_146_15 ?_
  refine st_go hK rfl rfl ?_
  refine ga (e := k) (v := ((σ 148 (4 * k) + σ 148 ((4 * k) + 1)) * (65536 : Int32))) hK rfl qa_156 rfl (by omega) rfl (by rw [up_eq, upd_eq]) ?_
  refine sa (e := k) hK rfl qa_157 rfl (by omega) rfl ?_
  refine st_go hK rfl rfl ?_
  refine st_getr hK rfl qf_146_17 ?_
  refine st_go hK rfl rfl ?_
  refine st_go hK rfl rfl ?_
  refine st_go hK rfl rfl ?_
  refine st_bin hK rfl ?_
  refine st_go hK rfl rfl ?_
  refine st_bin hK rfl ?_
  refine sa (e := k) hK rfl qa_158 rfl (by omega) rfl ?_
  refine st_go hK rfl rfl ?_
  refine st_getr hK rfl qf_146_18 ?_
  refine st_go hK rfl rfl ?_
  refine st_go hK rfl rfl ?_
  refine st_getr hK rfl qf_146_17 ?_
  refine st_go hK rfl rfl ?_
  refine ga (e := k) (v := ((σ 148 (4 * k) - σ 148 ((4 * k) + 1)) * (65536 : Int32))) hK rfl qa_158 rfl (by omega) rfl (by rw [up_eq, upd_eq]) ?_
  refine sa (e := k) hK rfl qa_159 rfl (by omega) rfl ?_
  refine st_go hK rfl rfl ?_
  refine st_getr hK rfl qf_146_19 ?_
  refine st_go hK rfl rfl ?_
  refine st_go hK rfl rfl ?_
  refine st_getr hK rfl qf_146_2 ?_
  refine st_go hK rfl rfl ?_
  refine st_go hK rfl rfl ?_
  refine bnv hK rfl (show _ = nI (4 * k) from nI_mul 4 k) ?_
  refine st_go hK rfl rfl ?_
  refine bnv hK rfl (show _ = nI ((4 * k) + 2) from nI_add (4 * k) 2) ?_
  refine ga (e := (4 * k) + 2) (v := σ 148 ((4 * k) + 2)) hK rfl qa_148 rfl (by omega) rfl (by rw [up_ne (by decide), up_ne (by decide), up_ne (by decide), up_ne (by decide)]) ?_
  refine st_go hK rfl rfl ?_
  refine st_bin hK rfl ?_
  refine sa (e := k) hK rfl qa_160 rfl (by omega) rfl ?_
  refine st_go hK rfl rfl ?_
  refine st_getr hK rfl qf_146_20 ?_
  refine st_go hK rfl rfl ?_
  refine st_go hK rfl rfl ?_
  refine st_getr hK rfl qf_146_19 ?_
  refine st_go hK rfl rfl ?_
  refine ga (e := k) (v := (σ 148 ((4 * k) + 2) * (65536 : Int32))) hK rfl qa_160 rfl (by omega) rfl (by rw [up_eq, upd_eq]) ?_
  refine sa (e := k) hK rfl qa_161 rfl (by omega) rfl ?_
  refine st_go hK rfl rfl ?_
  refine st_getr hK rfl qf_146_22 ?_
  refine st_go hK rfl rfl ?_
  refine st_go hK rfl rfl ?_
  refine sa (e := k) hK rfl qa_163 rfl (by omega) rfl ?_
  refine st_go hK rfl rfl ?_
  refine st_getr hK rfl qf_146_23 ?_
  refine st_go hK rfl rfl ?_
  refine st_go hK rfl rfl ?_
  refine sa (e := k) hK rfl qa_164 rfl (by omega) rfl ?_
  refine st_go hK rfl rfl ?_
  refine st_getr hK rfl qf_146_24 ?_
  refine st_go hK rfl rfl ?_
  refine st_go hK rfl rfl ?_
  refine sa (e := k) hK rfl qa_165 rfl (by omega) rfl ?_
  refine st_ret hK rfl rfl ?_
  refine kk _ ⟨fun p hp => ?_, fun i hi h6 => ?_, rfl⟩
  · simp only [cw_up]
    rw [if_neg (by omega), if_neg (by omega), if_neg (by omega), if_neg (by omega), if_neg (by omega), if_neg (by omega), if_neg (by omega), if_neg (by omega), if_neg (by omega)]
  · have : i = 0 ∨ i = 1 ∨ i = 2 ∨ i = 3 ∨ i = 4 ∨ i = 5 ∨ i = 7 ∨ i = 8 := by omega
    rcases this with rfl | rfl | rfl | rfl | rfl | rfl | rfl | rfl <;> rfl
/-- a joint told -/
def tjS (σ τ : cw_V) (j a b : Nat) : Prop := (∀ p, p ≠ 146 → (p < 156 ∨ 165 < p) → τ p = σ p) ∧ (∀ k, (k < 25 ∨ 28 < k) → τ 146 k = σ 146 k) ∧ (∀ i, i < 9 → i ≠ 6 → τ (156 + i) = upd (σ (156 + i)) j (jnF (fun _ => 0) (mP σ a) (mP σ b) (lwF (mP σ a) (mP σ b) (mSk σ)) (rwF (mP σ a) (mP σ b) (mSk σ)) i)) ∧ τ 162 = upd (upd (σ 162) a (lwF (mP σ a) (mP σ b) (mSk σ))) b (rwF (mP σ a) (mP σ b) (mSk σ)) ∧ τ 165 = upd (σ 165) j 1
theorem z_tellsJoint {j a b : Nat} (hj : j < 15) (ha : a < 15) (hb : b < 15) (h1 : σ 151 j = nI a) (h2 : σ 152 j = nI b) (kk : ∀ τ, tjS σ τ j a b → Q none (cw_B τ lam)) : cw_Z (d + 3) m_Mo_tellsJoint [.ref 146, .int (nI j)] (cw_B σ lam) Q := by
  refine zi (L := [some (.ref 146), some (.int (nI j)), none, none]) rfl rfl (fun K hK => ?_)
  refine st_go hK rfl rfl ?_
  refine st_getr hK rfl qf_146_9 ?_
  refine st_go hK rfl rfl ?_
  refine ga (e := j) (v := nI a) hK rfl qa_151 rfl (by omega) rfl h1 ?_
  refine st_go hK rfl rfl ?_
  change K _ [some (.ref 146), some (.int (nI j)), some (.int (nI a)), _] _ _
  refine st_go hK rfl rfl ?_
  refine st_getr hK rfl qf_146_10 ?_
  refine st_go hK rfl rfl ?_
  refine ga (e := j) (v := nI b) hK rfl qa_152 rfl (by omega) rfl h2 ?_
  refine st_go hK rfl rfl ?_
  change K _ [some (.ref 146), some (.int (nI j)), some (.int (nI a)), some (.int (nI b))] _ _
  refine st_go hK rfl rfl ?_
  refine st_go hK rfl rfl ?_
  refine st_go hK rfl rfl ?_
  refine cv2 hK rfl qc_146 (Nat.le_of_ble_eq_true rfl) ?_
  refine z_reckons ha hb ?_
  change K _ _ _ _
  refine st_go hK rfl rfl ?_
  refine st_getr hK rfl qf_146_21 ?_
  refine st_go hK rfl rfl ?_
  refine st_go hK rfl rfl ?_
  refine gi (v := lwF (mP σ a) (mP σ b) (mSk σ)) hK rfl qf_146_27 (show rkF σ a b 146 27 = lwF (mP σ a) (mP σ b) (mSk σ) from rfl) ?_
  refine sa (e := a) hK rfl qa_162 rfl (by omega) rfl ?_
  refine st_go hK rfl rfl ?_
  refine st_getr hK rfl qf_146_21 ?_
  refine st_go hK rfl rfl ?_
  refine st_go hK rfl rfl ?_
  refine gi (v := rwF (mP σ a) (mP σ b) (mSk σ)) hK rfl qf_146_28 (by rw [up_ne (by decide), (show rkF σ a b 146 28 = rwF (mP σ a) (mP σ b) (mSk σ) from rfl)]) ?_
  refine sa (e := b) hK rfl qa_162 rfl (by omega) rfl ?_
  refine st_go hK rfl rfl ?_
  refine st_getr hK rfl qf_146_19 ?_
  refine st_go hK rfl rfl ?_
  refine st_go hK rfl rfl ?_
  refine st_getr hK rfl qf_146_19 ?_
  refine st_go hK rfl rfl ?_
  refine ga (e := a) (v := σ 160 a) hK rfl qa_160 rfl (by omega) rfl (by rw [up_ne (by decide), up_ne (by decide), (show rkF σ a b 160 a = σ 160 a from rfl)]) ?_
  refine st_go hK rfl rfl ?_
  refine gi (v := lwF (mP σ a) (mP σ b) (mSk σ)) hK rfl qf_146_27 (by rw [up_ne (by decide), up_ne (by decide), (show rkF σ a b 146 27 = lwF (mP σ a) (mP σ b) (mSk σ) from rfl)]) ?_
  refine st_bin hK rfl ?_
  refine st_go hK rfl rfl ?_
  refine st_getr hK rfl qf_146_19 ?_
  refine st_go hK rfl rfl ?_
  refine ga (e := b) (v := σ 160 b) hK rfl qa_160 rfl (by omega) rfl (by rw [up_ne (by decide), up_ne (by decide), (show rkF σ a b 160 b = σ 160 b from rfl)]) ?_
  refine st_go hK rfl rfl ?_
  refine gi (v := rwF (mP σ a) (mP σ b) (mSk σ)) hK rfl qf_146_28 (by rw [up_ne (by decide), up_ne (by decide), (show rkF σ a b 146 28 = rwF (mP σ a) (mP σ b) (mSk σ) from rfl)]) ?_
  refine st_bin hK rfl ?_
  refine cs2 hK rfl (Nat.le_of_ble_eq_true rfl) ?_
  refine z_mlesser ?_
  change K _ _ (_ :: _) _
  refine sa (e := j) hK rfl qa_160 rfl (by omega) rfl ?_
  refine st_go hK rfl rfl ?_
  refine st_getr hK rfl qf_146_20 ?_
  refine st_go hK rfl rfl ?_
  refine st_go hK rfl rfl ?_
  refine st_getr hK rfl qf_146_20 ?_
  refine st_go hK rfl rfl ?_
  refine ga (e := a) (v := σ 161 a) hK rfl qa_161 rfl (by omega) rfl (by rw [up_ne (by decide), up_ne (by decide), up_ne (by decide), (show rkF σ a b 161 a = σ 161 a from rfl)]) ?_
  refine st_go hK rfl rfl ?_
  refine gi (v := lwF (mP σ a) (mP σ b) (mSk σ)) hK rfl qf_146_27 (by rw [up_ne (by decide), up_ne (by decide), up_ne (by decide), (show rkF σ a b 146 27 = lwF (mP σ a) (mP σ b) (mSk σ) from rfl)]) ?_
  refine st_bin hK rfl ?_
  refine st_go hK rfl rfl ?_
  refine st_getr hK rfl qf_146_20 ?_
  refine st_go hK rfl rfl ?_
  refine ga (e := b) (v := σ 161 b) hK rfl qa_161 rfl (by omega) rfl (by rw [up_ne (by decide), up_ne (by decide), up_ne (by decide), (show rkF σ a b 161 b = σ 161 b from rfl)]) ?_
  refine st_go hK rfl rfl ?_
  refine gi (v := rwF (mP σ a) (mP σ b) (mSk σ)) hK rfl qf_146_28 (by rw [up_ne (by decide), up_ne (by decide), up_ne (by decide), (show rkF σ a b 146 28 = rwF (mP σ a) (mP σ b) (mSk σ) from rfl)]) ?_
  refine st_bin hK rfl ?_
  refine cs2 hK rfl (Nat.le_of_ble_eq_true rfl) ?_
  refine z_mgreater ?_
  change K _ _ (_ :: _) _
  refine sa (e := j) hK rfl qa_161 rfl (by omega) rfl ?_
  refine st_go hK rfl rfl ?_
  refine st_getr hK rfl qf_146_15 ?_
  refine st_go hK rfl rfl ?_
  refine st_go hK rfl rfl ?_
  refine st_getr hK rfl qf_146_15 ?_
  refine st_go hK rfl rfl ?_
  refine ga (e := a) (v := σ 156 a) hK rfl qa_156 rfl (by omega) rfl (by rw [up_ne (by decide), up_ne (by decide), up_ne (by decide), up_ne (by decide), (show rkF σ a b 156 a = σ 156 a from rfl)]) ?_
  refine st_go hK rfl rfl ?_
  refine gi (v := lwF (mP σ a) (mP σ b) (mSk σ)) hK rfl qf_146_27 (by rw [up_ne (by decide), up_ne (by decide), up_ne (by decide), up_ne (by decide), (show rkF σ a b 146 27 = lwF (mP σ a) (mP σ b) (mSk σ) from rfl)]) ?_
  refine st_bin hK rfl ?_
  refine st_go hK rfl rfl ?_
  refine st_getr hK rfl qf_146_15 ?_
  refine st_go hK rfl rfl ?_
  refine ga (e := b) (v := σ 156 b) hK rfl qa_156 rfl (by omega) rfl (by rw [up_ne (by decide), up_ne (by decide), up_ne (by decide), up_ne (by decide), (show rkF σ a b 156 b = σ 156 b from rfl)]) ?_
  refine st_go hK rfl rfl ?_
  refine gi (v := rwF (mP σ a) (mP σ b) (mSk σ)) hK rfl qf_146_28 (by rw [up_ne (by decide), up_ne (by decide), up_ne (by decide), up_ne (by decide), (show rkF σ a b 146 28 = rwF (mP σ a) (mP σ b) (mSk σ) from rfl)]) ?_
  refine st_bin hK rfl ?_
  refine cs2 hK rfl (Nat.le_of_ble_eq_true rfl) ?_
  refine z_mgreater ?_
  change K _ _ (_ :: _) _
  refine sa (e := j) hK rfl qa_156 rfl (by omega) rfl ?_
  refine st_go hK rfl rfl ?_
  refine st_getr hK rfl qf_146_16 ?_
  refine st_go hK rfl rfl ?_
  refine st_go hK rfl rfl ?_
  refine st_getr hK rfl qf_146_16 ?_
  refine st_go hK rfl rfl ?_
  refine ga (e := a) (v := σ 157 a) hK rfl qa_157 rfl (by omega) rfl (by rw [up_ne (by decide), up_ne (by decide), up_ne (by decide), up_ne (by decide), up_ne (by decide), (show rkF σ a b 157 a = σ 157 a from rfl)]) ?_
  refine st_go hK rfl rfl ?_
  refine gi (v := lwF (mP σ a) (mP σ b) (mSk σ)) hK rfl qf_146_27 (by rw [up_ne (by decide), up_ne (by decide), up_ne (by decide), up_ne (by decide), up_ne (by decide), (show rkF σ a b 146 27 = lwF (mP σ a) (mP σ b) (mSk σ) from rfl)]) ?_
  refine st_bin hK rfl ?_
  refine st_go hK rfl rfl ?_
  refine st_getr hK rfl qf_146_16 ?_
  refine st_go hK rfl rfl ?_
  refine ga (e := b) (v := σ 157 b) hK rfl qa_157 rfl (by omega) rfl (by rw [up_ne (by decide), up_ne (by decide), up_ne (by decide), up_ne (by decide), up_ne (by decide), (show rkF σ a b 157 b = σ 157 b from rfl)]) ?_
  refine st_go hK rfl rfl ?_
  refine gi (v := rwF (mP σ a) (mP σ b) (mSk σ)) hK rfl qf_146_28 (by rw [up_ne (by decide), up_ne (by decide), up_ne (by decide), up_ne (by decide), up_ne (by decide), (show rkF σ a b 146 28 = rwF (mP σ a) (mP σ b) (mSk σ) from rfl)]) ?_
  refine st_bin hK rfl ?_
  refine cs2 hK rfl (Nat.le_of_ble_eq_true rfl) ?_
  refine z_mlesser ?_
  change K _ _ (_ :: _) _
  refine sa (e := j) hK rfl qa_157 rfl (by omega) rfl ?_
  refine st_go hK rfl rfl ?_
  refine st_getr hK rfl qf_146_17 ?_
  refine st_go hK rfl rfl ?_
  refine st_go hK rfl rfl ?_
  refine st_getr hK rfl qf_146_17 ?_
  refine st_go hK rfl rfl ?_
  refine ga (e := a) (v := σ 158 a) hK rfl qa_158 rfl (by omega) rfl (by rw [up_ne (by decide), up_ne (by decide), up_ne (by decide), up_ne (by decide), up_ne (by decide), up_ne (by decide), (show rkF σ a b 158 a = σ 158 a from rfl)]) ?_
  refine st_go hK rfl rfl ?_
  refine gi (v := lwF (mP σ a) (mP σ b) (mSk σ)) hK rfl qf_146_27 (by rw [up_ne (by decide), up_ne (by decide), up_ne (by decide), up_ne (by decide), up_ne (by decide), up_ne (by decide), (show rkF σ a b 146 27 = lwF (mP σ a) (mP σ b) (mSk σ) from rfl)]) ?_
  refine st_bin hK rfl ?_
  refine st_go hK rfl rfl ?_
  refine st_getr hK rfl qf_146_17 ?_
  refine st_go hK rfl rfl ?_
  refine ga (e := b) (v := σ 158 b) hK rfl qa_158 rfl (by omega) rfl (by rw [up_ne (by decide), up_ne (by decide), up_ne (by decide), up_ne (by decide), up_ne (by decide), up_ne (by decide), (show rkF σ a b 158 b = σ 158 b from rfl)]) ?_
  refine st_go hK rfl rfl ?_
  refine gi (v := rwF (mP σ a) (mP σ b) (mSk σ)) hK rfl qf_146_28 (by rw [up_ne (by decide), up_ne (by decide), up_ne (by decide), up_ne (by decide), up_ne (by decide), up_ne (by decide), (show rkF σ a b 146 28 = rwF (mP σ a) (mP σ b) (mSk σ) from rfl)]) ?_
  refine st_bin hK rfl ?_
  refine cs2 hK rfl (Nat.le_of_ble_eq_true rfl) ?_
  refine z_mgreater ?_
  change K _ _ (_ :: _) _
  refine sa (e := j) hK rfl qa_158 rfl (by omega) rfl ?_
  refine st_go hK rfl rfl ?_
  refine st_getr hK rfl qf_146_18 ?_
  refine st_go hK rfl rfl ?_
  refine st_go hK rfl rfl ?_
  refine st_getr hK rfl qf_146_18 ?_
  refine st_go hK rfl rfl ?_
  refine ga (e := a) (v := σ 159 a) hK rfl qa_159 rfl (by omega) rfl (by rw [up_ne (by decide), up_ne (by decide), up_ne (by decide), up_ne (by decide), up_ne (by decide), up_ne (by decide), up_ne (by decide), (show rkF σ a b 159 a = σ 159 a from rfl)]) ?_
  refine st_go hK rfl rfl ?_
  refine gi (v := lwF (mP σ a) (mP σ b) (mSk σ)) hK rfl qf_146_27 (by rw [up_ne (by decide), up_ne (by decide), up_ne (by decide), up_ne (by decide), up_ne (by decide), up_ne (by decide), up_ne (by decide), (show rkF σ a b 146 27 = lwF (mP σ a) (mP σ b) (mSk σ) from rfl)]) ?_
  refine st_bin hK rfl ?_
  refine st_go hK rfl rfl ?_
  refine st_getr hK rfl qf_146_18 ?_
  refine st_go hK rfl rfl ?_
  refine ga (e := b) (v := σ 159 b) hK rfl qa_159 rfl (by omega) rfl (by rw [up_ne (by decide), up_ne (by decide), up_ne (by decide), up_ne (by decide), up_ne (by decide), up_ne (by decide), up_ne (by decide), (show rkF σ a b 159 b = σ 159 b from rfl)]) ?_
  refine st_go hK rfl rfl ?_
  refine gi (v := rwF (mP σ a) (mP σ b) (mSk σ)) hK rfl qf_146_28 (by rw [up_ne (by decide), up_ne (by decide), up_ne (by decide), up_ne (by decide), up_ne (by decide), up_ne (by decide), up_ne (by decide), (show rkF σ a b 146 28 = rwF (mP σ a) (mP σ b) (mSk σ) from rfl)]) ?_
  refine st_bin hK rfl ?_
  refine cs2 hK rfl (Nat.le_of_ble_eq_true rfl) ?_
  refine z_mlesser ?_
  change K _ _ (_ :: _) _
  refine sa (e := j) hK rfl qa_159 rfl (by omega) rfl ?_
  refine st_go hK rfl rfl ?_
  refine st_getr hK rfl qf_146_22 ?_
  refine st_go hK rfl rfl ?_
  refine st_go hK rfl rfl ?_
  refine st_getr hK rfl qf_146_22 ?_
  refine st_go hK rfl rfl ?_
  refine ga (e := a) (v := σ 163 a) hK rfl qa_163 rfl (by omega) rfl (by rw [up_ne (by decide), up_ne (by decide), up_ne (by decide), up_ne (by decide), up_ne (by decide), up_ne (by decide), up_ne (by decide), up_ne (by decide), (show rkF σ a b 163 a = σ 163 a from rfl)]) ?_
  refine st_go hK rfl rfl ?_
  refine st_getr hK rfl qf_146_22 ?_
  refine st_go hK rfl rfl ?_
  refine ga (e := b) (v := σ 163 b) hK rfl qa_163 rfl (by omega) rfl (by rw [up_ne (by decide), up_ne (by decide), up_ne (by decide), up_ne (by decide), up_ne (by decide), up_ne (by decide), up_ne (by decide), up_ne (by decide), (show rkF σ a b 163 b = σ 163 b from rfl)]) ?_
  refine st_bin hK rfl ?_
  refine st_go hK rfl rfl ?_
  refine gi (v := lwF (mP σ a) (mP σ b) (mSk σ)) hK rfl qf_146_27 (by rw [up_ne (by decide), up_ne (by decide), up_ne (by decide), up_ne (by decide), up_ne (by decide), up_ne (by decide), up_ne (by decide), up_ne (by decide), (show rkF σ a b 146 27 = lwF (mP σ a) (mP σ b) (mSk σ) from rfl)]) ?_
  refine st_bin hK rfl ?_
  refine st_go hK rfl rfl ?_
  refine gi (v := rwF (mP σ a) (mP σ b) (mSk σ)) hK rfl qf_146_28 (by rw [up_ne (by decide), up_ne (by decide), up_ne (by decide), up_ne (by decide), up_ne (by decide), up_ne (by decide), up_ne (by decide), up_ne (by decide), (show rkF σ a b 146 28 = rwF (mP σ a) (mP σ b) (mSk σ) from rfl)]) ?_
  refine st_bin hK rfl ?_
  refine sa (e := j) hK rfl qa_163 rfl (by omega) rfl ?_
  refine st_go hK rfl rfl ?_
  refine st_getr hK rfl qf_146_23 ?_
  refine st_go hK rfl rfl ?_
  refine st_go hK rfl rfl ?_
  refine st_getr hK rfl qf_146_23 ?_
  refine st_go hK rfl rfl ?_
  refine ga (e := a) (v := σ 164 a) hK rfl qa_164 rfl (by omega) rfl (by rw [up_ne (by decide), up_ne (by decide), up_ne (by decide), up_ne (by decide), up_ne (by decide), up_ne (by decide), up_ne (by decide), up_ne (by decide), up_ne (by decide), (show rkF σ a b 164 a = σ 164 a from rfl)]) ?_
  refine st_go hK rfl rfl ?_
  refine st_getr hK rfl qf_146_23 ?_
  refine st_go hK rfl rfl ?_
  refine ga (e := b) (v := σ 164 b) hK rfl qa_164 rfl (by omega) rfl (by rw [up_ne (by decide), up_ne (by decide), up_ne (by decide), up_ne (by decide), up_ne (by decide), up_ne (by decide), up_ne (by decide), up_ne (by decide), up_ne (by decide), (show rkF σ a b 164 b = σ 164 b from rfl)]) ?_
  refine st_bin hK rfl ?_
  refine sa (e := j) hK rfl qa_164 rfl (by omega) rfl ?_
  refine st_go hK rfl rfl ?_
  refine st_getr hK rfl qf_146_24 ?_
  refine st_go hK rfl rfl ?_
  refine st_go hK rfl rfl ?_
  refine sa (e := j) hK rfl qa_165 rfl (by omega) rfl ?_
  refine st_ret hK rfl rfl ?_
  refine kk _ ⟨fun p h0 hp => ?_, fun k hk => ?_, fun i hi h6 => ?_, rfl, rfl⟩
  · simp only [cw_up, rkF]
    rw [if_neg (by omega), if_neg (by omega), if_neg (by omega), if_neg (by omega), if_neg (by omega), if_neg (by omega), if_neg (by omega), if_neg (by omega), if_neg (by omega), if_neg (by omega), if_neg (by omega), if_neg (by omega), if_neg (by omega), if_neg (by omega), if_neg (by omega)]
  · simp only [rkF, up_at]
    grind
  · have : i = 0 ∨ i = 1 ∨ i = 2 ∨ i = 3 ∨ i = 4 ∨ i = 5 ∨ i = 7 ∨ i = 8 := by omega
    rcases this with rfl | rfl | rfl | rfl | rfl | rfl | rfl | rfl <;> rfl
end

