/-! HISTORY -/
/-- the tree at t in τ is that at u in σ -/
def TE (τ : cw_V) (t : Nat) (σ : cw_V) (u : Nat) : Prop := (∀ i, 1 ≤ i → i ≤ 5 → ∀ j, j < 8 → τ (t + i) j = σ (u + i) j) ∧ (∀ i, 6 ≤ i → i ≤ 8 → ∀ j, j < 15 → τ (t + i) j = σ (u + i) j) ∧ ∀ k, 8 ≤ k → k ≤ 11 → τ t k = σ u k
theorem isT_s {i : Nat} (h : i < 8) : isT (68 + 9 * i) := Or.inr (Or.inr ⟨i, h, rfl⟩)
section
variable {d : Nat} {σ : cw_V} {lam : Nat → Int64} {Q : cw_Q} {nx c : Nat}
theorem rem8 {a : Nat} (h : a < 2 ^ 31) : nI a - nI a / 8 * 8 = nI (a % 8) := pk_rem (a := a) (d := 8) h (by decide) (by decide)
def SV (σ τ : cw_V) (nx c : Nat) : Prop := (∀ p, p ≠ 66 → (p < 68 + 9 * nx ∨ 68 + 9 * nx + 8 < p) → τ p = σ p) ∧ TE τ (68 + 9 * nx) σ 1 ∧ τ 66 1 = nI ((nx + 1) % 8) ∧ τ 66 2 = nI (if c = 8 then 8 else c + 1)
theorem z_save (h66 : σ 66 1 = nI nx) (hn : nx < 8) (h662 : σ 66 2 = nI c) (hc : c ≤ 8) (kk : ∀ τ, SV σ τ nx c → Q none (cw_B τ lam)) : cw_Z (d + 2) m_History_save [.ref 66, .ref 1] (cw_B σ lam) Q := by
  refine zi (L := [some (.ref 66), some (.ref 1)]) rfl rfl (fun K hK => ?_)
  refine st_go hK rfl rfl ?_
  refine st_geti hK rfl rfl ?_
  rw [h66]
  refine st_if hK rfl rfl (fun c4 => ?_) (fun c4 => ?_)
  · refine st_ret hK rfl rfl ?_
    exfalso
    first | exact nI_pos (by omega) c4 | exact c13 ((lit_lt (a := 8) (by decide) (by omega)).mpr hn)
  · refine st_go hK rfl rfl ?_
    refine st_geti hK rfl rfl ?_
    rw [h66]
    refine st_go hK rfl rfl ?_
    refine st_if hK rfl rfl (fun c13 => ?_) (fun c13 => ?_)
    · refine st_go hK rfl rfl ?_
      refine st_getr hK rfl rfl ?_
      refine st_go hK rfl rfl ?_
      refine st_geti hK rfl rfl ?_
      rw [h66]
      refine st_aald hK rfl rfl (by decide) (cw_in_nI (n := 8) hn (by decide)) ?_
      refine st_go hK rfl rfl ?_
      rw [nI_clamp (by omega)]
      refine cv1 hK rfl (Tree_c (isT_s hn)) (Nat.le_of_ble_eq_true rfl) ?_
      refine z_copyFrom (isT_s hn) hT1 (by omega) (fun σ1 h1 => ?_)
      change K _ _ _ _
      refine st_go hK rfl rfl ?_
      refine st_go hK rfl rfl ?_
      refine st_geti hK rfl rfl ?_
      have e66 : σ1 66 1 = nI nx := by rw [h1.1 66 (by omega), h66]
      rw [e66]
      refine st_go hK rfl rfl ?_
      refine st_bin hK rfl ?_
      refine st_go hK rfl rfl ?_
      refine st_div hK rfl (by decide) ?_
      refine st_put hK rfl rfl rfl ?_
      refine st_go hK rfl rfl ?_
      refine st_go hK rfl rfl ?_
      refine st_geti hK rfl rfl ?_
      have e67 : ∀ x, cw_up σ1 66 1 x 66 2 = nI c := fun x => by rw [up_eq, upd_ne (by decide), h1.1 66 (by omega), h662]
      rw [e67]
      refine st_go hK rfl rfl ?_
      refine st_bin hK rfl ?_
      refine st_go hK rfl rfl ?_
      refine st_min hK rfl (Nat.le_of_ble_eq_true rfl) ?_
      refine st_put hK rfl rfl rfl ?_
      refine st_ret hK rfl rfl ?_
      have e1 : nI nx + 1 - (nI nx + 1) / 8 * 8 = nI ((nx + 1) % 8) := by rw [nI_1, rem8 (by omega)]
      have e2 : (if (8 : Int32) < nI c + 1 then (8 : Int32) else nI c + 1) = nI (if c = 8 then 8 else c + 1) := by
        rw [nI_1]
        by_cases z : c = 8
        · rw [if_pos z, if_pos (show (8 : Int32) < nI (c + 1) from nI_lt (a := 8) (b := c + 1) (by omega) (by omega))]
          rfl
        · rw [if_neg z, if_neg (show ¬ (8 : Int32) < nI (c + 1) from nI_nlt (a := 8) (b := c + 1) (by omega) (by decide))]
      rw [e1, e2]
      obtain ⟨q0, q1, q2, q3⟩ := h1
      refine kk _ ⟨fun p p1 p2 => ?_, ⟨fun i i1 i5 j hj => ?_, fun i i1 i5 j hj => ?_, fun k k1 k2 => ?_⟩, ?_, ?_⟩
      · rw [up_ne p1, up_ne p1, q0 p p2]
      · rw [up_ne (by omega), up_ne (by omega), q1 i i1 i5 j hj]
      · rw [up_ne (by omega), up_ne (by omega), q2 i i1 i5 j hj]
      · rw [up_ne (by omega), up_ne (by omega), q3 k k1 k2]
      · rw [up_eq, upd_ne (by decide), up_eq, upd_eq]
      · rw [up_eq, upd_eq]
    · refine st_ret hK rfl rfl ?_
      exfalso
      first | exact nI_pos (by omega) c4 | exact c13 ((lit_lt (a := 8) (by decide) (by omega)).mpr hn)
def RS (σ τ : cw_V) (nx c : Nat) : Prop := (∀ p, p ≠ 66 → (p < 1 ∨ 9 < p) → τ p = σ p) ∧ TE τ 1 σ (68 + 9 * ((nx + 7) % 8)) ∧ τ 66 1 = nI ((nx + 7) % 8) ∧ τ 66 2 = nI (c - 1)
theorem z_restore (h66 : σ 66 1 = nI nx) (hn : nx < 8) (h662 : σ 66 2 = nI c) (hc : c ≤ 8) (hc0 : 0 < c) (kk : ∀ τ, RS σ τ nx c → Q none (cw_B τ lam)) : cw_Z (d + 2) m_History_restore [.ref 66, .ref 1] (cw_B σ lam) Q := by
  have hm : (nx + 7) % 8 < 8 := Nat.mod_lt _ (by decide)
  refine zi (L := [some (.ref 66), some (.ref 1)]) rfl rfl (fun K hK => ?_)
  refine st_go hK rfl rfl ?_
  refine st_geti hK rfl rfl ?_
  rw [h662]
  refine st_if hK rfl rfl (fun c4 => ?_) (fun c4 => ?_)
  · refine st_ret hK rfl rfl ?_
    exfalso
    first | exact nI_nle (by omega) (by omega) c4 | exact c11 (nI_pos' (by omega))
  · refine st_go hK rfl rfl ?_
    refine st_geti hK rfl rfl ?_
    rw [h66]
    refine st_if hK rfl rfl (fun c11 => ?_) (fun c11 => ?_)
    · refine st_go hK rfl rfl ?_
      refine st_go hK rfl rfl ?_
      refine st_geti hK rfl rfl ?_
      rw [h66]
      refine st_go hK rfl rfl ?_
      refine st_bin hK rfl ?_
      refine st_go hK rfl rfl ?_
      refine st_bin hK rfl ?_
      refine st_go hK rfl rfl ?_
      refine st_div hK rfl (by decide) ?_
      refine st_put hK rfl rfl rfl ?_
      refine st_go hK rfl rfl ?_
      refine st_go hK rfl rfl ?_
      refine st_getr hK rfl rfl ?_
      refine st_go hK rfl rfl ?_
      refine st_geti hK rfl rfl ?_
      have e66 : cw_up σ 66 1 (nI nx + 8 - 1 - (nI nx + 8 - 1) / 8 * 8) 66 1 = nI ((nx + 7) % 8) := by rw [up_eq, upd_eq, show nI nx + 8 = nI (nx + 8) from nI_add nx 8, show nx + 8 = nx + 7 + 1 by omega, nI_pred, rem8 (by omega)]
      rw [e66]
      refine st_aald hK rfl rfl (by decide) (cw_in_nI (n := 8) (Nat.mod_lt _ (by decide)) (by decide)) ?_
      rw [nI_clamp (show (nx + 7) % 8 < 2 ^ 31 by omega)]
      refine cv1 hK rfl (Tree_c hT1) (Nat.le_of_ble_eq_true rfl) ?_
      refine z_copyFrom hT1 (isT_s (Nat.mod_lt _ (by decide))) (by omega) (fun σ1 h1 => ?_)
      change K _ _ _ _
      refine st_go hK rfl rfl ?_
      refine st_go hK rfl rfl ?_
      refine st_geti hK rfl rfl ?_
      have e67 : σ1 66 2 = nI c := by rw [h1.1 66 (by omega), up_eq, upd_ne (by decide), h662]
      rw [e67]
      refine st_go hK rfl rfl ?_
      refine st_bin hK rfl ?_
      refine st_put hK rfl rfl rfl ?_
      refine st_ret hK rfl rfl ?_
      have e1 : nI c - 1 = nI (c - 1) := by
        obtain ⟨z, rfl⟩ : ∃ z, c = z + 1 := ⟨c - 1, by omega⟩
        rw [nI_pred]
        rfl
      rw [e1]
      obtain ⟨q0, q1, q2, q3⟩ := h1
      refine kk _ ⟨fun p p1 p2 => ?_, ⟨fun i i1 i5 j hj => ?_, fun i i1 i5 j hj => ?_, fun k k1 k2 => ?_⟩, ?_, ?_⟩
      · rw [up_ne p1, q0 p (by omega), up_ne p1]
      · rw [up_ne (by omega), q1 i i1 i5 j hj, up_ne (by omega)]
      · rw [up_ne (by omega), q2 i i1 i5 j hj, up_ne (by omega)]
      · rw [up_ne (by omega), q3 k k1 k2, up_ne (by omega)]
      · rw [up_eq, upd_ne (by decide), q0 66 (by omega)]
        exact e66
      · rw [up_eq, upd_eq]
    · refine st_ret hK rfl rfl ?_
      exfalso
      first | exact nI_nle (by omega) (by omega) c4 | exact c11 (nI_pos' (by omega))
end
