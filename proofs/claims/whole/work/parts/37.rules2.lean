/-! RULES, with values as they are known -/
section
variable {d M : Nat} {h0 : cw_H} {Q : cw_Q} {K : cw_KT} {pc nx : Nat} {L L' : cw_L} {S S' : List Value} {h h' : cw_H} {σ : cw_V} {lam : Nat → Int64}
theorem gi {p ci k : Nat} {v : Int32} (hK : cw_Kc d M h0 Q K) (hf : cw_tb M pc = some (s_get ci k nx)) (hs : cw_fR p ci k = some none) (hv : σ p k = v) (kk : K nx L (.int v :: S) (cw_B σ lam)) : K pc L (.ref p :: S) (cw_B σ lam) := st_geti hK hf hs (by rw [hv]; exact kk)
theorem ga {p n b st e : Nat} {i v : Int32} (hK : cw_Kc d M h0 Q K) (hf : cw_tb M pc = some (s_iald nx)) (hs : cw_aR p = some (0, n, b, st)) (hi : i = nI e) (he : e < n) (hn : Nat.ble n 1000 = true) (hv : σ p e = v) (kk : K nx L (.int v :: S) (cw_B σ lam)) : K pc L (.int i :: .ref p :: S) (cw_B σ lam) := by
  have hn' := Nat.le_of_ble_eq_true hn
  subst hi
  refine st_iald hK hf hs (cw_in_nI he (by omega)) ?_
  rw [nI_clamp (by omega), hv]
  exact kk
theorem sa {p n b st e : Nat} {i x : Int32} (hK : cw_Kc d M h0 Q K) (hf : cw_tb M pc = some (s_iast nx)) (hs : cw_aR p = some (0, n, b, st)) (hi : i = nI e) (he : e < n) (hn : Nat.ble n 1000 = true) (kk : K nx L S (cw_B (cw_up σ p e x) lam)) : K pc L (.int x :: .int i :: .ref p :: S) (cw_B σ lam) := by
  have hn' := Nat.le_of_ble_eq_true hn
  subst hi
  refine st_iast hK hf hs (cw_in_nI he (by omega)) ?_
  rw [nI_clamp (by omega)]
  exact kk
theorem gl {e : Nat} {i : Int32} (hK : cw_Kc d M h0 Q K) (hf : cw_tb M pc = some (s_lald nx)) (hs : cw_aR 35 = some (1, 15, 0, 0)) (hi : i = nI e) (he : e < 15) (kk : K nx L (.long (lam e) :: S) (cw_B σ lam)) : K pc L (.int i :: .ref 35 :: S) (cw_B σ lam) := by
  subst hi
  refine st_lald hK hf hs (cw_in_nI he (by decide)) ?_
  rw [nI_clamp (by omega)]
  exact kk
theorem bnv {x y v : Int32} {f : Int32 → Int32 → Int32} (hK : cw_Kc d M h0 Q K) (hf : cw_tb M pc = some (s_ibin f nx)) (hv : f x y = v) (kk : K nx L (.int v :: S) h) : K pc L (.int y :: .int x :: S) h := st_bin hK hf (by rw [hv]; exact kk)
theorem dvv {x y v : Int32} {f : Int32 → Int32 → Int32} (hK : cw_Kc d M h0 Q K) (hf : cw_tb M pc = some (s_idiv f nx)) (hy : ¬ y = 0) (hv : f x y = v) (kk : K nx L (.int v :: S) h) : K pc L (.int y :: .int x :: S) h := st_div hK hf hy (by rw [hv]; exact kk)
theorem st_ifn {sem : cw_S} {P P' : Prop} {inst : Decidable P} {t f : Nat} (hK : cw_Kc d M h0 Q K) (hf : cw_tb M pc = some sem) (hs : sem (d + 1) L S h = cw_br (@decide P inst) t f L' S' h') (hP : P ↔ P') (kt : P' → K t L' S' h') (kf : ¬ P' → K f L' S' h') : K pc L S h := st_if hK hf hs (fun c => kt (hP.mp c)) (fun c => kf (fun z => c (hP.mpr z)))
end
theorem nI_mul (a b : Nat) : nI a * nI b = nI (a * b) := (Int32.ofNat_mul a b).symm
theorem nI_dec (n : Nat) : nI (n + 1) + (-1) = nI n := by
  rw [← nI_1, Int32.add_assoc]
  show nI n + 0 = nI n
  rw [Int32.add_zero]
theorem nI_sub {a b : Nat} (h : b ≤ a) : nI a - nI b = nI (a - b) := by
  obtain ⟨c, rfl⟩ : ∃ c, a = c + b := ⟨a - b, by omega⟩
  rw [← nI_add, Int32.add_sub_cancel, Nat.add_sub_cancel]
/-- the words of bounds -/
theorem nI_rg {x M : Int32} {n : Nat} (hM : M = nI n) (hn : n < 2 ^ 31) : (0 ≤ x ∧ x ≤ M) ↔ ∃ i, i ≤ n ∧ x = nI i := by
  subst hM
  refine ⟨fun h => ?_, fun h => ?_⟩
  · obtain ⟨j, j1, rfl⟩ := nI_of (Int32.not_lt.mpr h.1)
    exact ⟨j, (nI_leI j1 hn).mp h.2, rfl⟩
  · obtain ⟨i, h1, rfl⟩ := h
    exact ⟨nI_pos' (by omega), (nI_leI (by omega) hn).mpr h1⟩
theorem mx_of {a b : Int32} : (if b < a then a else b) = mx a b := by
  unfold mx
  by_cases h : b < a
  · rw [if_pos h, if_neg (Int32.not_lt.mpr (Int32.le_of_lt h))]
  · rw [if_neg h]
    by_cases h2 : a < b
    · rw [if_pos h2]
    · rw [if_neg h2]
      exact Int32.le_antisymm (Int32.not_lt.mp h2) (Int32.not_lt.mp h)
theorem mx_ge {a b : Int32} (h : a ≤ b) : mx a b = b := by
  unfold mx
  by_cases h2 : a < b
  · rw [if_pos h2]
  · rw [if_neg h2]
    exact Int32.le_antisymm h (Int32.not_lt.mp h2)
theorem mx_le {a b : Int32} (h : ¬ a ≤ b) : mx a b = a := by
  unfold mx
  rw [if_neg (fun z => h (Int32.le_of_lt z))]
theorem mn_le {a b : Int32} (h : b ≤ a) : mn a b = b := by
  unfold mn
  by_cases h2 : b < a
  · rw [if_pos h2]
  · rw [if_neg h2]
    exact Int32.le_antisymm (Int32.not_lt.mp h2) h
theorem mn_ge {a b : Int32} (h : ¬ b ≤ a) : mn a b = a := by
  unfold mn
  rw [if_neg (fun z => h (Int32.le_of_lt z))]
/-- one number of a store after a write -/
theorem up_at {σ : cw_V} {p k q j : Nat} {x : Int32} : cw_up σ p k x q j = if q = p then (if j = k then x else σ p j) else σ q j := by
  unfold cw_up upd
  split <;> rfl
