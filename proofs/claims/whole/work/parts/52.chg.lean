/-! A CALL THAT CHANGES THE STATE -/
section
variable {σ τ υ : cw_V} {lam lam' : Nat → Int64} {s s' nx c n t u i : Nat}
theorem up_1 {f : Nat → Int32} {x : Nat} (h : f x = -1 ∨ ∃ a, a < 15 ∧ f x = nI a) : upF f x < 16 ∧ f x + 1 = nI (upF f x) ∧ nI (upF f x) - 1 = f x := by
  have key : ∃ a, a < 16 ∧ f x + 1 = nI a := by
    rcases h with z | ⟨a, h1, h2⟩
    · exact ⟨0, by decide, by rw [z]; rfl⟩
    · exact ⟨a + 1, by omega, by rw [h2, nI_1]⟩
  obtain ⟨a, h1, h2⟩ := key
  have e : upF f x = a := by unfold upF; rw [h2, nI_clamp (by omega)]
  rw [e, ← h2]
  exact ⟨h1, rfl, Int32.add_sub_cancel _ _⟩
theorem WFt.lr {lf rt pa : Nat → Int32} (h : WFt s lf rt pa) {x : Nat} (hx : x < 15) : (lf x = -1 ∨ ∃ a, a < 15 ∧ lf x = nI a) ∧ (rt x = -1 ∨ ∃ a, a < 15 ∧ rt x = nI a) ∧ (pa x = -1 ∨ ∃ a, a < 15 ∧ pa x = nI a) := by
  refine ⟨?_, ?_, ?_⟩
  · by_cases z : lf x = -1
    · exact Or.inl z
    · by_cases q : x < 8
      · exact Or.inl (h.2.1 x hx (Or.inl q)).1
      · obtain ⟨a, b, ea, eb, na, nb, -⟩ := h.dn (by omega) hx z
        exact Or.inr ⟨a, h.lt na, ea⟩
  · by_cases z : lf x = -1
    · exact Or.inl (h.2.1 x hx (Or.inr z)).2
    · by_cases q : x < 8
      · exact Or.inl (h.2.1 x hx (Or.inl q)).2
      · obtain ⟨a, b, ea, eb, na, nb, -⟩ := h.dn (by omega) hx z
        exact Or.inr ⟨b, h.lt nb, eb⟩
  · by_cases z : pa x = -1
    · exact Or.inl z
    · rcases Classical.em (nodeN s lf x) with q | q
      · obtain ⟨j, j8, j15, j1, -⟩ := h.up q z
        exact Or.inr ⟨j, j15, j1⟩
      · exact absurd (h.2.2.1 x hx q) z
theorem nd_of {f : Nat → Int32} {x : Nat} (hx : x < 15) : (nodeN s f x → ndF s f x = 1) ∧ (¬ nodeN s f x → ndF s f x = 0) := by
  unfold ndF
  refine ⟨fun h => if_pos ?_, fun h => if_neg ?_⟩
  · rcases h with z | z
    · exact Or.inl z
    · exact Or.inr ⟨z.1, z.2.2⟩
  · rintro (z | z)
    · exact h (Or.inl z)
    · exact h (Or.inr ⟨z.1, hx, z.2⟩)
/-- what the class does: the tree is saved, changed, measured and embedded -/
def CHG (σ τ : cw_V) (lam' : Nat → Int64) (s' nx c : Nat) : Prop := (∀ p, (p = 0 ∨ 139 < p) → τ p = σ p) ∧ ((∀ p, 67 ≤ p → p ≤ 139 → (p < 68 + 9 * nx ∨ 68 + 9 * nx + 8 < p) → τ p = σ p) ∧ TE τ (68 + 9 * nx) σ 1 ∧ τ 66 1 = nI ((nx + 1) % 8) ∧ τ 66 2 = nI (if c = 8 then 8 else c + 1)) ∧ GT τ 1 s' ∧ MD τ 10 1 ∧ PD τ lam' s' ∧ LK τ s'
/-- what the model does: its state is kept, then changed -/
def MCH (σ τ : cw_V) (s' c : Nat) : Prop := (∀ p, p < 146 → τ p = σ p) ∧ τ 147 = σ 147 ∧ τ 170 = σ 170 ∧ τ 146 36 = σ 146 36 ∧ τ 146 13 = nI (if c = 8 then 8 else c + 1) ∧ ((∀ j, j < 88 * (if c = 8 then 7 else c) → τ 155 j = σ 155 (if c = 8 then j + 88 else j)) ∧ ∀ k, k < 60 → τ 155 (88 * (if c = 8 then 7 else c) + k) = kpF σ k) ∧ MW τ s' ∧ τ 146 6 = nI s'
theorem kp_kv (hM : MW σ s) (h6 : σ 146 6 = nI s) (hT : TE (mv σ) 1 τ t) (hk : ∀ k, k < 60 → τ 155 (88 * i + k) = kpF σ k) : KV τ i t s := by
  have hW := hM.2.1
  refine ⟨⟨?_, ?_, ?_, ?_, ?_⟩, fun k hk' => ?_, fun x hx => ?_, fun k hk' => ⟨?_, ?_, ?_, ?_⟩⟩
  · exact (hk 0 (by decide)).trans hT.e8
  · exact (hk 1 (by decide)).trans hT.e9
  · exact (hk 2 (by decide)).trans (hT.2.2 10 (by decide) (by decide))
  · exact (hk 3 (by decide)).trans (hT.2.2 11 (by decide) (by decide))
  · exact (hk 4 (by decide)).trans h6
  · rw [Nat.add_assoc, hk (5 + k) (by omega), kp_l hk']
    exact hT.lo (i := 5) (by decide) (by decide) hk'
  · rw [Nat.add_assoc, hk (13 + x) (by omega), kp_p hx]
    have e6 : σ 151 x = τ (t + 6) x := hT.hi (i := 6) (by decide) (by decide) hx
    have e7 : σ 152 x = τ (t + 7) x := hT.hi (i := 7) (by decide) (by decide) hx
    have e9 : σ 153 x = τ (t + 8) x := hT.hi (i := 8) (by decide) (by decide) hx
    obtain ⟨w1, w2, w3⟩ := hW.lr hx
    have u1 := up_1 w1
    have u2 := up_1 w2
    have u3 := up_1 w3
    have ei : σ 150 x = nI (ndF s (σ 151) x) := by
      rcases Classical.em (nodeN s (σ 151) x) with z | z
      · rw [(hM.2.2 x hx).1 z, (nd_of hx).1 z]; rfl
      · rw [(hM.2.2 x hx).2 z, (nd_of hx).2 z]; rfl
    have f6 : upF (τ (t + 6)) x = upF (σ 151) x := by unfold upF; rw [e6]
    have f7 : upF (τ (t + 7)) x = upF (σ 152) x := by unfold upF; rw [e7]
    have f9 : upF (τ (t + 8)) x = upF (σ 153) x := by unfold upF; rw [e9]
    have fn : ndF s (τ (t + 6)) x = ndF s (σ 151) x := by unfold ndF; rw [e6]
    rw [f6, f7, f9, fn]
    unfold pkF
    rw [ei, u1.2.1, u2.2.1, u3.2.1, show (2 : Int32) = nI 2 from rfl, show (64 : Int32) = nI 64 from rfl, show (2048 : Int32) = nI 2048 from rfl, nI_mul, nI_mul, nI_mul, nI_add, nI_add, nI_add]
  · rw [Nat.add_assoc, hk (28 + 4 * k) (by omega), kp_e]
    exact hT.lo (i := 1) (by decide) (by decide) hk'
  · rw [Nat.add_assoc, hk (28 + (4 * k + 1)) (by omega), kp_e]
    exact hT.lo (i := 2) (by decide) (by decide) hk'
  · rw [Nat.add_assoc, hk (28 + (4 * k + 2)) (by omega), kp_e]
    exact hT.lo (i := 3) (by decide) (by decide) hk'
  · rw [Nat.add_assoc, hk (28 + (4 * k + 3)) (by omega), kp_e]
    exact hT.lo (i := 4) (by decide) (by decide) hk'
theorem INV.chg (hI : INV σ lam s nx c n) (hC : CHG σ τ lam' s' nx c) (hM : MCH τ υ s' c) (hT : TE (mv υ) 1 τ 1) : INV υ lam' s' ((nx + 1) % 8) (if c = 8 then 8 else c + 1) n := by
  obtain ⟨⟨g, md, pd, lk⟩, ⟨mw, te, e6⟩, ⟨c0, c1, c2⟩, ⟨⟨i1, i2, i3, i4, i5⟩, hi⟩, tx⟩ := hI
  obtain ⟨q0, ⟨q1, q2, q3, q4⟩, q5, q6, q7, q8⟩ := hC
  obtain ⟨r0, r1, r2, r3, r4, ⟨r5, r6⟩, r7, r8⟩ := hM
  have sr : SR τ υ 1 := fun i hi => r0 _ (by omega)
  have mt : ∀ k, kpF τ k = kpF σ k := fun k => by
    unfold kpF pkF
    rw [q0 146 (by omega), q0 148 (by omega), q0 149 (by omega), q0 150 (by omega), q0 151 (by omega), q0 152 (by omega), q0 153 (by omega)]
  refine ⟨⟨sr.te.gt q5, q6.cg q5.1 sr (fun p h1 h2 h3 => r0 p (by omega)), q7.cg sr (fun p h1 h2 => r0 p (by omega)), q8.cg (fun p hp => r0 p (by omega)) (r0 36 (by omega))⟩, ⟨r7, hT.trans sr.te.symm, r8⟩, ⟨?_, ?_, ?_⟩, ⟨⟨Nat.mod_lt _ (by decide), by split <;> omega, by rw [r0 66 (by omega)]; exact q3, by rw [r0 66 (by omega)]; exact q4, r4⟩, fun i hlt => ?_⟩, tx.cg (by rw [r0 140 (by omega), q0 140 (by omega)]) (by rw [r3, q0 146 (by omega)]) (fun j _ => by rw [r2, q0 170 (by omega)]) (fun j _ => by rw [r0 141 (by omega), q0 141 (by omega)])⟩
  · rw [r1, q0 147 (by omega), r0 0 (by omega), q0 0 (by omega)]; exact c0
  · rw [r1, q0 147 (by omega), r0 0 (by omega), q0 0 (by omega)]; exact c1
  · rw [r1, q0 147 (by omega), r0 0 (by omega), q0 0 (by omega)]; exact c2
  · by_cases last : i = (if c = 8 then 7 else c)
    · have es : slot ((nx + 1) % 8) (if c = 8 then 8 else c + 1) i = 68 + 9 * nx := by
        unfold slot
        split at last <;> rename_i z
        · rw [if_pos z]; omega
        · rw [if_neg z]; omega
      rw [es]
      have te2 : TE υ (68 + 9 * nx) σ 1 := (te_of (fun j hj => r0 _ (by omega))).trans q2
      refine ⟨s, te2.gt g, kp_kv mw e6 (te.trans te2.symm) (fun k hk => ?_)⟩
      rw [last, r6 k hk, mt k]
    · have hic : i < (if c = 8 then 7 else c) := by
        split at last <;> rename_i z
        · rw [if_pos z] at hlt ⊢; omega
        · rw [if_neg z] at hlt ⊢; omega
      have es : slot ((nx + 1) % 8) (if c = 8 then 8 else c + 1) i = slot nx c (if c = 8 then i + 1 else i) := by
        unfold slot
        by_cases z : c = 8
        · rw [if_pos z, if_pos z]; omega
        · rw [if_neg z, if_neg z]; omega
      have hic2 : (if c = 8 then i + 1 else i) < c := by
        by_cases z : c = 8
        · rw [if_pos z] at hic ⊢; omega
        · rw [if_neg z] at hic ⊢; omega
      obtain ⟨s1, g1, k1⟩ := hi _ hic2
      have off : slot nx c (if c = 8 then i + 1 else i) + 8 < 68 + 9 * nx ∨ 68 + 9 * nx + 8 < slot nx c (if c = 8 then i + 1 else i) := by
        unfold slot
        by_cases z : c = 8
        · rw [if_pos z] at hic ⊢; omega
        · rw [if_neg z] at hic ⊢; omega
      have te1 : TE υ (slot nx c (if c = 8 then i + 1 else i)) σ (slot nx c (if c = 8 then i + 1 else i)) := te_of (fun j hj => by
        have b1 : slot nx c (if c = 8 then i + 1 else i) + j ≤ 139 := by unfold slot; omega
        have b2 : 68 ≤ slot nx c (if c = 8 then i + 1 else i) + j := by unfold slot; omega
        rw [r0 _ (by omega), q1 _ (by omega) b1 (by omega)])
      rw [es]
      refine ⟨s1, te1.gt g1, k1.cg (fun k hk => ?_) te1 g1.1.2.1⟩
      have hj : 88 * i + k < 88 * (if c = 8 then 7 else c) := by
        by_cases z : c = 8
        · rw [if_pos z] at hic ⊢; omega
        · rw [if_neg z] at hic ⊢; omega
      rw [r5 _ hj, q0 155 (by omega)]
      by_cases z : c = 8
      · rw [if_pos z, if_pos z]
        congr 1
        omega
      · rw [if_neg z, if_neg z]
end
