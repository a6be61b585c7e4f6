/-! THE MODEL'S TREE -/
section
variable {s : Nat} {lf rt pa : Nat → Int32}
theorem gL_0 {j n : Nat} (only : ∀ x, x < 15 → lf x ≠ nI n) : ∀ x, x < 15 → upd lf j (nI n) x = gL lf j n x := by
  intro x hx
  have := only x hx
  unfold gL upd
  grind
theorem gL_l {j n p : Nat} (hl : lf p = nI n) (pj : p ≠ j) (only : ∀ x, x < 15 → lf x = nI n → x = p) : ∀ x, x < 15 → upd (upd lf p (nI j)) j (nI n) x = gL lf j n x := by
  intro x hx
  have := only x hx
  unfold gL upd
  grind
theorem gR_r {j n p k : Nat} (hl : rt p = nI n) (pj : p ≠ j) (only : ∀ x, x < 15 → rt x = nI n → x = p) : ∀ x, x < 15 → upd (upd rt p (nI j)) j (nI k) x = gR rt j n k x := by
  intro x hx
  have := only x hx
  unfold gR upd
  grind
theorem gR_0 {j n k : Nat} (only : ∀ x, x < 15 → rt x ≠ nI n) : ∀ x, x < 15 → upd rt j (nI k) x = gR rt j n k x := by
  intro x hx
  have := only x hx
  unfold gR upd
  grind
theorem gP_m {j n k : Nat} {y : Int32} (jn : j ≠ n) (jk : j ≠ k) (nk : n ≠ k) (hy : y = pa n) : ∀ x, upd (upd (upd (upd pa j (-1)) j y) n (nI j)) k (nI j) x = gP pa j n k x := by
  intro x
  unfold gP upd
  grind
theorem cF_0 {p o : Nat} (only : ∀ x, x < 15 → lf x ≠ nI p) : ∀ x, x < 15 → upd lf p (-1) x = cF lf p o x := by
  intro x hx
  have := only x hx
  unfold cF upd
  grind
theorem cF_1 {p o q : Nat} (hl : lf q = nI p) (qp : q ≠ p) (only : ∀ x, x < 15 → lf x = nI p → x = q) : ∀ x, x < 15 → upd (upd lf q (nI o)) p (-1) x = cF lf p o x := by
  intro x hx
  have := only x hx
  unfold cF upd
  grind
theorem cP_m {p o n : Nat} {y : Int32} (op : o ≠ p) (on : o ≠ n) (np : n ≠ p) (hy : y = pa p) : ∀ x, upd (upd (upd pa o y) n (-1)) p (-1) x = cP pa p n o x := by
  intro x
  unfold cP upd
  grind
theorem cP_c {p o n : Nat} {y : Int32} (op : o ≠ p) (on : o ≠ n) (np : n ≠ p) (hy : y = pa p) : ∀ x, upd (upd (upd pa o y) p (-1)) n (-1) x = cP pa p n o x := by
  intro x
  unfold cP upd
  grind
theorem xF_0 {a b : Nat} (oa : ∀ x, x < 15 → lf x ≠ nI a) (ob : ∀ x, x < 15 → lf x ≠ nI b) : ∀ x, x < 15 → lf x = xF lf a b x := by
  intro x hx
  have := oa x hx
  have := ob x hx
  unfold xF
  grind
theorem xF_a {a b p : Nat} (hl : lf p = nI a) (oa : ∀ x, x < 15 → lf x = nI a → x = p) (ob : ∀ x, x < 15 → lf x ≠ nI b) : ∀ x, x < 15 → upd lf p (nI b) x = xF lf a b x := by
  intro x hx
  have := oa x hx
  have := ob x hx
  unfold xF upd
  grind
theorem xF_b {a b q : Nat} (hl : lf q = nI b) (oa : ∀ x, x < 15 → lf x ≠ nI a) (ob : ∀ x, x < 15 → lf x = nI b → x = q) : ∀ x, x < 15 → upd lf q (nI a) x = xF lf a b x := by
  intro x hx
  have := oa x hx
  have := ob x hx
  unfold xF upd
  grind
theorem xF_ab {a b p q : Nat} (hl : lf p = nI a) (hr : lf q = nI b) (pq : p ≠ q) (hab : nI a ≠ nI b) (oa : ∀ x, x < 15 → lf x = nI a → x = p) (ob : ∀ x, x < 15 → lf x = nI b → x = q) : ∀ x, x < 15 → upd (upd lf p (nI b)) q (nI a) x = xF lf a b x := by
  intro x hx
  have := oa x hx
  have := ob x hx
  unfold xF upd
  grind
theorem xP_m {a b : Nat} {y z : Int32} (hy : y = pa b) (hz : z = pa a) (ab : a ≠ b) : ∀ x, upd (upd pa a y) b z x = xP pa a b x := by
  intro x
  unfold xP upd
  grind
theorem xP_c {a b : Nat} {y z : Int32} (hy : y = pa b) (hz : z = pa a) (ab : a ≠ b) : ∀ x, upd (upd pa b z) a y x = xP pa a b x := by
  intro x
  unfold xP upd
  grind
theorem nodeN_g {j n x : Nat} (j8 : 8 ≤ j) (j15 : j < 15) (hn : n < 15) : nodeN s (gL lf j n) x ↔ (nodeN s lf x ∨ x = j) := by
  have a1 := nI_ne1 (j := n) (by omega)
  have a2 := nI_ne1 (j := j) (by omega)
  unfold nodeN gL
  grind
theorem nodeN_c {p o x : Nat} (ho : o < 15) (p8 : 8 ≤ p) (p15 : p < 15) (hs : s ≤ 8) : nodeN s (cF lf p o) x ↔ (nodeN s lf x ∧ x ≠ p) := by
  have a1 := nI_ne1 (j := o) (by omega)
  have a2 := nI_ne1 (j := p) (by omega)
  unfold nodeN cF
  grind
theorem nodeN_x {a b x : Nat} (ha : a < 15) (hb : b < 15) : nodeN s (xF lf a b) x ↔ nodeN s lf x := by
  have a1 := nI_ne1 (j := a) (by omega)
  have a2 := nI_ne1 (j := b) (by omega)
  unfold nodeN xF
  grind
end
/-- the model's tree: how many ends, its rows a forest, what is there -/
def MW (σ : cw_V) (s : Nat) : Prop := σ 146 1 = nI s ∧ WFt s (σ 151) (σ 152) (σ 153) ∧ ∀ n, n < 15 → (nodeN s (σ 151) n → σ 150 n = 1) ∧ (¬ nodeN s (σ 151) n → σ 150 n = 0)
/-- its rows become f, g, h -/
def MTR (σ τ : cw_V) (f g h : Nat → Int32) : Prop := (∀ p, (p < 150 ∨ 153 < p) → τ p = σ p) ∧ (∀ x, x < 15 → τ 151 x = f x) ∧ (∀ x, x < 15 → τ 152 x = g x) ∧ ∀ x, x < 15 → τ 153 x = h x
theorem nodeN_congr {s : Nat} {f g : Nat → Int32} (h : ∀ x, x < 15 → f x = g x) {n : Nat} : nodeN s f n ↔ nodeN s g n := by
  unfold nodeN
  constructor
  · rintro (z | ⟨z1, z2, z3⟩)
    · exact Or.inl z
    · exact Or.inr ⟨z1, z2, by rw [← h n z2]; exact z3⟩
  · rintro (z | ⟨z1, z2, z3⟩)
    · exact Or.inl z
    · exact Or.inr ⟨z1, z2, by rw [h n z2]; exact z3⟩
theorem MTR.mw {σ τ : cw_V} {f g h : Nat → Int32} {s : Nat} (hT : MTR σ τ f g h) (h1 : σ 146 1 = nI s) (hW : WFt s f g h) (hI : ∀ n, n < 15 → (nodeN s f n → τ 150 n = 1) ∧ (¬ nodeN s f n → τ 150 n = 0)) : MW τ s := by
  refine ⟨by rw [hT.1 146 (by omega)]; exact h1, hW.congr hT.2.1 hT.2.2.1 hT.2.2.2, fun n hn => ?_⟩
  rw [nodeN_congr hT.2.1]
  exact hI n hn
theorem MW.is1 {σ : cw_V} {s n : Nat} (h : MW σ s) (hn : n < 15) : σ 150 n = 1 ↔ nodeN s (σ 151) n := by
  refine ⟨fun z => ?_, (h.2.2 n hn).1⟩
  rcases Classical.em (nodeN s (σ 151) n) with q | q
  · exact q
  · rw [(h.2.2 n hn).2 q] at z
    exact absurd z (by decide)
section
variable {d s : Nat} {σ : cw_V} {lam : Nat → Int64} {Q : cw_Q} {ρ : Nat → Nat}
theorem MW.freeI (hM : MW σ s) {j : Nat} (hj : isF (σ 151) j) : σ 150 j ≠ 1 ∧ ∀ i, 8 ≤ i → i < j → σ 150 i = 1 := by
  obtain ⟨⟨j8, j15⟩, jf, jl⟩ := hj
  refine ⟨fun z => ?_, fun i i1 i2 => (hM.is1 (by omega)).mpr (Or.inr ⟨i1, by omega, jl i i1 i2⟩)⟩
  rcases (hM.is1 j15).mp z with q | q
  · have := hM.2.1.1
    omega
  · exact q.2.2 jf
theorem z_lays (hM : MW σ s) {j n k : Nat} (hj : isF (σ 151) j) (hn : nodeN s (σ 151) n) (hk : nodeN s (σ 151) k) (hkt : σ 153 k = -1) (hρ : Dep s (σ 151) (σ 153) ρ) (hnk : ¬ Inr (σ 153) ρ n k) (kk : ∀ τ, MW τ s → MTR σ τ (gL (σ 151) j n) (gR (σ 152) j n k) (gP (σ 153) j n k) → Q (some (.int (nI j))) (cw_B τ lam)) : cw_Z (d + 2) m_Mo_lays [.ref 146, .int (nI n), .int (nI k)] (cw_B σ lam) Q := by
  obtain ⟨f0, f1⟩ := hM.freeI hj
  have hW' := hM.2.1.graft hj hn hk hkt hρ hnk
  obtain ⟨⟨j8, j15⟩, jf, -⟩ := hj
  have hW := hM.2.1
  have ln := hW.lt hn
  have lk := hW.lt hk
  have jn : ¬ nodeN s (σ 151) j := by
    rintro (z | z)
    · have := hW.1
      omega
    · exact z.2.2 jf
  have j_n : j ≠ n := fun e => jn (e ▸ hn)
  have j_k : j ≠ k := fun e => jn (e ▸ hk)
  have n_k : n ≠ k := fun e => hnk (e ▸ Inr.rf)
  have only := fun x (hx : x < 15) h => hW.only (x := x) (n := n) hx hn h
  have fin : ∀ τ, MTR σ τ (gL (σ 151) j n) (gR (σ 152) j n k) (gP (σ 153) j n k) → τ 150 = upd (σ 150) j 1 → Q (some (.int (nI j))) (cw_B τ lam) := by
    intro τ hT h150
    refine kk τ (hT.mw hM.1 hW' (fun x hx => ?_)) hT
    rw [nodeN_g j8 j15 ln, h150]
    have := hM.2.2 x hx
    unfold upd
    grind
  refine zi (L := [some (.ref 146), some (.int (nI n)), some (.int (nI k)), none]) rfl rfl (fun K hK => ?_)
  by_cases hp : σ 153 n = -1
  · skip
    refine st_go hK rfl rfl ?_
    refine cv0 hK rfl qc_146 (Nat.le_of_ble_eq_true rfl) ?_
    refine z_comes j8 j15 f0 f1 ?_
    change K _ _ (_ :: _) _
    refine st_go hK rfl rfl ?_
    change K _ [some (.ref 146), some (.int (nI n)), some (.int (nI k)), some (.int (nI j))] _ _
    refine st_go hK rfl rfl ?_
    refine st_go hK rfl rfl ?_
    refine st_go hK rfl rfl ?_
    refine cv2 hK rfl qc_146 (Nat.le_of_ble_eq_true rfl) ?_
    refine z_repl0 ln j15 (by rw [up_eq, upd_ne (Ne.symm j_n), up_ne (by decide)]; exact hp) ?_
    change K _ _ _ _
    refine st_go hK rfl rfl ?_
    refine st_getr hK rfl qf_146_9 ?_
    refine st_go hK rfl rfl ?_
    refine st_go hK rfl rfl ?_
    refine sa (e := j) hK rfl qa_151 rfl (by omega) rfl ?_
    refine st_go hK rfl rfl ?_
    refine st_getr hK rfl qf_146_10 ?_
    refine st_go hK rfl rfl ?_
    refine st_go hK rfl rfl ?_
    refine sa (e := j) hK rfl qa_152 rfl (by omega) rfl ?_
    refine st_go hK rfl rfl ?_
    refine st_getr hK rfl qf_146_11 ?_
    refine st_go hK rfl rfl ?_
    refine st_go hK rfl rfl ?_
    refine sa (e := n) hK rfl qa_153 rfl (by omega) rfl ?_
    refine st_go hK rfl rfl ?_
    refine st_getr hK rfl qf_146_11 ?_
    refine st_go hK rfl rfl ?_
    refine st_go hK rfl rfl ?_
    refine sa (e := k) hK rfl qa_153 rfl (by omega) rfl ?_
    refine st_go hK rfl rfl ?_
    refine st_ret hK rfl rfl ?_
    refine fin _ ⟨fun p hp => ?_, gL_0 (fun x hx z => nI_ne1 (by omega) ((only x hx (Or.inl z)).1.symm.trans hp)), gR_0 (fun x hx z => nI_ne1 (by omega) ((only x hx (Or.inr z)).1.symm.trans hp)), fun x _ => gP_m j_n j_k n_k hp.symm x⟩ rfl
    simp only [cw_up]
    rw [if_neg (by omega), if_neg (by omega), if_neg (by omega), if_neg (by omega), if_neg (by omega), if_neg (by omega), if_neg (by omega)]
  · obtain ⟨p, p1, p2, p3, p4, p5, p6⟩ := hW.up hn hp
    have pj : p ≠ j := fun z => jn (z ▸ p5)
    obtain ⟨a, b, ea, eb, na, nb, nab, pa_a, pa_b⟩ := hW.dn p1 p2 p4
    have la := hW.lt na
    have lb := hW.lt nb
    have onlyp : ∀ x, x < 15 → (σ 151 x = nI n ∨ σ 152 x = nI n) → x = p := fun x hx h => nI_inj (by omega) (by omega) ((only x hx h).1.symm.trans p3)
    by_cases e : σ 151 p = nI n
    · have hrt : σ 152 p ≠ nI n := fun z => nab (nI_inj (by omega) (by omega) (ea.symm.trans (e.trans (z.symm.trans eb))))
      refine st_go hK rfl rfl ?_
      refine cv0 hK rfl qc_146 (Nat.le_of_ble_eq_true rfl) ?_
      refine z_comes j8 j15 f0 f1 ?_
      change K _ _ (_ :: _) _
      refine st_go hK rfl rfl ?_
      change K _ [some (.ref 146), some (.int (nI n)), some (.int (nI k)), some (.int (nI j))] _ _
      refine st_go hK rfl rfl ?_
      refine st_go hK rfl rfl ?_
      refine st_go hK rfl rfl ?_
      refine cv2 hK rfl qc_146 (Nat.le_of_ble_eq_true rfl) ?_
      refine z_repl1 ln j15 p2 (by rw [up_eq, upd_ne (Ne.symm j_n), up_ne (by decide)]; exact p3) (fun _ => ?_) (fun c => absurd (by rw [up_ne (by decide), up_ne (by decide)]; exact e) c)
      change K _ _ _ _
      refine st_go hK rfl rfl ?_
      refine st_getr hK rfl qf_146_9 ?_
      refine st_go hK rfl rfl ?_
      refine st_go hK rfl rfl ?_
      refine sa (e := j) hK rfl qa_151 rfl (by omega) rfl ?_
      refine st_go hK rfl rfl ?_
      refine st_getr hK rfl qf_146_10 ?_
      refine st_go hK rfl rfl ?_
      refine st_go hK rfl rfl ?_
      refine sa (e := j) hK rfl qa_152 rfl (by omega) rfl ?_
      refine st_go hK rfl rfl ?_
      refine st_getr hK rfl qf_146_11 ?_
      refine st_go hK rfl rfl ?_
      refine st_go hK rfl rfl ?_
      refine sa (e := n) hK rfl qa_153 rfl (by omega) rfl ?_
      refine st_go hK rfl rfl ?_
      refine st_getr hK rfl qf_146_11 ?_
      refine st_go hK rfl rfl ?_
      refine st_go hK rfl rfl ?_
      refine sa (e := k) hK rfl qa_153 rfl (by omega) rfl ?_
      refine st_go hK rfl rfl ?_
      refine st_ret hK rfl rfl ?_
      refine fin _ ⟨fun p hp => ?_, gL_l e pj (fun x hx z => onlyp x hx (Or.inl z)), gR_0 (fun x hx z => hrt (onlyp x hx (Or.inr z) ▸ z)), fun x _ => gP_m j_n j_k n_k p3.symm x⟩ rfl
      simp only [cw_up]
      rw [if_neg (by omega), if_neg (by omega), if_neg (by omega), if_neg (by omega), if_neg (by omega), if_neg (by omega), if_neg (by omega), if_neg (by omega)]
    · have er : σ 152 p = nI n := p6.resolve_left e
      refine st_go hK rfl rfl ?_
      refine cv0 hK rfl qc_146 (Nat.le_of_ble_eq_true rfl) ?_
      refine z_comes j8 j15 f0 f1 ?_
      change K _ _ (_ :: _) _
      refine st_go hK rfl rfl ?_
      change K _ [some (.ref 146), some (.int (nI n)), some (.int (nI k)), some (.int (nI j))] _ _
      refine st_go hK rfl rfl ?_
      refine st_go hK rfl rfl ?_
      refine st_go hK rfl rfl ?_
      refine cv2 hK rfl qc_146 (Nat.le_of_ble_eq_true rfl) ?_
      refine z_repl1 ln j15 p2 (by rw [up_eq, upd_ne (Ne.symm j_n), up_ne (by decide)]; exact p3) (fun c => absurd (by rw [up_ne (by decide), up_ne (by decide)] at c; exact c) e) (fun _ => ?_)
      change K _ _ _ _
      refine st_go hK rfl rfl ?_
      refine st_getr hK rfl qf_146_9 ?_
      refine st_go hK rfl rfl ?_
      refine st_go hK rfl rfl ?_
      refine sa (e := j) hK rfl qa_151 rfl (by omega) rfl ?_
      refine st_go hK rfl rfl ?_
      refine st_getr hK rfl qf_146_10 ?_
      refine st_go hK rfl rfl ?_
      refine st_go hK rfl rfl ?_
      refine sa (e := j) hK rfl qa_152 rfl (by omega) rfl ?_
      refine st_go hK rfl rfl ?_
      refine st_getr hK rfl qf_146_11 ?_
      refine st_go hK rfl rfl ?_
      refine st_go hK rfl rfl ?_
      refine sa (e := n) hK rfl qa_153 rfl (by omega) rfl ?_
      refine st_go hK rfl rfl ?_
      refine st_getr hK rfl qf_146_11 ?_
      refine st_go hK rfl rfl ?_
      refine st_go hK rfl rfl ?_
      refine sa (e := k) hK rfl qa_153 rfl (by omega) rfl ?_
      refine st_go hK rfl rfl ?_
      refine st_ret hK rfl rfl ?_
      refine fin _ ⟨fun p hp => ?_, gL_0 (fun x hx z => e (onlyp x hx (Or.inl z) ▸ z)), gR_r er pj (fun x hx z => onlyp x hx (Or.inr z)), fun x _ => gP_m j_n j_k n_k p3.symm x⟩ rfl
      simp only [cw_up]
      rw [if_neg (by omega), if_neg (by omega), if_neg (by omega), if_neg (by omega), if_neg (by omega), if_neg (by omega), if_neg (by omega), if_neg (by omega)]
end

