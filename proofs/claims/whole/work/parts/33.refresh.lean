/-! REFRESHED: what is kept of the tree, and that refresh() makes it so -/
/-- the same rows -/
def SR (σ τ : cw_V) (t : Nat) : Prop := ∀ i, i ≤ 8 → τ (t + i) = σ (t + i)
section
variable {σ τ : cw_V} {t s : Nat}
theorem SR.z (h : SR σ τ t) : τ t = σ t := h 0 (by decide)
theorem SR.jB (h : SR σ τ t) {m : Int32} : hJointB τ t m = hJointB σ t m := by unfold hJointB; rw [h 6 (by decide)]
theorem SR.nB (h : SR σ τ t) {m : Int32} : hNodeB τ t m = hNodeB σ t m := by unfold hNodeB; rw [h 6 (by decide), h.z]
theorem SR.node (h : SR σ τ t) {m : Int32} : hNode τ t m ↔ hNode σ t m := hNode_eq (congrFun h.z 8) (h 6 (by decide))
theorem SR.joint (h : SR σ τ t) {m : Int32} : hJoint τ t m ↔ hJoint σ t m := hJoint_eq (h 6 (by decide))
theorem SR.sink (h : SR σ τ t) {m : Int32} : hSink τ t m ↔ hSink σ t m := by unfold hSink; rw [h.z]
theorem SR.top (h : SR σ τ t) {m : Int32} : hTop τ t m ↔ hTop σ t m := hTop_eq (congrFun h.z 8) (h 6 (by decide)) (h 8 (by decide))
theorem SR.tB (h : SR σ τ t) {n : Nat} : topB τ t n = topB σ t n := by unfold topB; rw [h.nB, h 8 (by decide)]
theorem SR.tl (h : SR σ τ t) : ∀ m, tlF τ t m = tlF σ t m
  | 0 => rfl
  | m + 1 => by unfold tlF; rw [SR.tl h m, h.tB]
theorem SR.bf (h : SR σ τ t) : ∀ (f i : Nat) (D : List Int32), bf τ t f i D = bf σ t f i D
  | 0, _, _ => rfl
  | f + 1, i, D => by
    cases e : D[i]? with
    | none =>
      have hl : D.length ≤ i := by
        rcases Nat.lt_or_ge i D.length with z | z
        · rw [List.getElem?_eq_getElem z] at e
          cases e
        · exact z
      rw [bf_0 hl, bf_0 hl]
    | some n => rw [bf_s e, bf_s e, h.jB, h 6 (by decide), h 7 (by decide), SR.bf h f (i + 1)]
theorem SR.dn (h : SR σ τ t) : dnF τ t = dnF σ t := by unfold dnF; rw [h.tl, h.bf]
theorem SR.lf (h : SR σ τ t) {m : Int32} : lfT τ t m = lfT σ t m := by unfold lfT; rw [h 6 (by decide)]
theorem SR.rt (h : SR σ τ t) {m : Int32} : rtT τ t m = rtT σ t m := by unfold rtT; rw [h 7 (by decide)]
theorem SR.sk (h : SR σ τ t) : skT τ t = skT σ t := by unfold skT; rw [h.z]
theorem SR.po (h : SR σ τ t) {m : Int32} : pof τ t m = pof σ t m := by unfold pof; rw [h.nB, h 8 (by decide)]
theorem SR.vf (h : SR σ τ t) : ∀ (f : Nat) (m : Int32), Vf τ t f m = Vf σ t f m
  | 0, _ => rfl
  | f + 1, m => by rw [Vf, Vf, h.jB, h.lf, h.rt, h.sk, SR.vf h f, SR.vf h f, h 1 (by decide), h 2 (by decide), h 3 (by decide), h 4 (by decide)]
theorem SR.uv (h : SR σ τ t) : UV τ t = UV σ t := by funext m; exact h.vf 9 m
theorem SR.wr (h : SR σ τ t) {U : Int32 → Nat → Int32} {m : Int32} : wrF τ t U m = wrF σ t U m := by unfold wrF; rw [h.po, h.lf, h.rt, h.sk]
theorem SR.wr' (h : SR σ τ t) {U : Int32 → Nat → Int32} : wrF τ t U = wrF σ t U := by funext m; exact h.wr
theorem SR.wf (h : SR σ τ t) (hW : WF σ t s) : WF τ t s := by
  unfold WF
  rw [h 6 (by decide), h 7 (by decide), h 8 (by decide), h.z]
  exact hW
theorem SR.su (h : SR σ τ 1) : suF τ = suF σ := by unfold suF; rw [h.z]
theorem SR.sv (h : SR σ τ 1) : svF' τ = svF' σ := by unfold svF'; rw [h.z]
theorem SR.ef (h : SR σ τ 1) {U : Int32 → Nat → Int32} {wr : Int32 → Int32} : ∀ (f : Nat) (m : Int32), Ef τ U wr f m = Ef σ U wr f m
  | 0, _ => rfl
  | f + 1, m => by rw [Ef, Ef, h.po, h.su, h.sv, SR.ef h f]
theorem SR.symm (h : SR σ τ t) : SR τ σ t := fun i hi => (h i hi).symm
end
/-- the wires at w are those of the tree at t -/
def MD (σ : cw_V) (w t : Nat) : Prop := (σ w 4 = nI (dnF σ t).length ∧ σ w 5 = nI (tlF σ t 15).length ∧ ∀ j, j < (dnF σ t).length → σ (w + 4) j = (dnF σ t).getD j 0) ∧
  (∀ k, k < (dnF σ t).length → ev9 (σ (pp w ((dnF σ t).getD k 0))) (UV σ t ((dnF σ t).getD k 0))) ∧ (∀ k, (tlF σ t 15).length ≤ k → k < (dnF σ t).length → σ (pp w ((dnF σ t).getD k 0)) 6 = wrF σ t (UV σ t) ((dnF σ t).getD k 0)) ∧
  (∀ k, k < (tlF σ t 15).length → σ (pp w ((dnF σ t).getD k 0)) 6 = -1) ∧ σ w 6 = scF (UV σ t) (dnF σ t) (tlF σ t 15).length
/-- where the main tree is whole, its places -/
def Ev (σ : cw_V) : Int32 → Nat → Int32 := EV σ (UV σ 1) (wrF σ 1 (UV σ 1))
def Evd (σ : cw_V) : Int32 → Int64 := EVd σ (UV σ 1) (wrF σ 1 (UV σ 1))
def arE (σ : cw_V) (k : Nat) : Int32 := Ev σ (nI k) 3 + σ (1 + 3) k * 65536
def PD (σ : cw_V) (lam : Nat → Int64) (s : Nat) : Prop := ((tlF σ 1 15).length ≠ 1 → σ 30 5 = 0) ∧ ((tlF σ 1 15).length = 1 → σ 30 5 = 1 ∧ 0 < s ∧ σ 30 6 = Ev σ ((dnF σ 1).getD 0 0) 3 ∧ σ 30 7 = lsF (Ev σ) (dnF σ 1) (dnF σ 1).length ∧ σ 30 8 = lcF (Ev σ) (dnF σ 1) (dnF σ 1).length ∧
  (∀ k, k < (dnF σ 1).length → σ 31 (nd ((dnF σ 1).getD k 0)) = Ev σ ((dnF σ 1).getD k 0) 0 ∧ σ 32 (nd ((dnF σ 1).getD k 0)) = Ev σ ((dnF σ 1).getD k 0) 1 ∧ σ 33 (nd ((dnF σ 1).getD k 0)) = Ev σ ((dnF σ 1).getD k 0) 2 ∧ σ 34 (nd ((dnF σ 1).getD k 0)) = Ev σ ((dnF σ 1).getD k 0) 3 ∧ lam (nd ((dnF σ 1).getD k 0)) = Evd σ ((dnF σ 1).getD k 0)) ∧
  σ 30 9 = (sprF (arE σ) (s - 1) 1 (arE σ 0, arE σ 0)).2 - (sprF (arE σ) (s - 1) 1 (arE σ 0, arE σ 0)).1)
section
variable {d w t s : Nat} {σ τ : cw_V} {lam : Nat → Int64} {Q : cw_Q}
/-- measured, from its own rows -/
theorem MS.md (hW : WF σ t s) (hw : isW w) (ht : isT t) (h : MS σ τ w t (dnF σ t) (tlF σ t 15).length (UV σ t)) : SR σ τ t ∧ MD τ w t := by
  have hs : SR σ τ t := fun i hi => h.1.row hw ht hi
  refine ⟨hs, ?_⟩
  unfold MD
  rw [hs.dn, hs.tl, hs.uv, hs.wr']
  exact ⟨h.1.2.1, fun k hk => h.1.2.2.1 k (Nat.zero_le _) hk, fun k h1 h2 => h.wire hW h1 h2, h.2.1, h.2.2⟩
theorem z_measure' (hW : WF σ t s) (hw : isW w) (ht : isT t) (kk : ∀ τ, SR σ τ t → MD τ w t → (∀ p, (p < w ∨ w + 19 < p) → τ p = σ p) → Q none (cw_B τ lam)) : cw_Z (d + 4) m_Wires_measure [.ref w, .ref t] (cw_B σ lam) Q :=
  z_measure hw ht (dn_GD hW) (UV_lab hW) (fun τ h => kk τ (h.md hW hw ht).1 (h.md hW hw ht).2 h.1.1)
theorem WF.pos (hW : WF σ t s) (h : 0 < (dnF σ t).length) : 0 < s := by
  obtain ⟨b1, b2, b3, b4, b5, b6⟩ := dn_ok hW
  obtain ⟨n, a, b, c⟩ := b1 ((dnF σ t).length - 1) (by omega)
  rcases c with c | c
  · omega
  · exfalso
    have hj : hJoint σ t ((dnF σ t).getD ((dnF σ t).length - 1) 0) := by rw [b]; exact (hJoint_nI c.1 c.2.1).mpr c.2.2
    obtain ⟨ka, kb, a1, a2, _⟩ := b5 _ (by omega) (by omega) hj
    omega
theorem z_embed (hW : WF σ 1 s) (hM : MD σ 10 1) (kk : ∀ τ lam', SR σ τ 1 → (∀ p, (p < 30 ∨ 34 < p) → τ p = σ p) → PD τ lam' s → Q none (cw_B τ lam')) : cw_Z (d + 4) m_Places_embed [.ref 30, .ref 1, .ref 10] (cw_B σ lam) Q := by
  have hB := dn_ok hW
  have hG := dn_GD hW
  by_cases htc : (tlF σ 1 15).length = 1
  · have hpos : 0 < (dnF σ 1).length := by have := hG.1.2; omega
    have hs := hW.pos hpos
    obtain ⟨n, a, b, c⟩ := hB.1 0 hpos
    have htop : σ (1 + 8) n = -1 := by
      have := hB.2.2.1.2 0 (by omega)
      rw [b, show nd (nI n) = n from nI_clamp (by omega)] at this
      exact this
    have hE := EV_lab hW (U := UV σ 1) (wr := wrF σ 1 (UV σ 1)) c htop
    rw [← b] at hE
    refine z_embed1 (D := dnF σ 1) (U := UV σ 1) (E := Ev σ) (Ed := Evd σ) (wr := wrF σ 1 (UV σ 1)) (s := s) (by rw [hM.1.2.1, htc]; rfl) hM.1.1 hG.1.1 hpos hM.1.2.2 hG.2.1 hG.2.2.2.1 (fun i h1 h2 => dn_par hW (by omega) h2) hM.2.1 (fun k h1 h2 => hM.2.2.1 k (by omega) h2) hE hW.1 hW.2.1 hs (fun k hk => dn_all hW (Or.inl hk)) (fun τ lam' hI h9 => ?_)
    have hsr : SR σ τ 1 := fun i hi => hI.1 _ (by omega)
    refine kk τ lam' hsr hI.1 ?_
    have eE : Ev τ = Ev σ := by
      unfold Ev
      rw [hsr.uv, hsr.wr']
      funext m
      unfold EV
      rw [hsr.ef]
    have eEd : Evd τ = Evd σ := by
      unfold Evd
      rw [hsr.uv, hsr.wr']
      funext m
      unfold EVd
      rw [hsr.ef]
    have ear : arE τ = arE σ := by
      funext k
      unfold arE
      rw [eE, hsr 3 (by decide)]
    unfold PD
    rw [hsr.tl, hsr.dn, eE, eEd, ear]
    refine ⟨fun z => absurd htc z, fun _ => ⟨hI.2.1, hs, hI.2.2.1, hI.2.2.2.1, hI.2.2.2.2.1, hI.2.2.2.2.2, ?_⟩⟩
    exact h9
  · refine z_embed0 hM.1.2.1 (by have := hG.1; omega) htc ?_
    have hsr : SR σ (cw_up σ 30 5 0) 1 := fun i hi => up_ne (by omega)
    refine kk _ lam hsr (fun p hp => up_ne (by omega)) ?_
    unfold PD
    rw [hsr.tl]
    exact ⟨fun _ => by rw [up_eq, upd_eq], fun z => absurd z htc⟩
end
