/-! THE INVARIANT -/
/-- the order of touching: each sink once -/
def PM (f : Nat → Int32) (s : Nat) : Prop := (∀ i, i < s → ∃ k, k < s ∧ f i = nI k) ∧ (∀ i j, i < s → j < s → f i = f j → i = j) ∧ ∀ k, k < s → ∃ i, i < s ∧ f i = nI k
theorem PM.cg {f g : Nat → Int32} {s : Nat} (h : PM f s) (e : ∀ i, i < s → g i = f i) : PM g s := by
  refine ⟨fun i hi => ?_, fun i j hi hj z => ?_, fun k hk => ?_⟩
  · rw [e i hi]; exact h.1 i hi
  · rw [e i hi, e j hj] at z; exact h.2.1 i j hi hj z
  · obtain ⟨i, hi, q⟩ := h.2.2 k hk
    exact ⟨i, hi, by rw [e i hi, q]⟩
def GT (σ : cw_V) (t s : Nat) : Prop := WF σ t s ∧ VR σ t s ∧ PM (σ (t + 5)) s
abbrev TT : Type := (Nat → Int32) × (Nat → Int32) × (Nat → Int32)
/-- a tree's rows over the ends of the main tree -/
def vT (σ : cw_V) (T : TT) : cw_V := fun p => if p = 7 then T.1 else if p = 8 then T.2.1 else if p = 9 then T.2.2 else if p ≤ 6 then σ p else fun _ => 0
def insT (k n : Nat) (T : TT) : TT := (gL T.1 (7 + k) n, gR T.2.1 (7 + k) n k, gP T.2.2 (7 + k) n k)
def T0 : TT := (fun _ => -1, fun _ => -1, fun _ => -1)
def cnt (a : Int32 × Int32) (c : Int32) : Int32 × Int32 := if a.2 = 0 ∨ c < a.1 then (c, 1) else if c = a.1 then (a.1, a.2 + 1) else a
/-- the nodes of a tree of k sinks -/
def asc (k : Nat) : List Nat := List.range k ++ (List.range (k - 1)).map (8 + ·)
def gw (C : TT → Int32) : Nat → Nat → TT → Int32 × Int32 → Int32 × Int32
  | 0, _, T, a => cnt a (C T)
  | r + 1, k, T, a => (asc k).foldl (fun a n => gw C r (k + 1) (insT k n T) a) a
def LK (σ : cw_V) (s : Nat) : Prop := σ 36 2 = 0 ∨ σ 36 2 = 1 ∧ 0 < s ∧ s ≤ 6 ∧ ∃ x, (σ 36 3, σ 36 4) = gw (fun T => costOf (vT σ T) 1) (s - 1) 1 T0 (x, 0)
def upF (f : Nat → Int32) (x : Nat) : Nat := (f x + 1).toNatClampNeg
def ndF (s : Nat) (f : Nat → Int32) (x : Nat) : Nat := if x < s ∨ (8 ≤ x ∧ f x ≠ -1) then 1 else 0
/-- the i-th that the model keeps is the tree at t -/
def KV (σ : cw_V) (i t s : Nat) : Prop := (σ 155 (88 * i) = σ t 8 ∧ σ 155 (88 * i + 1) = σ t 9 ∧ σ 155 (88 * i + 2) = σ t 10 ∧ σ 155 (88 * i + 3) = σ t 11 ∧ σ 155 (88 * i + 4) = nI s) ∧ (∀ k, k < 8 → σ 155 (88 * i + 5 + k) = σ (t + 5) k) ∧ (∀ x, x < 15 → σ 155 (88 * i + 13 + x) = nI (ndF s (σ (t + 6)) x + 2 * upF (σ (t + 6)) x + 64 * upF (σ (t + 7)) x + 2048 * upF (σ (t + 8)) x)) ∧ ∀ k, k < 8 → σ 155 (88 * i + 28 + 4 * k) = σ (t + 1) k ∧ σ 155 (88 * i + 28 + (4 * k + 1)) = σ (t + 2) k ∧ σ 155 (88 * i + 28 + (4 * k + 2)) = σ (t + 3) k ∧ σ 155 (88 * i + 28 + (4 * k + 3)) = σ (t + 4) k
abbrev slot (nx c i : Nat) : Nat := 68 + 9 * ((nx + 8 - c + i) % 8)
def HI (σ : cw_V) (nx c : Nat) : Prop := (nx < 8 ∧ c ≤ 8 ∧ σ 66 1 = nI nx ∧ σ 66 2 = nI c ∧ σ 146 13 = nI c) ∧ ∀ i, i < c → ∃ s, GT σ (slot nx c i) s ∧ KV σ i (slot nx c i) s
def TX (σ : cw_V) (n : Nat) : Prop := n ≤ 60 ∧ σ 140 5 = nI n ∧ σ 146 36 = nI n ∧ ∀ j, j < n → σ 170 j = σ 141 j ∧ 0 ≤ (σ 141 j).toInt ∧ (σ 141 j).toInt ≤ 127
def CN (σ : cw_V) : Prop := σ 147 0 = σ 0 6 ∧ σ 147 1 = σ 0 7 ∧ σ 147 2 = σ 0 8
def INV (σ : cw_V) (lam : Nat → Int64) (s nx c n : Nat) : Prop := (GT σ 1 s ∧ MD σ 10 1 ∧ PD σ lam s ∧ LK σ s) ∧ (MW σ s ∧ TE (mv σ) 1 σ 1 ∧ σ 146 6 = nI s) ∧ CN σ ∧ HI σ nx c ∧ TX σ n
def Inv (σ : cw_V) (lam : Nat → Int64) : Prop := ∃ s nx c n, INV σ lam s nx c n
section
variable {σ τ υ : cw_V} {lam lam' : Nat → Int64} {s s' nx c n t u i : Nat}
theorem TE.gt (h : TE τ t σ u) (hG : GT σ u s) : GT τ t s := by
  have h8 := hG.1.2.1
  exact ⟨h.wf hG.1, h.vr h8 hG.2.1, hG.2.2.cg (fun i hi => h.lo (i := 5) (by decide) (by decide) (by omega))⟩
theorem SR.ev (h : SR σ τ 1) : Ev τ = Ev σ := by
  funext m
  unfold Ev EV
  rw [h.uv, h.wr', h.ef]
theorem SR.evd (h : SR σ τ 1) : Evd τ = Evd σ := by
  funext m
  unfold Evd EVd
  rw [h.uv, h.wr', h.ef]
theorem SR.are (h : SR σ τ 1) : arE τ = arE σ := by
  funext k
  unfold arE
  rw [h.ev, h 3 (by decide)]
theorem MD.cg (hW : WF σ 1 s) (h : SR σ τ 1) (h10 : ∀ p, 10 ≤ p → p ≤ 29 → p ≠ 13 → τ p = σ p) (hM : MD σ 10 1) : MD τ 10 1 := by
  obtain ⟨⟨a1, a2, a3⟩, b, c, e, f⟩ := hM
  have hg := dn_GD hW
  have nd15 : ∀ k, k < (dnF σ 1).length → nd ((dnF σ 1).getD k 0) < 15 := fun k hk => nd_lt15 (hg.2.1 k hk).1 (hg.2.1 k hk).2.1
  have pq : ∀ k, k < (dnF σ 1).length → τ (pp 10 ((dnF σ 1).getD k 0)) = σ (pp 10 ((dnF σ 1).getD k 0)) := fun k hk => h10 _ (by unfold pp; omega) (by have := nd15 k hk; unfold pp; omega) (by unfold pp; omega)
  unfold MD
  rw [h.dn, h.tl, h.uv, h.wr', h10 10 (by decide) (by decide) (by decide), h10 (10 + 4) (by decide) (by decide) (by decide)]
  refine ⟨⟨a1, a2, a3⟩, fun k hk => by rw [pq k hk]; exact b k hk, fun k h1 h2 => by rw [pq k h2]; exact c k h1 h2, fun k hk => by rw [pq k (Nat.lt_of_lt_of_le hk hg.1.2)]; exact e k hk, f⟩
theorem PD.cg (h : SR σ τ 1) (h30 : ∀ p, 30 ≤ p → p ≤ 34 → τ p = σ p) (hP : PD σ lam s) : PD τ lam s := by
  unfold PD
  rw [h.dn, h.tl, h.ev, h.evd, h.are, h30 30 (by decide) (by decide), h30 31 (by decide) (by decide), h30 32 (by decide) (by decide), h30 33 (by decide) (by decide), h30 34 (by decide) (by decide)]
  exact hP
theorem vT_cg (h : ∀ p, p ≤ 6 → τ p = σ p) : vT τ = vT σ := by
  funext T p
  unfold vT
  by_cases z : p ≤ 6
  · rw [h p z]
  · rw [if_neg z, if_neg z]
theorem LK.cg (h : ∀ p, p ≤ 6 → τ p = σ p) (h36 : τ 36 = σ 36) (hL : LK σ s) : LK τ s := by
  unfold LK
  rw [h36, vT_cg h]
  exact hL
theorem KV.cg (h1 : ∀ k, k < 60 → τ 155 (88 * i + k) = σ 155 (88 * u + k)) (h2 : TE τ t σ n) (h8 : s ≤ 8) (hK : KV σ u n s) : KV τ i t s := by
  obtain ⟨⟨a0, a1, a2, a3, a4⟩, b, e, f⟩ := hK
  have g6 : ∀ x, x < 15 → τ (t + 6) x = σ (n + 6) x := fun x hx => h2.hi (i := 6) (by decide) (by decide) hx
  have g7 : ∀ x, x < 15 → τ (t + 7) x = σ (n + 7) x := fun x hx => h2.hi (i := 7) (by decide) (by decide) hx
  have g9 : ∀ x, x < 15 → τ (t + 8) x = σ (n + 8) x := fun x hx => h2.hi (i := 8) (by decide) (by decide) hx
  refine ⟨⟨?_, ?_, ?_, ?_, ?_⟩, fun k hk => ?_, fun x hx => ?_, fun k hk => ⟨?_, ?_, ?_, ?_⟩⟩
  · rw [h2.e8]; exact (h1 0 (by decide)).trans a0
  · rw [h2.e9]; exact (h1 1 (by decide)).trans a1
  · rw [h2.2.2 10 (by decide) (by decide)]; exact (h1 2 (by decide)).trans a2
  · rw [h2.2.2 11 (by decide) (by decide)]; exact (h1 3 (by decide)).trans a3
  · exact (h1 4 (by decide)).trans a4
  · rw [h2.lo (i := 5) (by decide) (by decide) hk, Nat.add_assoc, h1 (5 + k) (by omega), ← Nat.add_assoc]; exact b k hk
  · unfold ndF upF
    rw [g6 x hx, g7 x hx, g9 x hx, Nat.add_assoc, h1 (13 + x) (by omega), ← Nat.add_assoc]
    exact e x hx
  · rw [h2.lo (i := 1) (by decide) (by decide) hk, Nat.add_assoc, h1 (28 + 4 * k) (by omega), ← Nat.add_assoc]; exact (f k hk).1
  · rw [h2.lo (i := 2) (by decide) (by decide) hk, Nat.add_assoc, h1 (28 + (4 * k + 1)) (by omega), ← Nat.add_assoc]; exact (f k hk).2.1
  · rw [h2.lo (i := 3) (by decide) (by decide) hk, Nat.add_assoc, h1 (28 + (4 * k + 2)) (by omega), ← Nat.add_assoc]; exact (f k hk).2.2.1
  · rw [h2.lo (i := 4) (by decide) (by decide) hk, Nat.add_assoc, h1 (28 + (4 * k + 3)) (by omega), ← Nat.add_assoc]; exact (f k hk).2.2.2
theorem te_of (h : ∀ j, j ≤ 8 → τ (t + j) = σ (t + j)) : TE τ t σ t := SR.te (fun i hi => h i hi)
theorem HI.cg (h66 : τ 66 = σ 66) (h13 : τ 146 13 = σ 146 13) (hs : ∀ p, 68 ≤ p → p ≤ 139 → τ p = σ p) (hk : ∀ j, j < 704 → τ 155 j = σ 155 j) (hH : HI σ nx c) : HI τ nx c := by
  obtain ⟨⟨a1, a2, a3, a4, a5⟩, b⟩ := hH
  refine ⟨⟨a1, a2, by rw [h66, a3], by rw [h66, a4], by rw [h13, a5]⟩, fun i hi => ?_⟩
  obtain ⟨s, g, k⟩ := b i hi
  have te : TE τ (slot nx c i) σ (slot nx c i) := te_of (fun j hj => hs _ (by unfold slot; omega) (by unfold slot; omega))
  exact ⟨s, te.gt g, k.cg (fun k hk' => hk _ (by omega)) te g.1.2.1⟩
theorem TX.cg (h1 : τ 140 5 = σ 140 5) (h2 : τ 146 36 = σ 146 36) (h3 : ∀ j, j < 60 → τ 170 j = σ 170 j) (h4 : ∀ j, j < 60 → τ 141 j = σ 141 j) (hT : TX σ n) : TX τ n := by
  obtain ⟨a, b, c, e⟩ := hT
  refine ⟨a, by rw [h1, b], by rw [h2, c], fun j hj => ?_⟩
  rw [h3 j (by omega), h4 j (by omega)]
  exact e j hj
theorem mv_cg (h : ∀ k, k < 13 → τ 146 k = σ 146 k) (h2 : ∀ p, 148 ≤ p → p ≤ 153 → τ p = σ p) : mv τ = mv σ := by
  funext p
  unfold mv
  rw [h 1 (by decide), h 3 (by decide), h 4 (by decide), h 5 (by decide), h2 148 (by decide) (by decide), h2 149 (by decide) (by decide), h2 151 (by decide) (by decide), h2 152 (by decide) (by decide), h2 153 (by decide) (by decide)]
theorem MW.cg (h : τ 146 1 = σ 146 1) (h2 : ∀ p, 150 ≤ p → p ≤ 153 → τ p = σ p) (hM : MW σ s) : MW τ s := by
  unfold MW
  rw [h, h2 150 (by decide) (by decide), h2 151 (by decide) (by decide), h2 152 (by decide) (by decide), h2 153 (by decide) (by decide)]
  exact hM
/-- nothing has changed but scratch -/
def SC (σ τ : cw_V) : Prop := (∀ p, (p < 13 ∨ (13 < p ∧ p < 37) ∨ (65 < p ∧ p < 140) ∨ p = 141 ∨ (146 < p ∧ p < 154) ∨ p = 155 ∨ p = 170) → τ p = σ p) ∧ τ 140 5 = σ 140 5 ∧ ∀ k, (k < 25 ∨ k = 36) → τ 146 k = σ 146 k
theorem SC.rf : SC σ σ := ⟨fun _ _ => rfl, rfl, fun _ _ => rfl⟩
theorem SC.trans (h : SC σ τ) (h' : SC τ υ) : SC σ υ := ⟨fun p hp => (h'.1 p hp).trans (h.1 p hp), h'.2.1.trans h.2.1, fun k hk => (h'.2.2 k hk).trans (h.2.2 k hk)⟩
theorem SC.inv (h : SC σ τ) (hI : INV σ lam s nx c n) : INV τ lam s nx c n := by
  obtain ⟨⟨g, md, pd, lk⟩, ⟨mw, te, e6⟩, ⟨c0, c1, c2⟩, hi, tx⟩ := hI
  have sr : SR σ τ 1 := fun i hi => h.1 _ (by omega)
  have emv : mv τ = mv σ := mv_cg (fun k hk => h.2.2 k (by omega)) (fun p h1 h2 => h.1 p (by omega))
  refine ⟨⟨sr.te.gt g, md.cg g.1 sr (fun p h1 h2 h3 => h.1 p (by omega)), pd.cg sr (fun p h1 h2 => h.1 p (by omega)), lk.cg (fun p hp => h.1 p (by omega)) (h.1 36 (by omega))⟩, ⟨mw.cg (h.2.2 1 (by omega)) (fun p h1 h2 => h.1 p (by omega)), ?_, (h.2.2 6 (by omega)).trans e6⟩, ⟨?_, ?_, ?_⟩, hi.cg (h.1 66 (by omega)) (h.2.2 13 (by omega)) (fun p h1 h2 => h.1 p (by omega)) (fun j _ => congrFun (h.1 155 (by omega)) j), tx.cg h.2.1 (h.2.2 36 (by omega)) (fun j _ => congrFun (h.1 170 (by omega)) j) (fun j _ => congrFun (h.1 141 (by omega)) j)⟩
  · rw [emv]; exact te.trans sr.te.symm
  · rw [h.1 147 (by omega), h.1 0 (by omega)]; exact c0
  · rw [h.1 147 (by omega), h.1 0 (by omega)]; exact c1
  · rw [h.1 147 (by omega), h.1 0 (by omega)]; exact c2
/-- a refused call -/
theorem INV.err (hI : INV σ lam s nx c n) {k : Nat} (hk : k < 3) : INV (cw_up (cw_up σ 0 (6 + k) (σ 0 (6 + k) + 1)) 147 k (cw_up σ 0 (6 + k) (σ 0 (6 + k) + 1) 147 k + 1)) lam s nx c n := by
  obtain ⟨⟨g, md, pd, lk⟩, ⟨mw, te, e6⟩, ⟨c0, c1, c2⟩, hi, tx⟩ := hI
  have ne : ∀ p, p ≠ 0 → p ≠ 147 → ∀ x y, cw_up (cw_up σ 0 (6 + k) x) 147 k y p = σ p := fun p p0 p1 x y => by rw [up_ne p1, up_ne p0]
  have sr : ∀ x y, SR σ (cw_up (cw_up σ 0 (6 + k) x) 147 k y) 1 := fun x y i hi => ne _ (by omega) (by omega) x y
  have emv : ∀ x y, mv (cw_up (cw_up σ 0 (6 + k) x) 147 k y) = mv σ := fun x y => mv_cg (fun k hk => by rw [ne 146 (by decide) (by decide)]) (fun p h1 h2 => ne p (by omega) (by omega) x y)
  have lk' : ∀ x y, LK (cw_up (cw_up σ 0 (6 + k) x) 147 k y) s := fun x y => by
    unfold LK
    have ev : vT (cw_up (cw_up σ 0 (6 + k) x) 147 k y) = fun T p => if p = 0 then vT (cw_up (cw_up σ 0 (6 + k) x) 147 k y) T 0 else vT σ T p := by
      funext T p
      by_cases z : p = 0
      · subst z; rfl
      · rw [if_neg z]
        unfold vT
        by_cases q : p ≤ 6
        · rw [ne p z (by omega)]
        · rw [if_neg q, if_neg q]
    have ec : (fun T => costOf (vT (cw_up (cw_up σ 0 (6 + k) x) 147 k y) T) 1) = fun T => costOf (vT σ T) 1 := by
      funext T
      have sr2 : SR (vT σ T) (vT (cw_up (cw_up σ 0 (6 + k) x) 147 k y) T) 1 := fun i hi => by
        rw [ev]
        show (if 1 + i = 0 then _ else _) = _
        rw [if_neg (by omega)]
      unfold costOf
      rw [sr2.uv, sr2.tl]
    rw [ec, ne 36 (by decide) (by decide)]
    exact lk
  refine ⟨⟨(sr _ _).te.gt g, md.cg g.1 (sr _ _) (fun p h1 h2 h3 => ne _ (by omega) (by omega) _ _), pd.cg (sr _ _) (fun p h1 h2 => ne _ (by omega) (by omega) _ _), lk' _ _⟩, ⟨mw.cg (by rw [ne 146 (by decide) (by decide)]) (fun p h1 h2 => ne _ (by omega) (by omega) _ _), ?_, by rw [ne 146 (by decide) (by decide)]; exact e6⟩, ?_, hi.cg (ne _ (by omega) (by omega) _ _) (by rw [ne 146 (by decide) (by decide)]) (fun p h1 h2 => ne _ (by omega) (by omega) _ _) (fun j _ => by rw [ne 155 (by decide) (by decide)]), tx.cg (by rw [ne 140 (by decide) (by decide)]) (by rw [ne 146 (by decide) (by decide)]) (fun j _ => by rw [ne 170 (by decide) (by decide)]) (fun j _ => by rw [ne 141 (by decide) (by decide)])⟩
  · rw [emv]; exact te.trans (sr _ _).te.symm
  · unfold CN
    rcases (show k = 0 ∨ k = 1 ∨ k = 2 by omega) with rfl | rfl | rfl
    · simp [up_at, c0, c1, c2]
    · simp [up_at, c0, c1, c2]
    · simp [up_at, c0, c1, c2]
end
