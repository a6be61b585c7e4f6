/-! TREES, PURE -/
theorem php : ∀ (n m : Nat) (f : Nat → Nat), (∀ k, k < m → f k < n) → (∀ k k', k < m → k' < m → f k = f k' → k = k') → m ≤ n
  | 0, m, f, hb, _ => by
    rcases Nat.eq_zero_or_pos m with h | h
    · omega
    · exact absurd (hb 0 h) (by omega)
  | n + 1, 0, _, _, _ => by omega
  | n + 1, m + 1, f, hb, hi => by
    have : m ≤ n := by
      refine php n m (fun k => if f k = n then f m else f k) (fun k hk => ?_) (fun k k' hk hk' e => ?_)
      · show (if f k = n then f m else f k) < n
        by_cases h : f k = n
        · rw [if_pos h]
          have h1 := hb m (by omega)
          have h2 : f m ≠ n := fun z => by
            have := hi k m (by omega) (by omega) (h.trans z.symm)
            omega
          omega
        · rw [if_neg h]
          have := hb k (by omega)
          omega
      · have e : (if f k = n then f m else f k) = (if f k' = n then f m else f k') := e
        by_cases h : f k = n
        · rw [if_pos h] at e
          by_cases h' : f k' = n
          · exact hi k k' (by omega) (by omega) (h.trans h'.symm)
          · rw [if_neg h'] at e
            have := hi m k' (by omega) (by omega) e
            omega
        · rw [if_neg h] at e
          by_cases h' : f k' = n
          · rw [if_pos h'] at e
            have := hi k m (by omega) (by omega) e
            omega
          · rw [if_neg h'] at e
            exact hi k k' (by omega) (by omega) e
    omega
theorem nI_inj {a b : Nat} (ha : a < 2 ^ 31) (hb : b < 2 ^ 31) (e : nI a = nI b) : a = b := (nI_eq ha hb).mp e
/-- there is a node n: a sink below s, or a joint -/
def nodeN (s : Nat) (lf : Nat → Int32) (n : Nat) : Prop := n < s ∨ (8 ≤ n ∧ n < 15 ∧ lf n ≠ -1)
/-- a forest: what is not there is empty; children and joints agree; depths -/
def WFt (s : Nat) (lf rt pa : Nat → Int32) : Prop := s ≤ 8 ∧ (∀ n, n < 15 → (n < 8 ∨ lf n = -1) → lf n = -1 ∧ rt n = -1) ∧ (∀ n, n < 15 → ¬ nodeN s lf n → pa n = -1) ∧
  (∀ j, 8 ≤ j → j < 15 → lf j ≠ -1 → ∃ a b, lf j = nI a ∧ rt j = nI b ∧ nodeN s lf a ∧ nodeN s lf b ∧ a ≠ b ∧ pa a = nI j ∧ pa b = nI j) ∧
  (∀ n, nodeN s lf n → pa n ≠ -1 → ∃ j, 8 ≤ j ∧ j < 15 ∧ pa n = nI j ∧ (lf j = nI n ∨ rt j = nI n)) ∧
  ∃ ρ : Nat → Nat, ∀ n, nodeN s lf n → (pa n = -1 → ρ n = 0) ∧ ∀ j, j < 15 → pa n = nI j → ρ n = ρ j + 1
section
variable {s : Nat} {lf rt pa : Nat → Int32}
theorem nodeN.lt {n : Nat} (h : nodeN s lf n) (hs : s ≤ 8) : n < 15 := by
  rcases h with h | h <;> omega
theorem WFt.lt (h : WFt s lf rt pa) {n : Nat} (hn : nodeN s lf n) : n < 15 := hn.lt h.1
/-- the joint above a node that is no top -/
theorem WFt.up (h : WFt s lf rt pa) {n : Nat} (hn : nodeN s lf n) (hp : pa n ≠ -1) : ∃ j, 8 ≤ j ∧ j < 15 ∧ pa n = nI j ∧ lf j ≠ -1 ∧ nodeN s lf j ∧ (lf j = nI n ∨ rt j = nI n) := by
  obtain ⟨j, h1, h2, h3, h4⟩ := h.2.2.2.2.1 n hn hp
  have hlt := h.lt hn
  have hl : lf j ≠ -1 := by
    intro e
    have h5 := h.2.1 j h2 (Or.inr e)
    rcases h4 with h4 | h4
    · exact nI_ne1 (by omega) (h4.symm.trans h5.1)
    · exact nI_ne1 (by omega) (h4.symm.trans h5.2)
  exact ⟨j, h1, h2, h3, hl, Or.inr ⟨h1, h2, hl⟩, h4⟩
/-- a joint's children -/
theorem WFt.dn (h : WFt s lf rt pa) {j : Nat} (h1 : 8 ≤ j) (h2 : j < 15) (hl : lf j ≠ -1) : ∃ a b, lf j = nI a ∧ rt j = nI b ∧ nodeN s lf a ∧ nodeN s lf b ∧ a ≠ b ∧ pa a = nI j ∧ pa b = nI j := h.2.2.2.1 j h1 h2 hl
/-- going up i times, as long as there is something -/
def upN (pa : Nat → Int32) : Nat → Nat → Nat
  | 0, n => n
  | i + 1, n => upN pa i (pa n).toNatClampNeg
theorem upN_s {i n : Nat} : upN pa (i + 1) n = upN pa i (pa n).toNatClampNeg := rfl
/-- depths are below 8 -/
theorem WFt.anc (h : WFt s lf rt pa) {ρ : Nat → Nat} (hρ : ∀ n, nodeN s lf n → (pa n = -1 → ρ n = 0) ∧ ∀ j, j < 15 → pa n = nI j → ρ n = ρ j + 1) : ∀ (i n : Nat), nodeN s lf n → i ≤ ρ n → nodeN s lf (upN pa i n) ∧ ρ (upN pa i n) + i = ρ n ∧ (0 < i → 8 ≤ upN pa i n)
  | 0, n, hn, hi => ⟨hn, rfl, fun z => absurd z (by omega)⟩
  | i + 1, n, hn, hi => by
    have hp : pa n ≠ -1 := fun e => by
      have := (hρ n hn).1 e
      omega
    obtain ⟨j, j1, j2, j3, j4, j5, j6⟩ := h.up hn hp
    have e := (hρ n hn).2 j j2 j3
    rw [upN_s, j3, nI_clamp (by omega)]
    obtain ⟨q1, q2, q3⟩ := WFt.anc h hρ i j j5 (by omega)
    refine ⟨q1, by omega, fun _ => ?_⟩
    rcases Nat.eq_zero_or_pos i with z | z
    · subst z
      exact j1
    · exact q3 z
theorem WFt.depth (h : WFt s lf rt pa) {ρ : Nat → Nat} (hρ : ∀ n, nodeN s lf n → (pa n = -1 → ρ n = 0) ∧ ∀ j, j < 15 → pa n = nI j → ρ n = ρ j + 1) {n : Nat} (hn : nodeN s lf n) : ρ n ≤ 7 := by
  refine php 7 (ρ n) (fun i => upN pa (i + 1) n - 8) (fun k hk => ?_) (fun k k' hk hk' e => ?_)
  · obtain ⟨q1, q2, q3⟩ := h.anc hρ (k + 1) n hn (by omega)
    have := h.lt q1
    have := q3 (by omega)
    show upN pa (k + 1) n - 8 < 7
    omega
  · obtain ⟨q1, q2, q3⟩ := h.anc hρ (k + 1) n hn (by omega)
    obtain ⟨r1, r2, r3⟩ := h.anc hρ (k' + 1) n hn (by omega)
    have e : upN pa (k + 1) n - 8 = upN pa (k' + 1) n - 8 := e
    have := q3 (by omega)
    have := r3 (by omega)
    have e2 : upN pa (k + 1) n = upN pa (k' + 1) n := by omega
    rw [e2] at q2
    omega
/-- a free joint, where there are two tops -/
theorem WFt.free (h : WFt s lf rt pa) {a b : Nat} (ha : nodeN s lf a) (hb : nodeN s lf b) (hab : a ≠ b) (pa_a : pa a = -1) (pa_b : pa b = -1) : ∃ j, isF lf j := by
  have hex : ∃ j, 8 ≤ j ∧ j < 15 ∧ lf j = -1 := by
    apply Classical.byContradiction
    intro hno
    have hall : ∀ j, 8 ≤ j → j < 15 → lf j ≠ -1 := fun j h1 h2 e => hno ⟨j, h1, h2, e⟩
    have hch : ∀ k, k < 14 → ∃ c, nodeN s lf c ∧ pa c = nI (8 + k / 2) ∧ (if k % 2 = 0 then lf (8 + k / 2) else rt (8 + k / 2)) = nI c := by
      intro k hk
      obtain ⟨x, y, e1, e2, n1, n2, n3, p1, p2⟩ := h.dn (j := 8 + k / 2) (by omega) (by omega) (hall _ (by omega) (by omega))
      by_cases hz : k % 2 = 0
      · exact ⟨x, n1, p1, by rw [if_pos hz]; exact e1⟩
      · exact ⟨y, n2, p2, by rw [if_neg hz]; exact e2⟩
    have hf : ∃ f : Nat → Nat, ∀ k, k < 14 → nodeN s lf (f k) ∧ pa (f k) = nI (8 + k / 2) ∧ (if k % 2 = 0 then lf (8 + k / 2) else rt (8 + k / 2)) = nI (f k) :=
      ⟨fun k => if hk : k < 14 then (hch k hk).choose else 0, fun k hk => by
        show nodeN s lf (if hk : k < 14 then (hch k hk).choose else 0) ∧ pa (if hk : k < 14 then (hch k hk).choose else 0) = _ ∧ _ = nI (if hk : k < 14 then (hch k hk).choose else 0)
        rw [dif_pos hk]
        exact (hch k hk).choose_spec⟩
    obtain ⟨f, hf⟩ := hf
    have := php 15 16 (fun k => if k < 14 then f k else if k = 14 then a else b) (fun k hk => ?_) (fun k k' hk hk' e => ?_)
    · omega
    · show (if k < 14 then f k else if k = 14 then a else b) < 15
      split
      · rename_i z
        exact h.lt (hf k z).1
      · split
        · exact h.lt ha
        · exact h.lt hb
    · have e : (if k < 14 then f k else if k = 14 then a else b) = (if k' < 14 then f k' else if k' = 14 then a else b) := e
      have key : ∀ k, k < 14 → f k ≠ a ∧ f k ≠ b := fun k hk => by
        have := (hf k hk).2.1
        refine ⟨fun z => ?_, fun z => ?_⟩
        · rw [z, pa_a] at this
          exact nI_ne1 (by omega) this.symm
        · rw [z, pa_b] at this
          exact nI_ne1 (by omega) this.symm
      by_cases z : k < 14
      · rw [if_pos z] at e
        by_cases z' : k' < 14
        · rw [if_pos z'] at e
          obtain ⟨u1, u2, u3⟩ := hf k z
          obtain ⟨v1, v2, v3⟩ := hf k' z'
          rw [e] at u2 u3
          have e2 : 8 + k / 2 = 8 + k' / 2 := nI_inj (by omega) (by omega) (u2.symm.trans v2)
          have e3 : k / 2 = k' / 2 := by omega
          rw [e2] at u3
          obtain ⟨x, y, e1, e4, n1, n2, n3, p1, p2⟩ := h.dn (j := 8 + k' / 2) (by omega) (by omega) (hall _ (by omega) (by omega))
          rw [e1, e4] at u3 v3
          by_cases w : k % 2 = 0
          · by_cases w' : k' % 2 = 0
            · omega
            · rw [if_pos w] at u3
              rw [if_neg w'] at v3
              exact absurd (nI_inj (by have := h.lt n1; omega) (by have := h.lt n2; omega) (u3.trans v3.symm)) n3
          · by_cases w' : k' % 2 = 0
            · rw [if_neg w] at u3
              rw [if_pos w'] at v3
              exact absurd (nI_inj (by have := h.lt n1; omega) (by have := h.lt n2; omega) (v3.trans u3.symm)) n3
            · omega
        · rw [if_neg z'] at e
          by_cases w : k' = 14
          · rw [if_pos w] at e
            exact absurd e (key k z).1
          · rw [if_neg w] at e
            exact absurd e (key k z).2
      · rw [if_neg z] at e
        by_cases z' : k' < 14
        · rw [if_pos z'] at e
          by_cases w : k = 14
          · rw [if_pos w] at e
            exact absurd e.symm (key k' z').1
          · rw [if_neg w] at e
            exact absurd e.symm (key k' z').2
        · rw [if_neg z'] at e
          by_cases w : k = 14
          · by_cases w' : k' = 14
            · omega
            · rw [if_pos w, if_neg w'] at e
              exact absurd e hab
          · by_cases w' : k' = 14
            · rw [if_neg w, if_pos w'] at e
              exact absurd e.symm hab
            · omega
  obtain ⟨j, hj, hmin⟩ := pk_least (fun j => 8 ≤ j ∧ j < 15 ∧ lf j = -1) hex
  exact ⟨j, ⟨hj.1, hj.2.1⟩, hj.2.2, fun i h1 h2 e => hmin i h2 ⟨h1, by omega, e⟩⟩
end
