/-! A FOREST STAYS A FOREST -/
noncomputable def cif (P : Prop) (a b : Nat) : Nat := @ite Nat P (Classical.propDecidable P) a b
theorem cif_p {P : Prop} {a b : Nat} (h : P) : cif P a b = a := if_pos h
theorem cif_n {P : Prop} {a b : Nat} (h : ¬ P) : cif P a b = b := if_neg h
theorem cif_iff {P P' : Prop} {a b : Nat} (h : P ↔ P') : cif P a b = cif P' a b := by
  by_cases z : P
  · rw [cif_p z, cif_p (h.mp z)]
  · rw [cif_n z, cif_n (fun y => z (h.mpr y))]
/-- a is n or above n -/
def Inr (pa : Nat → Int32) (ρ : Nat → Nat) (x a : Nat) : Prop := ∃ i, i ≤ ρ x ∧ upN pa i x = a
/-- depths -/
def Dep (s : Nat) (lf pa : Nat → Int32) (ρ : Nat → Nat) : Prop := ∀ n, nodeN s lf n → (pa n = -1 → ρ n = 0) ∧ ∀ j, j < 15 → pa n = nI j → ρ n = ρ j + 1
section
variable {s : Nat} {lf rt pa : Nat → Int32} {ρ : Nat → Nat}
theorem Inr.rf {x : Nat} : Inr pa ρ x x := ⟨0, Nat.zero_le _, rfl⟩
theorem Inr.top (hρ : Dep s lf pa ρ) {x a : Nat} (hx : nodeN s lf x) (hp : pa x = -1) : Inr pa ρ x a ↔ x = a := by
  constructor
  · rintro ⟨i, h1, h2⟩
    have := (hρ x hx).1 hp
    have : i = 0 := by omega
    subst this
    exact h2
  · rintro rfl
    exact Inr.rf
theorem Inr.st (hρ : Dep s lf pa ρ) {x a j : Nat} (hx : nodeN s lf x) (hj : j < 15) (hp : pa x = nI j) : Inr pa ρ x a ↔ x = a ∨ Inr pa ρ j a := by
  have e := (hρ x hx).2 j hj hp
  constructor
  · rintro ⟨i, h1, h2⟩
    cases i with
    | zero => exact Or.inl h2
    | succ i =>
      rw [upN_s, hp, nI_clamp (by omega)] at h2
      exact Or.inr ⟨i, by omega, h2⟩
  · rintro (rfl | ⟨i, h1, h2⟩)
    · exact Inr.rf
    · exact ⟨i + 1, by omega, by rw [upN_s, hp, nI_clamp (by omega)]; exact h2⟩
theorem Inr.le (hW : WFt s lf rt pa) (hρ : Dep s lf pa ρ) {x a : Nat} (hx : nodeN s lf x) (h : Inr pa ρ x a) : ρ a ≤ ρ x := by
  obtain ⟨i, h1, h2⟩ := h
  have := hW.anc hρ i x hx h1
  rw [h2] at this
  omega
theorem WFt.congr {lf' rt' pa' : Nat → Int32} (hW : WFt s lf rt pa) (h1 : ∀ x, x < 15 → lf' x = lf x) (h2 : ∀ x, x < 15 → rt' x = rt x) (h3 : ∀ x, x < 15 → pa' x = pa x) : WFt s lf' rt' pa' := by
  have hn : ∀ n, nodeN s lf' n ↔ nodeN s lf n := by
    intro n
    unfold nodeN
    constructor
    · rintro (h | ⟨a, b, c⟩)
      · exact Or.inl h
      · exact Or.inr ⟨a, b, by rw [← h1 n b]; exact c⟩
    · rintro (h | ⟨a, b, c⟩)
      · exact Or.inl h
      · exact Or.inr ⟨a, b, by rw [h1 n b]; exact c⟩
  obtain ⟨w0, w1, w2, w3, w4, ρ, w5⟩ := id hW
  refine ⟨w0, fun n hn' h => ?_, fun n hn' h => ?_, fun j j8 j15 hl => ?_, fun n hN hp => ?_, ρ, fun n hN => ?_⟩
  · rw [h1 n hn', h2 n hn']
    rw [h1 n hn'] at h
    exact w1 n hn' h
  · rw [h3 n hn']
    exact w2 n hn' (fun z => h ((hn n).mpr z))
  · rw [h1 j j15] at hl
    obtain ⟨a, b, ea, eb, na, nb, nab, pa_a, pa_b⟩ := w3 j j8 j15 hl
    exact ⟨a, b, by rw [h1 j j15]; exact ea, by rw [h2 j j15]; exact eb, (hn a).mpr na, (hn b).mpr nb, nab, by rw [h3 a (hW.lt na)]; exact pa_a, by rw [h3 b (hW.lt nb)]; exact pa_b⟩
  · have hN' := (hn n).mp hN
    have hlt := hW.lt hN'
    rw [h3 n hlt] at hp
    obtain ⟨j, a, b, c, e⟩ := w4 n hN' hp
    exact ⟨j, a, b, by rw [h3 n hlt]; exact c, by rw [h1 j b, h2 j b]; exact e⟩
  · have hN' := (hn n).mp hN
    rw [h3 n (hW.lt hN')]
    exact w5 n hN'
/-! graft -/
def gL (lf : Nat → Int32) (j n : Nat) : Nat → Int32 := fun x => if x = j then nI n else if lf x = nI n then nI j else lf x
def gR (rt : Nat → Int32) (j n k : Nat) : Nat → Int32 := fun x => if x = j then nI k else if rt x = nI n then nI j else rt x
def gP (pa : Nat → Int32) (j n k : Nat) : Nat → Int32 := fun x => if x = j then pa n else if x = n ∨ x = k then nI j else pa x
/-- the only joint whose child is n -/
theorem WFt.only (hW : WFt s lf rt pa) {x n : Nat} (hx : x < 15) (hn : nodeN s lf n) (h : lf x = nI n ∨ rt x = nI n) : pa n = nI x ∧ 8 ≤ x ∧ lf x ≠ -1 := by
  have hlt := hW.lt hn
  have hl : ¬ (x < 8 ∨ lf x = -1) := fun z => by
    have := hW.2.1 x hx z
    rcases h with h | h
    · exact nI_ne1 (by omega) (h.symm.trans this.1)
    · exact nI_ne1 (by omega) (h.symm.trans this.2)
  have h8 : 8 ≤ x := Nat.not_lt.mp (fun z => hl (Or.inl z))
  have hne : lf x ≠ -1 := fun z => hl (Or.inr z)
  obtain ⟨a, b, ea, eb, na, nb, nab, pa_a, pa_b⟩ := hW.dn h8 hx hne
  have la := hW.lt na
  have lb := hW.lt nb
  rcases h with h | h
  · have : a = n := nI_inj (by omega) (by omega) (ea.symm.trans h)
    subst this
    exact ⟨pa_a, h8, hne⟩
  · have : b = n := nI_inj (by omega) (by omega) (eb.symm.trans h)
    subst this
    exact ⟨pa_b, h8, hne⟩
theorem WFt.graft (hW : WFt s lf rt pa) {j n k : Nat} (hj : isF lf j) (hn : nodeN s lf n) (hk : nodeN s lf k) (hkt : pa k = -1) (hρ : Dep s lf pa ρ) (hnk : ¬ Inr pa ρ n k) : WFt s (gL lf j n) (gR rt j n k) (gP pa j n k) := by
  obtain ⟨⟨j8, j15⟩, jf, -⟩ := hj
  have ln := hW.lt hn
  have lk := hW.lt hk
  have nk : n ≠ k := fun e => hnk (e ▸ Inr.rf)
  have jn : ¬ nodeN s lf j := by
    rintro (z | z)
    · have := hW.1
      omega
    · exact z.2.2 jf
  have j_n : j ≠ n := fun e => jn (e ▸ hn)
  have j_k : j ≠ k := fun e => jn (e ▸ hk)
  have Lj : gL lf j n j = nI n := if_pos rfl
  have Rj : gR rt j n k j = nI k := if_pos rfl
  have Pj : gP pa j n k j = pa n := if_pos rfl
  have Pn : gP pa j n k n = nI j := by unfold gP; rw [if_neg (fun e => j_n e.symm), if_pos (Or.inl rfl)]
  have Pk : gP pa j n k k = nI j := by unfold gP; rw [if_neg (fun e => j_k e.symm), if_pos (Or.inr rfl)]
  have Px : ∀ x, x ≠ j → x ≠ n → x ≠ k → gP pa j n k x = pa x := fun x h1 h2 h3 => by unfold gP; rw [if_neg h1, if_neg (fun z => z.elim h2 h3)]
  have Lx : ∀ x, x ≠ j → gL lf j n x = if lf x = nI n then nI j else lf x := fun x h => if_neg h
  have Rx : ∀ x, x ≠ j → gR rt j n k x = if rt x = nI n then nI j else rt x := fun x h => if_neg h
  have Lne : ∀ x, x ≠ j → (gL lf j n x = -1 ↔ lf x = -1) := by
    intro x hx
    rw [Lx x hx]
    by_cases e : lf x = nI n
    · rw [if_pos e, e]
      exact ⟨fun z => absurd z (nI_ne1 (by omega)), fun z => absurd z (nI_ne1 (by omega))⟩
    · rw [if_neg e]
  have node : ∀ x, nodeN s (gL lf j n) x ↔ x = j ∨ nodeN s lf x := by
    intro x
    unfold nodeN
    by_cases e : x = j
    · subst e
      exact ⟨fun _ => Or.inl rfl, fun _ => Or.inr ⟨j8, j15, by rw [Lj]; exact nI_ne1 (by omega)⟩⟩
    · constructor
      · rintro (h | ⟨a, b, c⟩)
        · exact Or.inr (Or.inl h)
        · exact Or.inr (Or.inr ⟨a, b, fun z => c ((Lne x e).mpr z)⟩)
      · rintro (h | h | ⟨a, b, c⟩)
        · exact absurd h e
        · exact Or.inl h
        · exact Or.inr ⟨a, b, fun z => c ((Lne x e).mp z)⟩
  refine ⟨hW.1, fun x hx h => ?_, fun x hx h => ?_, fun x x8 x15 hl => ?_, fun x hx hp => ?_, fun x => if x = j then ρ n else cif (Inr pa ρ x n) (ρ x + 1) (cif (Inr pa ρ x k) (ρ x + ρ n + 1) (ρ x)), fun x hx => ?_⟩
  · have hxj : x ≠ j := fun e => by
      subst e
      rcases h with h | h
      · omega
      · rw [Lj] at h
        exact nI_ne1 (by omega) h
    rw [Lne x hxj] at h ⊢
    have h1 := hW.2.1 x hx h
    refine ⟨h1.1, ?_⟩
    rw [Rx x hxj, if_neg (fun e => nI_ne1 (by omega) (e.symm.trans h1.2))]
    exact h1.2
  · have hn' : x ≠ j ∧ ¬ nodeN s lf x := ⟨fun e => h ((node x).mpr (Or.inl e)), fun e => h ((node x).mpr (Or.inr e))⟩
    rw [Px x hn'.1 (fun e => hn'.2 (e ▸ hn)) (fun e => hn'.2 (e ▸ hk))]
    exact hW.2.2.1 x hx hn'.2
  · by_cases e : x = j
    · subst e
      exact ⟨n, k, Lj, Rj, (node n).mpr (Or.inr hn), (node k).mpr (Or.inr hk), nk, Pn, Pk⟩
    · have hl' : lf x ≠ -1 := fun z => hl ((Lne x e).mpr z)
      obtain ⟨a, b, ea, eb, na, nb, nab, pa_a, pa_b⟩ := hW.dn x8 x15 hl'
      have la := hW.lt na
      have lb := hW.lt nb
      have a_j : a ≠ j := fun z => jn (z ▸ na)
      have b_j : b ≠ j := fun z => jn (z ▸ nb)
      have a_k : a ≠ k := fun z => by
        subst z
        exact nI_ne1 (by omega) (pa_a.symm.trans hkt)
      have b_k : b ≠ k := fun z => by
        subst z
        exact nI_ne1 (by omega) (pa_b.symm.trans hkt)
      by_cases an : a = n
      · subst an
        refine ⟨j, b, ?_, ?_, (node j).mpr (Or.inl rfl), (node b).mpr (Or.inr nb), fun z => b_j z.symm, ?_, ?_⟩
        · rw [Lx x e, if_pos ea]
        · rw [Rx x e, if_neg (fun z => nab (nI_inj (by omega) (by omega) (z.symm.trans eb))), eb]
        · rw [Pj, pa_a]
        · rw [Px b b_j (fun z => nab z.symm) b_k, pa_b]
      · by_cases bn : b = n
        · subst bn
          refine ⟨a, j, ?_, ?_, (node a).mpr (Or.inr na), (node j).mpr (Or.inl rfl), a_j, ?_, ?_⟩
          · rw [Lx x e, if_neg (fun z => nab (nI_inj (by omega) (by omega) (ea.symm.trans z))), ea]
          · rw [Rx x e, if_pos eb]
          · rw [Px a a_j an a_k, pa_a]
          · rw [Pj, pa_b]
        · refine ⟨a, b, ?_, ?_, (node a).mpr (Or.inr na), (node b).mpr (Or.inr nb), nab, ?_, ?_⟩
          · rw [Lx x e, if_neg (fun z => an (nI_inj (by omega) (by omega) (ea.symm.trans z))), ea]
          · rw [Rx x e, if_neg (fun z => bn (nI_inj (by omega) (by omega) (eb.symm.trans z))), eb]
          · rw [Px a a_j an a_k, pa_a]
          · rw [Px b b_j bn b_k, pa_b]
  · by_cases e : x = j
    · subst e
      rw [Pj] at hp ⊢
      obtain ⟨p, p1, p2, p3, p4, p5, p6⟩ := hW.up hn hp
      have pj : p ≠ x := fun z => jn (z ▸ p5)
      refine ⟨p, p1, p2, p3, ?_⟩
      rw [Lx p pj, Rx p pj]
      rcases p6 with z | z
      · exact Or.inl (if_pos z)
      · exact Or.inr (if_pos z)
    · have hx' : nodeN s lf x := ((node x).mp hx).resolve_left e
      have lx := hW.lt hx'
      by_cases xn : x = n
      · subst xn
        exact ⟨j, j8, j15, Pn, Or.inl Lj⟩
      · by_cases xk : x = k
        · subst xk
          exact ⟨j, j8, j15, Pk, Or.inr Rj⟩
        · rw [Px x e xn xk] at hp ⊢
          obtain ⟨p, p1, p2, p3, p4, p5, p6⟩ := hW.up hx' hp
          have pj : p ≠ j := fun z => jn (z ▸ p5)
          refine ⟨p, p1, p2, p3, ?_⟩
          rw [Lx p pj, Rx p pj]
          rcases p6 with z | z
          · exact Or.inl (by rw [if_neg (fun y => xn (nI_inj (by omega) (by omega) (z.symm.trans y)))]; exact z)
          · exact Or.inr (by rw [if_neg (fun y => xn (nI_inj (by omega) (by omega) (z.symm.trans y)))]; exact z)
  · dsimp only
    have kn : ¬ Inr pa ρ k n := fun z => nk ((Inr.top hρ hk hkt).mp z).symm
    by_cases e : x = j
    · subst e
      rw [Pj, if_pos rfl]
      refine ⟨(hρ n hn).1, fun p p15 hp => ?_⟩
      have hne : pa n ≠ -1 := fun z => nI_ne1 (by omega) (hp.symm.trans z)
      obtain ⟨p', p1, p2, p3, p4, p5, p6⟩ := hW.up hn hne
      have : p' = p := nI_inj (by omega) (by omega) (p3.symm.trans hp)
      subst this
      have h1 := (hρ n hn).2 p' p15 hp
      rw [if_neg (show ¬ p' = x from fun z => jn (z ▸ p5)), cif_n (fun z => by have := Inr.le hW hρ p5 z; omega), cif_n (fun z => hnk ((Inr.st hρ hn p15 hp).mpr (Or.inr z)))]
      exact h1
    · have hx' : nodeN s lf x := ((node x).mp hx).resolve_left e
      have lx := hW.lt hx'
      rw [if_neg e]
      by_cases xn : x = n
      · subst xn
        rw [Pn]
        refine ⟨fun z => absurd z (nI_ne1 (by omega)), fun p p15 hp => ?_⟩
        have : j = p := nI_inj (by omega) (by omega) hp
        subst this
        rw [if_pos rfl, cif_p Inr.rf]
      · by_cases xk : x = k
        · subst xk
          rw [Pk]
          refine ⟨fun z => absurd z (nI_ne1 (by omega)), fun p p15 hp => ?_⟩
          have : j = p := nI_inj (by omega) (by omega) hp
          subst this
          rw [if_pos rfl, cif_n kn, cif_p Inr.rf, (hρ x hk).1 hkt, Nat.zero_add]
        · rw [Px x e xn xk]
          refine ⟨fun hp => ?_, fun p p15 hp => ?_⟩
          · rw [cif_n (fun z => xn ((Inr.top hρ hx' hp).mp z)), cif_n (fun z => xk ((Inr.top hρ hx' hp).mp z))]
            exact (hρ x hx').1 hp
          · have hne : pa x ≠ -1 := fun z => nI_ne1 (by omega) (hp.symm.trans z)
            obtain ⟨p', p1, p2, p3, p4, p5, p6⟩ := hW.up hx' hne
            have : p' = p := nI_inj (by omega) (by omega) (p3.symm.trans hp)
            subst this
            have h1 := (hρ x hx').2 p' p15 hp
            have i1 : Inr pa ρ x n ↔ Inr pa ρ p' n := (Inr.st hρ hx' p15 hp).trans ⟨fun z => z.resolve_left xn, Or.inr⟩
            have i2 : Inr pa ρ x k ↔ Inr pa ρ p' k := (Inr.st hρ hx' p15 hp).trans ⟨fun z => z.resolve_left xk, Or.inr⟩
            rw [if_neg (show ¬ p' = j from fun z => jn (z ▸ p5)), cif_iff i1, cif_iff i2, h1]
            by_cases q1 : Inr pa ρ p' n
            · rw [cif_p q1, cif_p q1]
            · rw [cif_n q1, cif_n q1]
              by_cases q2 : Inr pa ρ p' k
              · rw [cif_p q2, cif_p q2]
                omega
              · rw [cif_n q2, cif_n q2]
/-! exchange -/
def xF (f : Nat → Int32) (a b : Nat) : Nat → Int32 := fun x => if f x = nI a then nI b else if f x = nI b then nI a else f x
def xP (pa : Nat → Int32) (a b : Nat) : Nat → Int32 := fun x => if x = a then pa b else if x = b then pa a else pa x
theorem WFt.exch (hW : WFt s lf rt pa) {a b : Nat} (ha : nodeN s lf a) (hb : nodeN s lf b) (hpa : pa a ≠ -1) (hpb : pa b ≠ -1) (hpp : pa a ≠ pa b) (hρ : Dep s lf pa ρ) (hab : ¬ Inr pa ρ a b) (hba : ¬ Inr pa ρ b a) : WFt s (xF lf a b) (xF rt a b) (xP pa a b) := by
  have la := hW.lt ha
  have lb := hW.lt hb
  have a_b : a ≠ b := fun e => hpp (by rw [e])
  obtain ⟨p, p1, p2, p3, p4, p5, p6⟩ := hW.up ha hpa
  obtain ⟨q, q1, q2, q3, q4, q5, q6⟩ := hW.up hb hpb
  have p_q : p ≠ q := fun e => hpp (by rw [p3, q3, e])
  have Pa : xP pa a b a = pa b := if_pos rfl
  have Pb : xP pa a b b = pa a := by unfold xP; rw [if_neg (fun e => a_b e.symm), if_pos rfl]
  have Px : ∀ x, x ≠ a → x ≠ b → xP pa a b x = pa x := fun x h1 h2 => by unfold xP; rw [if_neg h1, if_neg h2]
  have Fa : ∀ (f : Nat → Int32) x, f x = nI a → xF f a b x = nI b := fun f x h => if_pos h
  have Fb : ∀ (f : Nat → Int32) x, f x = nI b → xF f a b x = nI a := fun f x h => by unfold xF; rw [if_neg (fun e => a_b (nI_inj (by omega) (by omega) (e.symm.trans h))), if_pos h]
  have Fx : ∀ (f : Nat → Int32) x, f x ≠ nI a → f x ≠ nI b → xF f a b x = f x := fun f x h1 h2 => by unfold xF; rw [if_neg h1, if_neg h2]
  have Fn : ∀ (f : Nat → Int32) x, xF f a b x = -1 ↔ f x = -1 := by
    intro f x
    by_cases h1 : f x = nI a
    · rw [Fa f x h1, h1]
      exact ⟨fun z => absurd z (nI_ne1 (by omega)), fun z => absurd z (nI_ne1 (by omega))⟩
    · by_cases h2 : f x = nI b
      · rw [Fb f x h2, h2]
        exact ⟨fun z => absurd z (nI_ne1 (by omega)), fun z => absurd z (nI_ne1 (by omega))⟩
      · rw [Fx f x h1 h2]
  have node : ∀ x, nodeN s (xF lf a b) x ↔ nodeN s lf x := by
    intro x
    unfold nodeN
    constructor
    · rintro (h | ⟨u, v, w⟩)
      · exact Or.inl h
      · exact Or.inr ⟨u, v, fun z => w ((Fn lf x).mpr z)⟩
    · rintro (h | ⟨u, v, w⟩)
      · exact Or.inl h
      · exact Or.inr ⟨u, v, fun z => w ((Fn lf x).mp z)⟩
  -- where a child goes
  have im : ∀ (x c : Nat) (f : Nat → Int32), nodeN s lf c → pa c = nI x → x < 15 → f x = nI c → ∃ c', xF f a b x = nI c' ∧ nodeN s lf c' ∧ xP pa a b c' = nI x ∧ (c = a ∧ c' = b ∨ c = b ∧ c' = a ∨ c ≠ a ∧ c ≠ b ∧ c' = c) := by
    intro x c f hc hpc hx hf
    have lc := hW.lt hc
    by_cases h1 : c = a
    · subst h1
      exact ⟨b, Fa f x hf, hb, by rw [Pb]; exact hpc, Or.inl ⟨rfl, rfl⟩⟩
    · by_cases h2 : c = b
      · subst h2
        exact ⟨a, Fb f x hf, ha, by rw [Pa]; exact hpc, Or.inr (Or.inl ⟨rfl, rfl⟩)⟩
      · exact ⟨c, by rw [Fx f x (fun z => h1 (nI_inj (by omega) (by omega) (hf.symm.trans z))) (fun z => h2 (nI_inj (by omega) (by omega) (hf.symm.trans z)))]; exact hf, hc, by rw [Px c h1 h2]; exact hpc, Or.inr (Or.inr ⟨h1, h2, rfl⟩)⟩
  refine ⟨hW.1, fun x hx h => ?_, fun x hx h => ?_, fun x x8 x15 hl => ?_, fun x hx hp => ?_, fun x => cif (Inr pa ρ x a) (ρ x - ρ a + ρ b) (cif (Inr pa ρ x b) (ρ x - ρ b + ρ a) (ρ x)), fun x hx => ?_⟩
  · rw [Fn] at h ⊢
    rw [Fn]
    exact hW.2.1 x hx h
  · have hn' : ¬ nodeN s lf x := fun z => h ((node x).mpr z)
    rw [Px x (fun e => hn' (e ▸ ha)) (fun e => hn' (e ▸ hb))]
    exact hW.2.2.1 x hx hn'
  · have hl' : lf x ≠ -1 := fun z => hl ((Fn lf x).mpr z)
    obtain ⟨u, v, eu, ev, nu, nv, nuv, pu, pv⟩ := hW.dn x8 x15 hl'
    obtain ⟨u', w1, w2, w3, w4⟩ := im x u lf nu pu x15 eu
    obtain ⟨v', z1, z2, z3, z4⟩ := im x v rt nv pv x15 ev
    refine ⟨u', v', w1, z1, (node u').mpr w2, (node v').mpr z2, fun e => ?_, w3, z3⟩
    have key : ¬ (u = a ∧ v = b) ∧ ¬ (u = b ∧ v = a) := by
      refine ⟨fun ⟨g1, g2⟩ => ?_, fun ⟨g1, g2⟩ => ?_⟩
      · subst g1; subst g2
        exact hpp (pu.trans pv.symm)
      · subst g1; subst g2
        exact hpp (pv.trans pu.symm)
    omega
  · have hx' := (node x).mp hx
    have lx := hW.lt hx'
    by_cases xa : x = a
    · subst xa
      rw [Pa]
      refine ⟨q, q1, q2, q3, ?_⟩
      rcases q6 with z | z
      · exact Or.inl (Fb lf q z)
      · exact Or.inr (Fb rt q z)
    · by_cases xb : x = b
      · subst xb
        rw [Pb]
        refine ⟨p, p1, p2, p3, ?_⟩
        rcases p6 with z | z
        · exact Or.inl (Fa lf p z)
        · exact Or.inr (Fa rt p z)
      · rw [Px x xa xb] at hp ⊢
        obtain ⟨r, r1, r2, r3, r4, r5, r6⟩ := hW.up hx' hp
        refine ⟨r, r1, r2, r3, ?_⟩
        rcases r6 with z | z
        · exact Or.inl (by rw [Fx lf r (fun y => xa (nI_inj (by omega) (by omega) (z.symm.trans y))) (fun y => xb (nI_inj (by omega) (by omega) (z.symm.trans y)))]; exact z)
        · exact Or.inr (by rw [Fx rt r (fun y => xa (nI_inj (by omega) (by omega) (z.symm.trans y))) (fun y => xb (nI_inj (by omega) (by omega) (z.symm.trans y)))]; exact z)
  · dsimp only
    have hx' := (node x).mp hx
    have lx := hW.lt hx'
    have ra := (hρ a ha).2 p p2 p3
    have rb := (hρ b hb).2 q q2 q3
    have pa' : ¬ Inr pa ρ p a := fun z => by have := Inr.le hW hρ p5 z; omega
    have pb' : ¬ Inr pa ρ p b := fun z => hab ((Inr.st hρ ha p2 p3).mpr (Or.inr z))
    have qa' : ¬ Inr pa ρ q a := fun z => hba ((Inr.st hρ hb q2 q3).mpr (Or.inr z))
    have qb' : ¬ Inr pa ρ q b := fun z => by have := Inr.le hW hρ q5 z; omega
    by_cases xa : x = a
    · subst xa
      rw [Pa]
      refine ⟨fun z => absurd z hpb, fun r r15 hr => ?_⟩
      have : q = r := nI_inj (by omega) (by omega) (q3.symm.trans hr)
      subst this
      rw [cif_p Inr.rf, cif_n qa', cif_n qb']
      omega
    · by_cases xb : x = b
      · subst xb
        rw [Pb]
        refine ⟨fun z => absurd z hpa, fun r r15 hr => ?_⟩
        have : p = r := nI_inj (by omega) (by omega) (p3.symm.trans hr)
        subst this
        rw [cif_n hba, cif_p Inr.rf, cif_n pa', cif_n pb']
        omega
      · rw [Px x xa xb]
        refine ⟨fun hp => ?_, fun r r15 hp => ?_⟩
        · rw [cif_n (fun z => xa ((Inr.top hρ hx' hp).mp z)), cif_n (fun z => xb ((Inr.top hρ hx' hp).mp z))]
          exact (hρ x hx').1 hp
        · have hne : pa x ≠ -1 := fun z => nI_ne1 (by omega) (hp.symm.trans z)
          obtain ⟨r', r1, r2, r3, r4, r5, r6⟩ := hW.up hx' hne
          have : r' = r := nI_inj (by omega) (by omega) (r3.symm.trans hp)
          subst this
          have h1 := (hρ x hx').2 r' r15 hp
          have i1 : Inr pa ρ x a ↔ Inr pa ρ r' a := (Inr.st hρ hx' r15 hp).trans ⟨fun z => z.resolve_left xa, Or.inr⟩
          have i2 : Inr pa ρ x b ↔ Inr pa ρ r' b := (Inr.st hρ hx' r15 hp).trans ⟨fun z => z.resolve_left xb, Or.inr⟩
          rw [cif_iff i1, cif_iff i2, h1]
          by_cases g1 : Inr pa ρ r' a
          · have := Inr.le hW hρ r5 g1
            rw [cif_p g1, cif_p g1]
            omega
          · rw [cif_n g1, cif_n g1]
            by_cases g2 : Inr pa ρ r' b
            · have := Inr.le hW hρ r5 g2
              rw [cif_p g2, cif_p g2]
              omega
            · rw [cif_n g2, cif_n g2]
end
