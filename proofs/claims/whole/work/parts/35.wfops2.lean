section
variable {s : Nat} {lf rt pa : Nat → Int32} {ρ : Nat → Nat}
/-! cut -/
def cF (f : Nat → Int32) (p o : Nat) : Nat → Int32 := fun x => if x = p then -1 else if f x = nI p then nI o else f x
def cP (pa : Nat → Int32) (p n o : Nat) : Nat → Int32 := fun x => if x = p ∨ x = n then -1 else if x = o then pa p else pa x
theorem WFt.cut (hW : WFt s lf rt pa) {n p o : Nat} (hn : nodeN s lf n) (ho : nodeN s lf o) (hno : n ≠ o) (p8 : 8 ≤ p) (p15 : p < 15) (hpn : pa n = nI p) (hpo : pa o = nI p) : WFt s (cF lf p o) (cF rt p o) (cP pa p n o) := by
  obtain ⟨ρ, hρ⟩ : ∃ ρ, Dep s lf pa ρ := hW.2.2.2.2.2
  have ln := hW.lt hn
  have lo := hW.lt ho
  have rn := (hρ n hn).2 p p15 hpn
  have ro := (hρ o ho).2 p p15 hpo
  have hpl : lf p ≠ -1 := by
    obtain ⟨q, q1, q2, q3, q4, _⟩ := hW.up hn (by rw [hpn]; exact nI_ne1 (by omega))
    have : q = p := nI_inj (by omega) (by omega) (q3.symm.trans hpn)
    subst this
    exact q4
  have hp : nodeN s lf p := Or.inr ⟨p8, p15, hpl⟩
  have n_p : n ≠ p := fun e => by rw [e] at rn; omega
  have o_p : o ≠ p := fun e => by rw [e] at ro; omega
  -- p's children are n and o alone
  have kids : ∀ x, nodeN s lf x → pa x = nI p → x = n ∨ x = o := by
    intro x hx hpx
    obtain ⟨a, b, ea, eb, na, nb, nab, pa_a, pa_b⟩ := hW.dn p8 p15 hpl
    have la := hW.lt na
    have lb := hW.lt nb
    have key : ∀ y, nodeN s lf y → pa y = nI p → y = a ∨ y = b := by
      intro y hy hpy
      have ly := hW.lt hy
      obtain ⟨q, q1, q2, q3, q4, q5, q6⟩ := hW.up hy (by rw [hpy]; exact nI_ne1 (by omega))
      have : q = p := nI_inj (by omega) (by omega) (q3.symm.trans hpy)
      subst this
      rcases q6 with z | z
      · exact Or.inl (nI_inj (by omega) (by omega) (z.symm.trans ea))
      · exact Or.inr (nI_inj (by omega) (by omega) (z.symm.trans eb))
    have k1 := key n hn hpn
    have k2 := key o ho hpo
    have k3 := key x hx hpx
    omega
  have Fp : ∀ f : Nat → Int32, cF f p o p = -1 := fun f => if_pos rfl
  have Fr : ∀ (f : Nat → Int32) x, x ≠ p → f x = nI p → cF f p o x = nI o := fun f x h1 h2 => by unfold cF; rw [if_neg h1, if_pos h2]
  have Fx : ∀ (f : Nat → Int32) x, x ≠ p → f x ≠ nI p → cF f p o x = f x := fun f x h1 h2 => by unfold cF; rw [if_neg h1, if_neg h2]
  have Fn : ∀ (f : Nat → Int32) x, x ≠ p → (cF f p o x = -1 ↔ f x = -1) := by
    intro f x hx
    by_cases h : f x = nI p
    · rw [Fr f x hx h, h]
      exact ⟨fun z => absurd z (nI_ne1 (by omega)), fun z => absurd z (nI_ne1 (by omega))⟩
    · rw [Fx f x hx h]
  have Pp : cP pa p n o p = -1 := if_pos (Or.inl rfl)
  have Pn : cP pa p n o n = -1 := if_pos (Or.inr rfl)
  have Po : cP pa p n o o = pa p := by unfold cP; rw [if_neg (fun z => z.elim o_p (fun y => hno y.symm)), if_pos rfl]
  have Px : ∀ x, x ≠ p → x ≠ n → x ≠ o → cP pa p n o x = pa x := fun x h1 h2 h3 => by unfold cP; rw [if_neg (fun z => z.elim h1 h2), if_neg h3]
  have node : ∀ x, nodeN s (cF lf p o) x ↔ nodeN s lf x ∧ x ≠ p := by
    intro x
    unfold nodeN
    constructor
    · rintro (h | ⟨u, v, w⟩)
      · exact ⟨Or.inl h, by have := hW.1; omega⟩
      · have hx : x ≠ p := fun e => by subst e; exact w (Fp lf)
        exact ⟨Or.inr ⟨u, v, fun z => w ((Fn lf x hx).mpr z)⟩, hx⟩
    · rintro ⟨h | ⟨u, v, w⟩, hx⟩
      · exact Or.inl h
      · exact Or.inr ⟨u, v, fun z => w ((Fn lf x hx).mp z)⟩
  -- where a child goes
  have im : ∀ (x c : Nat) (f : Nat → Int32), x ≠ p → nodeN s lf c → pa c = nI x → x < 15 → f x = nI c → ∃ c', cF f p o x = nI c' ∧ nodeN s lf c' ∧ c' ≠ p ∧ cP pa p n o c' = nI x ∧ (c = p ∧ c' = o ∨ c ≠ p ∧ c' = c ∧ c ≠ o) := by
    intro x c f hx hc hpc hx15 hf
    have lc := hW.lt hc
    by_cases h1 : c = p
    · subst h1
      exact ⟨o, Fr f x hx hf, ho, o_p, by rw [Po]; exact hpc, Or.inl ⟨rfl, rfl⟩⟩
    · have c_n : c ≠ n := fun e => by
        subst e
        exact hx (nI_inj (by omega) (by omega) (hpc.symm.trans hpn))
      have c_o : c ≠ o := fun e => by
        subst e
        exact hx (nI_inj (by omega) (by omega) (hpc.symm.trans hpo))
      exact ⟨c, by rw [Fx f x hx (fun z => h1 (nI_inj (by omega) (by omega) (hf.symm.trans z)))]; exact hf, hc, h1, by rw [Px c h1 c_n c_o]; exact hpc, Or.inr ⟨h1, rfl, c_o⟩⟩
  refine ⟨hW.1, fun x hx h => ?_, fun x hx h => ?_, fun x x8 x15 hl => ?_, fun x hx hpx => ?_, fun x => cif (Inr pa ρ x n) (ρ x - ρ n) (cif (Inr pa ρ x o) (ρ x - 1) (ρ x)), fun x hx => ?_⟩
  · by_cases e : x = p
    · subst e
      exact ⟨Fp lf, Fp rt⟩
    · rw [Fn lf x e] at h ⊢
      rw [Fn rt x e]
      exact hW.2.1 x hx h
  · by_cases e : x = p
    · subst e
      exact Pp
    · have hn' : ¬ nodeN s lf x := fun z => h ((node x).mpr ⟨z, e⟩)
      rw [Px x e (fun y => hn' (y ▸ hn)) (fun y => hn' (y ▸ ho))]
      exact hW.2.2.1 x hx hn'
  · have xp : x ≠ p := fun e => by subst e; exact hl (Fp lf)
    have hl' : lf x ≠ -1 := fun z => hl ((Fn lf x xp).mpr z)
    obtain ⟨u, v, eu, ev, nu, nv, nuv, pu, pv⟩ := hW.dn x8 x15 hl'
    obtain ⟨u', w1, w2, w3, w4, w5⟩ := im x u lf xp nu pu x15 eu
    obtain ⟨v', z1, z2, z3, z4, z5⟩ := im x v rt xp nv pv x15 ev
    refine ⟨u', v', w1, z1, (node u').mpr ⟨w2, w3⟩, (node v').mpr ⟨z2, z3⟩, ?_, w4, z4⟩
    omega
  · obtain ⟨hx', xp⟩ := (node x).mp hx
    have lx := hW.lt hx'
    by_cases xn : x = n
    · subst xn
      exact absurd Pn hpx
    · by_cases xo : x = o
      · subst xo
        rw [Po] at hpx ⊢
        obtain ⟨r, r1, r2, r3, r4, r5, r6⟩ := hW.up hp hpx
        have r_p : r ≠ p := fun e => by
          have := (hρ p hp).2 r r2 r3
          rw [e] at this
          omega
        refine ⟨r, r1, r2, r3, ?_⟩
        rcases r6 with z | z
        · exact Or.inl (Fr lf r r_p z)
        · exact Or.inr (Fr rt r r_p z)
      · rw [Px x xp xn xo] at hpx ⊢
        obtain ⟨r, r1, r2, r3, r4, r5, r6⟩ := hW.up hx' hpx
        have r_p : r ≠ p := fun e => by
          subst e
          rcases kids x hx' r3 with z | z
          · exact xn z
          · exact xo z
        refine ⟨r, r1, r2, r3, ?_⟩
        rcases r6 with z | z
        · exact Or.inl (by rw [Fx lf r r_p (fun y => xp (nI_inj (by omega) (by omega) (z.symm.trans y)))]; exact z)
        · exact Or.inr (by rw [Fx rt r r_p (fun y => xp (nI_inj (by omega) (by omega) (z.symm.trans y)))]; exact z)
  · dsimp only
    obtain ⟨hx', xp⟩ := (node x).mp hx
    have lx := hW.lt hx'
    have on : ¬ Inr pa ρ o n := fun z => by
      rcases (Inr.st hρ ho p15 hpo).mp z with y | y
      · exact hno y.symm
      · have := Inr.le hW hρ hp y
        omega
    by_cases xn : x = n
    · subst xn
      rw [Pn]
      refine ⟨fun _ => by rw [cif_p Inr.rf]; omega, fun r r15 hr => absurd hr.symm (nI_ne1 (by omega))⟩
    · by_cases xo : x = o
      · subst xo
        rw [Po, cif_n on, cif_p Inr.rf]
        refine ⟨fun z => ?_, fun r r15 hr => ?_⟩
        · have := (hρ p hp).1 z
          omega
        · have h1 := (hρ p hp).2 r r15 hr
          have hne : pa p ≠ -1 := fun z => nI_ne1 (by omega) (hr.symm.trans z)
          obtain ⟨r', r1, r2, r3, r4, r5, r6⟩ := hW.up hp hne
          have : r' = r := nI_inj (by omega) (by omega) (r3.symm.trans hr)
          subst this
          rw [cif_n (fun z => by have := Inr.le hW hρ r5 z; omega), cif_n (fun z => by have := Inr.le hW hρ r5 z; omega)]
          omega
      · rw [Px x xp xn xo]
        refine ⟨fun hpx => ?_, fun r r15 hpx => ?_⟩
        · rw [cif_n (fun z => xn ((Inr.top hρ hx' hpx).mp z)), cif_n (fun z => xo ((Inr.top hρ hx' hpx).mp z))]
          exact (hρ x hx').1 hpx
        · have hne : pa x ≠ -1 := fun z => nI_ne1 (by omega) (hpx.symm.trans z)
          obtain ⟨r', r1, r2, r3, r4, r5, r6⟩ := hW.up hx' hne
          have : r' = r := nI_inj (by omega) (by omega) (r3.symm.trans hpx)
          subst this
          have h1 := (hρ x hx').2 r' r15 hpx
          have i1 : Inr pa ρ x n ↔ Inr pa ρ r' n := (Inr.st hρ hx' r15 hpx).trans ⟨fun z => z.resolve_left xn, Or.inr⟩
          have i2 : Inr pa ρ x o ↔ Inr pa ρ r' o := (Inr.st hρ hx' r15 hpx).trans ⟨fun z => z.resolve_left xo, Or.inr⟩
          rw [cif_iff i1, cif_iff i2, h1]
          by_cases g1 : Inr pa ρ r' n
          · have := Inr.le hW hρ r5 g1
            rw [cif_p g1, cif_p g1]
            omega
          · rw [cif_n g1, cif_n g1]
            by_cases g2 : Inr pa ρ r' o
            · have := Inr.le hW hρ r5 g2
              rw [cif_p g2, cif_p g2]
              omega
            · rw [cif_n g2, cif_n g2]
/-! a new sink; no joints -/
theorem WFt.sink (hW : WFt s lf rt pa) (h8 : s < 8) : WFt (s + 1) lf rt pa := by
  have mono : ∀ n, nodeN s lf n → nodeN (s + 1) lf n := fun n h => h.elim (fun z => Or.inl (by omega)) Or.inr
  have back : ∀ n, nodeN (s + 1) lf n → n = s ∨ nodeN s lf n := fun n h => by
    rcases h with z | z
    · rcases Nat.lt_or_ge n s with y | y
      · exact Or.inr (Or.inl y)
      · exact Or.inl (by omega)
    · exact Or.inr (Or.inr z)
  have hs : ¬ nodeN s lf s := by
    rintro (z | z)
    · omega
    · omega
  have hps := hW.2.2.1 s (by omega) hs
  obtain ⟨ρ, hρ⟩ := hW.2.2.2.2.2
  refine ⟨by omega, hW.2.1, fun n hn h => hW.2.2.1 n hn (fun z => h (mono n z)), fun j j8 j15 hl => ?_, fun n hn hp => ?_, fun n => if n = s then 0 else ρ n, fun n hn => ?_⟩
  · obtain ⟨a, b, ea, eb, na, nb, r⟩ := hW.dn j8 j15 hl
    exact ⟨a, b, ea, eb, mono a na, mono b nb, r⟩
  · rcases back n hn with z | z
    · subst z
      exact absurd hps hp
    · exact hW.2.2.2.2.1 n z hp
  · dsimp only
    rcases back n hn with z | z
    · subst z
      rw [if_pos rfl, hps]
      exact ⟨fun _ => rfl, fun j hj e => absurd e.symm (nI_ne1 (by omega))⟩
    · have hne : n ≠ s := fun e => hs (e ▸ z)
      rw [if_neg hne]
      refine ⟨(hρ n z).1, fun j hj e => ?_⟩
      have hpn : pa n ≠ -1 := fun y => nI_ne1 (by omega) (e.symm.trans y)
      obtain ⟨j', j1, j2, j3, j4, j5, _⟩ := hW.up z hpn
      have : j' = j := nI_inj (by omega) (by omega) (j3.symm.trans e)
      subst this
      rw [if_neg (show ¬ j' = s from by omega)]
      exact (hρ n z).2 j' hj e
theorem WFt.none (h8 : s ≤ 8) (h1 : ∀ n, n < 15 → lf n = -1) (h2 : ∀ n, n < 15 → rt n = -1) (h3 : ∀ n, n < 15 → pa n = -1) : WFt s lf rt pa := by
  refine ⟨h8, fun n hn _ => ⟨h1 n hn, h2 n hn⟩, fun n hn _ => h3 n hn, fun j j8 j15 hl => absurd (h1 j j15) hl, fun n hn hp => ?_, fun _ => 0, fun n hn => ?_⟩
  · exact absurd (h3 n (hn.lt h8)) hp
  · refine ⟨fun _ => rfl, fun j hj e => ?_⟩
    rw [h3 n (hn.lt h8)] at e
    exact absurd e.symm (nI_ne1 (by omega))
end
