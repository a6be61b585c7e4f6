/-! REGIONS ARE NEVER EMPTY: nothing overflows, all halves are exact -/
theorem ti_add {a b : Int32} (h1 : -2147483648 ≤ a.toInt + b.toInt) (h2 : a.toInt + b.toInt < 2147483648) : (a + b).toInt = a.toInt + b.toInt := by
  rw [Int32.toInt_add]
  exact Int.bmod_eq_of_le (by omega) (by omega)
theorem ti_sub {a b : Int32} (h1 : -2147483648 ≤ a.toInt - b.toInt) (h2 : a.toInt - b.toInt < 2147483648) : (a - b).toInt = a.toInt - b.toInt := by
  rw [Int32.toInt_sub]
  exact Int.bmod_eq_of_le (by omega) (by omega)
theorem ti_mul {a b : Int32} (h1 : -2147483648 ≤ a.toInt * b.toInt) (h2 : a.toInt * b.toInt < 2147483648) : (a * b).toInt = a.toInt * b.toInt := by
  rw [Int32.toInt_mul]
  exact Int.bmod_eq_of_le (by omega) (by omega)
theorem ti_neg {a : Int32} (h1 : -2147483648 < a.toInt) : (-a).toInt = -a.toInt := by
  have := a.toInt_lt
  rw [Int32.toInt_neg]
  exact Int.bmod_eq_of_le (by omega) (by omega)
theorem ti_half {x : Int32} {k : Int} (h : x.toInt = 2 * k) : (x / 2).toInt = k := by
  rw [Int32.toInt_div_of_ne_right x 2 (by decide), h, show (2 : Int32).toInt = 2 from rfl]
  exact Int.mul_tdiv_cancel_left k (by decide)
theorem mx_i {a b : Int32} : a.toInt ≤ (mx a b).toInt ∧ b.toInt ≤ (mx a b).toInt ∧ ((mx a b).toInt = a.toInt ∨ (mx a b).toInt = b.toInt) := by
  unfold mx
  split
  · rename_i h
    have := Int32.lt_iff_toInt_lt.mp h
    omega
  · rename_i h
    have := Int32.le_iff_toInt_le.mp (Int32.not_lt.mp h)
    omega
theorem mn_i {a b : Int32} : (mn a b).toInt ≤ a.toInt ∧ (mn a b).toInt ≤ b.toInt ∧ ((mn a b).toInt = a.toInt ∨ (mn a b).toInt = b.toInt) := by
  unfold mn
  split
  · rename_i h
    have := Int32.lt_iff_toInt_lt.mp h
    omega
  · rename_i h
    have := Int32.le_iff_toInt_le.mp (Int32.not_lt.mp h)
    omega
theorem ab_i {a : Int32} (h1 : -2147483648 < a.toInt) : a.toInt ≤ (ab a).toInt ∧ -a.toInt ≤ (ab a).toInt ∧ ((ab a).toInt = a.toInt ∨ (ab a).toInt = -a.toInt) := by
  unfold ab
  split
  · rename_i h
    have := Int32.le_iff_toInt_le.mp h
    rw [Int32.toInt_zero] at this
    omega
  · rename_i h
    have := Int32.lt_iff_toInt_lt.mp (Int32.not_le.mp h)
    rw [Int32.toInt_zero] at this
    rw [Int32.zero_sub, ti_neg h1]
    omega
theorem mx_d {a b : Int32} {M : Int} (ha : M ∣ a.toInt) (hb : M ∣ b.toInt) : M ∣ (mx a b).toInt := by
  rcases mx_i (a := a) (b := b) with ⟨_, _, h | h⟩ <;> rw [h] <;> assumption
theorem mn_d {a b : Int32} {M : Int} (ha : M ∣ a.toInt) (hb : M ∣ b.toInt) : M ∣ (mn a b).toInt := by
  rcases mn_i (a := a) (b := b) with ⟨_, _, h | h⟩ <;> rw [h] <;> assumption
/-- the ranges of a part -/
def RG (f : Nat → Int32) (sk B T M : Int) : Prop := (-B ≤ (f 0).toInt ∧ (f 0).toInt ≤ (f 1).toInt ∧ (f 1).toInt ≤ 8257536 + B) ∧ (-4128768 - B ≤ (f 2).toInt ∧ (f 2).toInt ≤ (f 3).toInt ∧ (f 3).toInt ≤ 4128768 + B) ∧ (0 ≤ (f 4).toInt ∧ (f 4).toInt ≤ (f 5).toInt ∧ (f 5).toInt ≤ T ∧ (f 5).toInt - (f 4).toInt ≤ sk) ∧ ∀ k, k < 6 → M ∣ (f k).toInt
section
variable {a b : Nat → Int32} {sk : Int32} {B T m : Int}
theorem gap_i (ha : RG a sk.toInt B T (4 * m)) (hb : RG b sk.toInt B T (4 * m)) (hB : 0 ≤ B) (hB2 : B ≤ 260112384) : 0 ≤ (gapF a b).toInt ∧ (b 0).toInt - (a 1).toInt ≤ (gapF a b).toInt ∧ (a 0).toInt - (b 1).toInt ≤ (gapF a b).toInt ∧ (b 2).toInt - (a 3).toInt ≤ (gapF a b).toInt ∧ (a 2).toInt - (b 3).toInt ≤ (gapF a b).toInt ∧ (gapF a b).toInt ≤ 8257536 + 2 * B ∧ 4 * m ∣ (gapF a b).toInt := by
  obtain ⟨⟨a1, a2, a3⟩, ⟨a4, a5, a6⟩, -, ad⟩ := ha
  obtain ⟨⟨b1, b2, b3⟩, ⟨b4, b5, b6⟩, -, bd⟩ := hb
  have e1 : (b 0 - a 1).toInt = (b 0).toInt - (a 1).toInt := ti_sub (by omega) (by omega)
  have e2 : (a 0 - b 1).toInt = (a 0).toInt - (b 1).toInt := ti_sub (by omega) (by omega)
  have e3 : (b 2 - a 3).toInt = (b 2).toInt - (a 3).toInt := ti_sub (by omega) (by omega)
  have e4 : (a 2 - b 3).toInt = (a 2).toInt - (b 3).toInt := ti_sub (by omega) (by omega)
  have d1 : 4 * m ∣ (b 0 - a 1).toInt := by rw [e1]; exact Int.dvd_sub (bd 0 (by decide)) (ad 1 (by decide))
  have d2 : 4 * m ∣ (a 0 - b 1).toInt := by rw [e2]; exact Int.dvd_sub (ad 0 (by decide)) (bd 1 (by decide))
  have d3 : 4 * m ∣ (b 2 - a 3).toInt := by rw [e3]; exact Int.dvd_sub (bd 2 (by decide)) (ad 3 (by decide))
  have d4 : 4 * m ∣ (a 2 - b 3).toInt := by rw [e4]; exact Int.dvd_sub (ad 2 (by decide)) (bd 3 (by decide))
  have m1 := mx_i (a := b 0 - a 1) (b := a 0 - b 1)
  have m2 := mx_i (a := b 2 - a 3) (b := a 2 - b 3)
  have m3 := mx_i (a := mx (b 0 - a 1) (a 0 - b 1)) (b := mx (b 2 - a 3) (a 2 - b 3))
  have m4 := mx_i (a := 0) (b := mx (mx (b 0 - a 1) (a 0 - b 1)) (mx (b 2 - a 3) (a 2 - b 3)))
  have z : (0 : Int32).toInt = 0 := Int32.toInt_zero
  have dd : 4 * m ∣ (gapF a b).toInt := mx_d (by rw [z]; exact Int.dvd_zero _) (mx_d (mx_d d1 d2) (mx_d d3 d4))
  unfold gapF at dd ⊢
  generalize mx 0 (mx (mx (b 0 - a 1) (a 0 - b 1)) (mx (b 2 - a 3) (a 2 - b 3))) = g at m4 dd ⊢
  generalize mx (mx (b 0 - a 1) (a 0 - b 1)) (mx (b 2 - a 3) (a 2 - b 3)) = g2 at m3 m4
  generalize mx (b 0 - a 1) (a 0 - b 1) = g3 at m1 m3
  generalize mx (b 2 - a 3) (a 2 - b 3) = g4 at m2 m3
  rw [z] at m4
  rw [e1, e2] at m1
  rw [e3, e4] at m2
  clear d1 d2 d3 d4 ad bd
  refine ⟨by omega, by omega, by omega, by omega, by omega, by omega, dd⟩
/-- the lead: within both bounds; the wires -/
theorem lead_i (ha : RG a sk.toInt B T (4 * m)) (hb : RG b sk.toInt B T (4 * m)) (hB : 0 ≤ B) (hB2 : B ≤ 260112384) (hT : 0 ≤ T) (hT2 : T ≤ 526712832) (hs : 0 ≤ sk.toInt) (hs2 : sk.toInt ≤ 6488064) (hsd : 4 * m ∣ sk.toInt) :
    ∃ L : Int, (leadF a b (gapF a b) sk).toInt = L ∧ 2 * m ∣ L ∧ (b 5).toInt - (a 4).toInt - sk.toInt ≤ L ∧ L ≤ sk.toInt + (b 4).toInt - (a 5).toInt ∧ ((-(gapF a b).toInt ≤ L ∧ L ≤ (gapF a b).toInt) ∨ ((gapF a b).toInt ≤ L ∧ (L = (gapF a b).toInt ∨ L = (b 5).toInt - (a 4).toInt - sk.toInt)) ∨ (L ≤ -(gapF a b).toInt ∧ (L = -(gapF a b).toInt ∨ L = sk.toInt + (b 4).toInt - (a 5).toInt))) := by
  obtain ⟨g0, g1, g2, g3, g4, g5, gd⟩ := gap_i ha hb hB hB2
  obtain ⟨-, -, ⟨a1, a2, a3, a4⟩, ad⟩ := ha
  obtain ⟨-, -, ⟨b1, b2, b3, b4⟩, bd⟩ := hb
  generalize gapF a b = g at *
  have x1 : (b 4 + b 5).toInt = (b 4).toInt + (b 5).toInt := ti_add (by omega) (by omega)
  have x2 : (b 4 + b 5 - a 4).toInt = (b 4).toInt + (b 5).toInt - (a 4).toInt := by rw [ti_sub (by omega) (by omega), x1]
  have x3 : (b 4 + b 5 - a 4 - a 5).toInt = (b 4).toInt + (b 5).toInt - (a 4).toInt - (a 5).toInt := by rw [ti_sub (by omega) (by omega), x2]
  have xd : 4 * m ∣ (b 4 + b 5 - a 4 - a 5).toInt := by
    rw [x3]
    exact Int.dvd_sub (Int.dvd_sub (Int.dvd_add (bd 4 (by decide)) (bd 5 (by decide))) (ad 4 (by decide))) (ad 5 (by decide))
  obtain ⟨k, hk⟩ := xd
  have hw : (wantF a b).toInt = 2 * m * k := by
    unfold wantF
    exact ti_half (by rw [hk, ← Int.mul_assoc, ← Int.mul_assoc]; rfl)
  have hw2 : 2 * (wantF a b).toInt = (b 4).toInt + (b 5).toInt - (a 4).toInt - (a 5).toInt := by
    rw [← x3, hk, hw, ← Int.mul_assoc, ← Int.mul_assoc]
    rfl
  have hwd : 2 * m ∣ (wantF a b).toInt := ⟨k, hw⟩
  have d2 : ∀ {x : Int}, 4 * m ∣ x → 2 * m ∣ x := fun {x} ⟨q, hq⟩ => ⟨2 * q, by rw [hq]; grind⟩
  have eb1 : (b 5 - a 4).toInt = (b 5).toInt - (a 4).toInt := ti_sub (by omega) (by omega)
  have eb : (b 5 - a 4 - sk).toInt = (b 5).toInt - (a 4).toInt - sk.toInt := by rw [ti_sub (by omega) (by omega), eb1]
  have ec1 : (sk + b 4).toInt = sk.toInt + (b 4).toInt := ti_add (by omega) (by omega)
  have ec : (sk + b 4 - a 5).toInt = sk.toInt + (b 4).toInt - (a 5).toInt := by rw [ti_sub (by omega) (by omega), ec1]
  have lowd : 4 * m ∣ (b 5 - a 4 - sk).toInt := by rw [eb]; exact Int.dvd_sub (Int.dvd_sub (bd 5 (by decide)) (ad 4 (by decide))) hsd
  have highd : 4 * m ∣ (sk + b 4 - a 5).toInt := by rw [ec]; exact Int.dvd_sub (Int.dvd_add hsd (bd 4 (by decide))) (ad 5 (by decide))
  have ng : (-g).toInt = -g.toInt := ti_neg (by omega)
  by_cases c1 : wantF a b ≤ g
  · have c1' := Int32.le_iff_toInt_le.mp c1
    by_cases c2 : -g ≤ wantF a b
    · have c2' := Int32.le_iff_toInt_le.mp c2
      rw [ng] at c2'
      rw [lead_2 c1 c2]
      exact ⟨_, rfl, hwd, by omega, by omega, Or.inl ⟨by omega, by omega⟩⟩
    · have c2' := Int32.lt_iff_toInt_lt.mp (Int32.not_le.mp c2)
      rw [ng] at c2'
      rw [lead_3 c1 c2]
      have q := mn_i (a := -g) (b := sk + b 4 - a 5)
      rw [ng, ec] at q
      exact ⟨_, rfl, mn_d (by rw [ng]; exact Int.dvd_neg.mpr (d2 gd)) (d2 highd), by omega, by omega, Or.inr (Or.inr ⟨by omega, by omega⟩)⟩
  · have c1' := Int32.lt_iff_toInt_lt.mp (Int32.not_le.mp c1)
    rw [lead_1 c1]
    have q := mx_i (a := g) (b := b 5 - a 4 - sk)
    rw [eb] at q
    exact ⟨_, rfl, mx_d (d2 gd) (d2 lowd), by omega, by omega, Or.inr (Or.inl ⟨by omega, by omega⟩)⟩
theorem wires_i (ha : RG a sk.toInt B T (4 * m)) (hb : RG b sk.toInt B T (4 * m)) (hB : 0 ≤ B) (hB2 : B ≤ 260112384) (hT : 0 ≤ T) (hT2 : T ≤ 526712832) (hs : 0 ≤ sk.toInt) (hs2 : sk.toInt ≤ 6488064) (hsd : 4 * m ∣ sk.toInt) :
    ∃ l r : Int, (lwF a b sk).toInt = l ∧ (rwF a b sk).toInt = r ∧ 0 ≤ l ∧ 0 ≤ r ∧ m ∣ l ∧ m ∣ r ∧ ((b 0).toInt - (a 1).toInt ≤ l + r ∧ (a 0).toInt - (b 1).toInt ≤ l + r ∧ (b 2).toInt - (a 3).toInt ≤ l + r ∧ (a 2).toInt - (b 3).toInt ≤ l + r) ∧ (2 * l ≤ 8257536 + 2 * B ∨ 2 * r ≤ 8257536 + 2 * B) ∧ (b 5).toInt - (a 4).toInt - sk.toInt ≤ l - r ∧ l - r ≤ sk.toInt + (b 4).toInt - (a 5).toInt ∧ (a 5).toInt + l ≤ T + 8257536 + 2 * B ∧ (b 5).toInt + r ≤ T + 8257536 + 2 * B ∧ l ≤ 528482304 ∧ r ≤ 528482304 := by
  obtain ⟨g0, g1, g2, g3, g4, g5, gd⟩ := gap_i ha hb hB hB2
  obtain ⟨L, hL, Ld, L1, L2, L3⟩ := lead_i ha hb hB hB2 hT hT2 hs hs2 hsd
  obtain ⟨-, -, ⟨a1, a2, a3, a4⟩, -⟩ := ha
  obtain ⟨-, -, ⟨b1, b2, b3, b4⟩, -⟩ := hb
  have d2 : ∀ {x : Int}, 4 * m ∣ x → 2 * m ∣ x := fun {x} ⟨q, hq⟩ => ⟨2 * q, by rw [hq]; grind⟩
  unfold lwF rwF spanF
  generalize leadF a b (gapF a b) sk = ld at *
  generalize gapF a b = g at *
  have q1 := ab_i (a := ld) (by omega)
  have q2 := mx_i (a := g) (b := ab ld)
  have sd : 2 * m ∣ (mx g (ab ld)).toInt := mx_d (d2 gd) (by
    rcases q1.2.2 with h | h
    · rw [h, hL]; exact Ld
    · rw [h, hL]; exact Int.dvd_neg.mpr Ld)
  generalize mx g (ab ld) = sp at *
  have e1 : (sp + ld).toInt = sp.toInt + L := by rw [ti_add (by omega) (by omega), hL]
  have e2 : (sp - ld).toInt = sp.toInt - L := by rw [ti_sub (by omega) (by omega), hL]
  obtain ⟨x, hx⟩ := Int.dvd_add sd Ld
  obtain ⟨y, hy⟩ := Int.dvd_sub sd Ld
  have h1 : ((sp + ld) / 2).toInt = m * x := ti_half (by rw [e1, hx, Int.mul_assoc])
  have h2 : ((sp - ld) / 2).toInt = m * y := ti_half (by rw [e2, hy, Int.mul_assoc])
  have k1 : 2 * (m * x) = sp.toInt + L := by rw [hx, Int.mul_assoc]
  have k2 : 2 * (m * y) = sp.toInt - L := by rw [hy, Int.mul_assoc]
  refine ⟨m * x, m * y, h1, h2, ?_⟩
  have m1 : m ∣ m * x := ⟨x, rfl⟩
  have m2 : m ∣ m * y := ⟨y, rfl⟩
  generalize m * x = l at *
  generalize m * y = r at *
  clear hx hy sd gd Ld d2 h1 h2 e1 e2
  refine ⟨by omega, by omega, m1, m2, ⟨by omega, by omega, by omega, by omega⟩, by omega, by omega, by omega, by omega, by omega, by omega, by omega⟩
theorem join_i {f : Nat → Int32} (ha : RG a sk.toInt B T (4 * m)) (hb : RG b sk.toInt B T (4 * m)) (hB : 0 ≤ B) (hB2 : B ≤ 260112384) (hT : 0 ≤ T) (hT2 : T ≤ 526712832) (hs : 0 ≤ sk.toInt) (hs2 : sk.toInt ≤ 6488064) (hsd : 4 * m ∣ sk.toInt) :
    RG (jnF f a b (lwF a b sk) (rwF a b sk)) sk.toInt (2 * B + 4128768) (T + 8257536 + 2 * B) m := by
  obtain ⟨l, r, hl, hr, l0, r0, ld, rd, ⟨w1, w2, w3, w4⟩, wm, w5, w6, w7, w8, w9, w10⟩ := wires_i ha hb hB hB2 hT hT2 hs hs2 hsd
  obtain ⟨⟨u1, u2, u3⟩, ⟨u4, u5, u6⟩, ⟨a1, a2, a3, a4⟩, ad⟩ := ha
  obtain ⟨⟨v1, v2, v3⟩, ⟨v4, v5, v6⟩, ⟨b1, b2, b3, b4⟩, bd⟩ := hb
  generalize lwF a b sk = lw at *
  generalize rwF a b sk = rw' at *
  have d4 : ∀ {x : Int}, 4 * m ∣ x → m ∣ x := fun {x} ⟨q, hq⟩ => ⟨4 * q, by rw [hq]; grind⟩
  have s0 : (a 0 - lw).toInt = (a 0).toInt - l := by rw [ti_sub (by omega) (by omega), hl]
  have s1 : (b 0 - rw').toInt = (b 0).toInt - r := by rw [ti_sub (by omega) (by omega), hr]
  have s2 : (a 1 + lw).toInt = (a 1).toInt + l := by rw [ti_add (by omega) (by omega), hl]
  have s3 : (b 1 + rw').toInt = (b 1).toInt + r := by rw [ti_add (by omega) (by omega), hr]
  have s4 : (a 2 - lw).toInt = (a 2).toInt - l := by rw [ti_sub (by omega) (by omega), hl]
  have s5 : (b 2 - rw').toInt = (b 2).toInt - r := by rw [ti_sub (by omega) (by omega), hr]
  have s6 : (a 3 + lw).toInt = (a 3).toInt + l := by rw [ti_add (by omega) (by omega), hl]
  have s7 : (b 3 + rw').toInt = (b 3).toInt + r := by rw [ti_add (by omega) (by omega), hr]
  have s8 : (a 4 + lw).toInt = (a 4).toInt + l := by rw [ti_add (by omega) (by omega), hl]
  have s9 : (b 4 + rw').toInt = (b 4).toInt + r := by rw [ti_add (by omega) (by omega), hr]
  have sa : (a 5 + lw).toInt = (a 5).toInt + l := by rw [ti_add (by omega) (by omega), hl]
  have sb : (b 5 + rw').toInt = (b 5).toInt + r := by rw [ti_add (by omega) (by omega), hr]
  have f0 : jnF f a b lw rw' 0 = mx (a 0 - lw) (b 0 - rw') := rfl
  have f1 : jnF f a b lw rw' 1 = mn (a 1 + lw) (b 1 + rw') := rfl
  have f2 : jnF f a b lw rw' 2 = mx (a 2 - lw) (b 2 - rw') := rfl
  have f3 : jnF f a b lw rw' 3 = mn (a 3 + lw) (b 3 + rw') := rfl
  have f4 : jnF f a b lw rw' 4 = mn (a 4 + lw) (b 4 + rw') := rfl
  have f5 : jnF f a b lw rw' 5 = mx (a 5 + lw) (b 5 + rw') := rfl
  have da : ∀ k, k < 6 → m ∣ (a k).toInt := fun k hk => d4 (ad k hk)
  have db : ∀ k, k < 6 → m ∣ (b k).toInt := fun k hk => d4 (bd k hk)
  have n0 := mx_i (a := a 0 - lw) (b := b 0 - rw')
  have n1 := mn_i (a := a 1 + lw) (b := b 1 + rw')
  have n2 := mx_i (a := a 2 - lw) (b := b 2 - rw')
  have n3 := mn_i (a := a 3 + lw) (b := b 3 + rw')
  have n4 := mn_i (a := a 4 + lw) (b := b 4 + rw')
  have n5 := mx_i (a := a 5 + lw) (b := b 5 + rw')
  have D : ∀ k, k < 6 → m ∣ (jnF f a b lw rw' k).toInt := by
    intro k hk
    have : k = 0 ∨ k = 1 ∨ k = 2 ∨ k = 3 ∨ k = 4 ∨ k = 5 := by omega
    rcases this with rfl | rfl | rfl | rfl | rfl | rfl
    · rw [f0]; exact mx_d (by rw [s0]; exact Int.dvd_sub (da 0 (by decide)) ld) (by rw [s1]; exact Int.dvd_sub (db 0 (by decide)) rd)
    · rw [f1]; exact mn_d (by rw [s2]; exact Int.dvd_add (da 1 (by decide)) ld) (by rw [s3]; exact Int.dvd_add (db 1 (by decide)) rd)
    · rw [f2]; exact mx_d (by rw [s4]; exact Int.dvd_sub (da 2 (by decide)) ld) (by rw [s5]; exact Int.dvd_sub (db 2 (by decide)) rd)
    · rw [f3]; exact mn_d (by rw [s6]; exact Int.dvd_add (da 3 (by decide)) ld) (by rw [s7]; exact Int.dvd_add (db 3 (by decide)) rd)
    · rw [f4]; exact mn_d (by rw [s8]; exact Int.dvd_add (da 4 (by decide)) ld) (by rw [s9]; exact Int.dvd_add (db 4 (by decide)) rd)
    · rw [f5]; exact mx_d (by rw [sa]; exact Int.dvd_add (da 5 (by decide)) ld) (by rw [sb]; exact Int.dvd_add (db 5 (by decide)) rd)
  rw [s0, s1] at n0
  rw [s2, s3] at n1
  rw [s4, s5] at n2
  rw [s6, s7] at n3
  rw [s8, s9] at n4
  rw [sa, sb] at n5
  clear d4 da db ad bd
  unfold RG
  refine ⟨?_, ?_, ?_, D⟩
  · rw [f0, f1]
    clear n2 n3 n4 n5 f0 f1 f2 f3 f4 f5 D
    omega
  · rw [f2, f3]
    clear n0 n1 n4 n5 f0 f1 f2 f3 f4 f5 D
    omega
  · rw [f4, f5]
    clear n0 n1 n2 n3 f0 f1 f2 f3 f4 f5 D
    omega
end
theorem RG.mono {f : Nat → Int32} {sk B T M B' T' M' : Int} (h : RG f sk B T M) (hB : B ≤ B') (hT : T ≤ T') (hM : M' ∣ M) : RG f sk B' T' M' := by
  obtain ⟨⟨u1, u2, u3⟩, ⟨u4, u5, u6⟩, ⟨a1, a2, a3, a4⟩, ad⟩ := h
  exact ⟨⟨by omega, u2, by omega⟩, ⟨by omega, u5, by omega⟩, ⟨a1, a2, by omega, a4⟩, fun k hk => Int.dvd_trans hM (ad k hk)⟩
/-- the ranges of what is set -/
def VR (σ : cw_V) (t s : Nat) : Prop := (∀ k, k < s → (0 ≤ (σ (t + 1) k).toInt ∧ (σ (t + 1) k).toInt ≤ 63) ∧ (0 ≤ (σ (t + 2) k).toInt ∧ (σ (t + 2) k).toInt ≤ 63) ∧ (0 ≤ (σ (t + 3) k).toInt ∧ (σ (t + 3) k).toInt ≤ 99) ∧ 1 ≤ (σ (t + 4) k).toInt ∧ (σ (t + 4) k).toInt ≤ 9) ∧ (0 ≤ (σ t 9).toInt ∧ (σ t 9).toInt ≤ 99) ∧ (0 ≤ (σ t 10).toInt ∧ (σ t 10).toInt ≤ 63) ∧ 0 ≤ (σ t 11).toInt ∧ (σ t 11).toInt ≤ 63
def rB : Nat → Int
  | 0 => 0
  | h + 1 => 2 * rB h + 4128768
def rT : Nat → Int
  | 0 => 6488064
  | h + 1 => rT h + 8257536 + 2 * rB h
def rM : Nat → Int
  | 0 => 1
  | h + 1 => 4 * rM h
theorem u_i {x : Int32} {c : Int} (h0 : x.toInt = c) (h1 : -256 ≤ c) (h2 : c ≤ 256) : (x * 65536).toInt = c * 65536 := by
  have e : (65536 : Int32).toInt = 65536 := rfl
  rw [ti_mul (by rw [e]; omega) (by rw [e]; omega), e, h0]
theorem sink_i {f : Nat → Int32} {x y o l : Int32} {sk : Int} (hx : 0 ≤ x.toInt ∧ x.toInt ≤ 63) (hy : 0 ≤ y.toInt ∧ y.toInt ≤ 63) (ho : 0 ≤ o.toInt ∧ o.toInt ≤ 99) (hs : 0 ≤ sk) : RG (ssF f x y o l) sk 0 6488064 65536 := by
  have e1 := u_i (x := x + y) (c := x.toInt + y.toInt) (ti_add (by omega) (by omega)) (by omega) (by omega)
  have e2 := u_i (x := x - y) (c := x.toInt - y.toInt) (ti_sub (by omega) (by omega)) (by omega) (by omega)
  have e3 := u_i (x := o) (c := o.toInt) rfl (by omega) (by omega)
  have f0 : ssF f x y o l 0 = (x + y) * 65536 := rfl
  have f1 : ssF f x y o l 1 = (x + y) * 65536 := rfl
  have f2 : ssF f x y o l 2 = (x - y) * 65536 := rfl
  have f3 : ssF f x y o l 3 = (x - y) * 65536 := rfl
  have f4 : ssF f x y o l 4 = o * 65536 := rfl
  have f5 : ssF f x y o l 5 = o * 65536 := rfl
  unfold RG
  rw [f0, f1, f2, f3, f4, f5, e1, e2, e3]
  refine ⟨by omega, by omega, by omega, fun k hk => ?_⟩
  have : k = 0 ∨ k = 1 ∨ k = 2 ∨ k = 3 ∨ k = 4 ∨ k = 5 := by omega
  rcases this with rfl | rfl | rfl | rfl | rfl | rfl
  · rw [f0, e1]; exact Int.dvd_mul_left _ _
  · rw [f1, e1]; exact Int.dvd_mul_left _ _
  · rw [f2, e2]; exact Int.dvd_mul_left _ _
  · rw [f3, e2]; exact Int.dvd_mul_left _ _
  · rw [f4, e3]; exact Int.dvd_mul_left _ _
  · rw [f5, e3]; exact Int.dvd_mul_left _ _
theorem rB_0 : ∀ h, 0 ≤ rB h
  | 0 => Int.le_refl _
  | h + 1 => by have := rB_0 h; show (0 : Int) ≤ 2 * rB h + 4128768; omega
theorem rT_0 : ∀ h, 6488064 ≤ rT h
  | 0 => Int.le_refl _
  | h + 1 => by have := rT_0 h; have := rB_0 h; show (6488064 : Int) ≤ rT h + 8257536 + 2 * rB h; omega
theorem r_6 {h : Nat} (hh : h ≤ 6) : rB h ≤ 260112384 ∧ rT h ≤ 526712832 ∧ rM (8 - (h + 1)) * 4 = rM (8 - h) ∧ rM (8 - h) ∣ 65536 := by
  have : h = 0 ∨ h = 1 ∨ h = 2 ∨ h = 3 ∨ h = 4 ∨ h = 5 ∨ h = 6 := by omega
  rcases this with rfl | rfl | rfl | rfl | rfl | rfl | rfl <;> decide
theorem RG.eq {f g : Nat → Int32} {sk B T M : Int} (h : RG f sk B T M) (e : ∀ k, k < 6 → g k = f k) : RG g sk B T M := by
  unfold RG
  rw [e 0 (by decide), e 1 (by decide), e 2 (by decide), e 3 (by decide), e 4 (by decide), e 5 (by decide)]
  exact ⟨h.1, h.2.1, h.2.2.1, fun k hk => by rw [e k hk]; exact h.2.2.2 k hk⟩
section
variable {σ : cw_V} {t s : Nat}
theorem lab_rg (hW : WF σ t s) (hV : VR σ t s) {U : Int32 → Nat → Int32} (hU : Lab σ t U) {ρ : Nat → Nat} (hρ : Dep s (σ (t + 6)) (σ (t + 8)) ρ) : ∀ h, h ≤ 7 → ∀ n, nodeN s (σ (t + 6)) n → 7 ≤ ρ n + h → RG (U (nI n)) (skT σ t).toInt (rB h) (rT h) (rM (8 - h)) := by
  have hsk : (skT σ t).toInt = (σ t 9).toInt * 65536 := u_i rfl (by have := hV.2.1; omega) (by have := hV.2.1; omega)
  have sinkOk : ∀ n, n < s → ∀ h, h ≤ 7 → RG (U (nI n)) (skT σ t).toInt (rB h) (rT h) (rM (8 - h)) := by
    intro n hn h hh
    have h8 := hW.2.1
    have L := hU.2 (nI n) (hSink_nI hW.1 h8 hn)
    have e : nd (nI n) = n := nI_clamp (by omega)
    rw [e] at L
    have v := hV.1 n hn
    have := hV.2.1
    have r := sink_i (f := fun _ => 0) (l := σ (t + 4) n) (sk := (skT σ t).toInt) v.1 v.2.1 v.2.2.1 (by omega)
    have r' := r.eq L.six
    refine r'.mono (rB_0 h) (rT_0 h) ?_
    rcases Nat.lt_or_ge h 7 with q | q
    · exact (r_6 (by omega)).2.2.2
    · obtain rfl : h = 7 := by omega
      decide
  intro h
  induction h with
  | zero =>
    intro _ n hn hr
    rcases hn with z | ⟨z1, z2, z3⟩
    · exact sinkOk n z 0 (by omega)
    · obtain ⟨a, b, ea, eb, na, nb, nab, pa_a, pa_b⟩ := hW.2.dn z1 z2 z3
      have ra := (hρ a na).2 n z2 pa_a
      have := hW.2.depth hρ na
      omega
  | succ h ih =>
    intro hh n hn hr
    rcases hn with z | ⟨z1, z2, z3⟩
    · exact sinkOk n z (h + 1) hh
    · obtain ⟨a, b, ea, eb, na, nb, nab, pa_a, pa_b⟩ := hW.2.dn z1 z2 z3
      have ra := (hρ a na).2 n z2 pa_a
      have rb := (hρ b nb).2 n z2 pa_b
      have A := ih (by omega) a na (by omega)
      have Bb := ih (by omega) b nb (by omega)
      obtain ⟨q1, q2, q3, q4⟩ := r_6 (h := h) (by omega)
      have L := hU.1 (nI n) ((hJoint_nI z1 z2).mpr z3)
      have e1 : lfT σ t (nI n) = nI a := by unfold lfT nd; rw [nI_clamp (by omega)]; exact ea
      have e2 : rtT σ t (nI n) = nI b := by unfold rtT nd; rw [nI_clamp (by omega)]; exact eb
      rw [e1, e2] at L
      rw [← q3, Int.mul_comm] at A Bb q4
      have hv := hV.2.1
      have J := join_i (f := fun _ => 0) A Bb (rB_0 h) q1 (by have := rT_0 h; omega) q2 (by omega) (by omega) (by rw [hsk]; exact Int.dvd_trans q4 (Int.dvd_mul_left _ _))
      exact J.eq L.six
/-- so a region is never empty -/
theorem lab_le (hW : WF σ t s) (hV : VR σ t s) {U : Int32 → Nat → Int32} (hU : Lab σ t U) {n : Nat} (hn : nodeN s (σ (t + 6)) n) : U (nI n) 0 ≤ U (nI n) 1 ∧ U (nI n) 2 ≤ U (nI n) 3 := by
  obtain ⟨ρ, hρ⟩ := hW.2.2.2.2.2.2
  have := lab_rg hW hV hU hρ 7 (by omega) n hn (by omega)
  exact ⟨Int32.le_iff_toInt_le.mpr this.1.2.1, Int32.le_iff_toInt_le.mpr this.2.1.2.1⟩
end
