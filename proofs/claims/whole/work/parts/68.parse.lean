/-! READING A TEXT: the pure part. Depth; first and second part of each level; which sinks have occurred; the joints -/
abbrev PS : Type := Nat × (Nat → Int32) × (Nat → Int32) × Nat × List (Nat × Nat)
def wt (S : PS) : Prop := S.2.1 S.1 = -1 ∨ (0 < S.1 ∧ S.2.2.1 S.1 = -1)
def ad (v : Int32) (S : PS) : PS := if S.2.1 S.1 = -1 then (S.1, upd S.2.1 S.1 v, S.2.2.1, S.2.2.2) else (S.1, S.2.1, upd S.2.2.1 S.1 v, S.2.2.2)
def bitN (M k : Nat) : Nat := M / 2 ^ k % 2
noncomputable def stP (s b : Nat) (S : PS) : Option PS :=
  if b = 32 then some S
  else if b = 40 then pif (wt S) (some (S.1 + 1, upd S.2.1 (S.1 + 1) (-1), upd S.2.2.1 (S.1 + 1) (-1), S.2.2.2)) none
  else if b = 41 then pif (0 < S.1 ∧ S.2.2.1 S.1 ≠ -1) (some (ad (nI (8 + S.2.2.2.2.length)) (S.1 - 1, S.2.1, S.2.2.1, S.2.2.2.1, S.2.2.2.2 ++ [((S.2.1 S.1).toNatClampNeg, (S.2.2.1 S.1).toNatClampNeg)]))) none
  else pif (wt S ∧ 48 ≤ b ∧ b - 48 < s ∧ bitN S.2.2.2.1 (b - 48) = 0) (some (ad (nI (b - 48)) (S.1, S.2.1, S.2.2.1, S.2.2.2.1 + 2 ^ (b - 48), S.2.2.2.2))) none
def S0 : PS := (0, fun _ => -1, fun _ => -1, 0, [])
noncomputable def rn (s : Nat) (t : Nat → Nat) : Nat → Option PS
  | 0 => some S0
  | i + 1 => (rn s t i).bind (stP s (t i))
/-- the tree of a row of joints -/
def tj : List (Nat × Nat) → TT → Nat → TT
  | [], T, _ => T
  | x :: l, T, i => tj l (gTT (8 + i) x.1 x.2 T) (i + 1)
def okC (s : Nat) : List (Nat × Nat) → TT → Nat → Prop
  | [], _, _ => True
  | x :: l, T, i => okP s T x.1 x.2 (8 + i) ∧ okC s l (gTT (8 + i) x.1 x.2 T) (i + 1)
theorem tj_app {x : Nat × Nat} : ∀ (l : List (Nat × Nat)) (T : TT) (i : Nat), tj (l ++ [x]) T i = gTT (8 + (i + l.length)) x.1 x.2 (tj l T i)
  | [], T, i => rfl
  | y :: l, T, i => by
    show tj (l ++ [x]) (gTT (8 + i) y.1 y.2 T) (i + 1) = _
    rw [tj_app l _ (i + 1), List.length_cons, show i + 1 + l.length = i + (l.length + 1) by omega]
    rfl
theorem okC_app {s : Nat} {x : Nat × Nat} : ∀ (l : List (Nat × Nat)) (T : TT) (i : Nat), okC s l T i → okP s (tj l T i) x.1 x.2 (8 + (i + l.length)) → okC s (l ++ [x]) T i
  | [], T, i, _, h => ⟨h, trivial⟩
  | y :: l, T, i, h, h2 => by
    refine ⟨h.1, okC_app l _ (i + 1) h.2 ?_⟩
    rw [List.length_cons] at h2
    rw [show i + 1 + l.length = i + (l.length + 1) by omega]
    exact h2
def vlP (S : PS) (d : Nat) (b : Bool) : Int32 := bif b then S.2.2.1 d else S.2.1 d
def PI2 (s : Nat) (S : PS) (T : TT) : Prop :=
  (T = tj S.2.2.2.2 T0 0 ∧ okC s S.2.2.2.2 T0 0 ∧ WFt s T.1 T.2.1 T.2.2 ∧ ∀ n, 8 ≤ n → n < 15 → (T.1 n ≠ -1 ↔ n < 8 + S.2.2.2.2.length)) ∧
  (∀ d b, d ≤ S.1 → vlP S d b = -1 ∨ ∃ p, vlP S d b = nI p ∧ p < 15 ∧ nodeN s T.1 p ∧ T.2.2 p = -1 ∧ (p < 8 → bitN S.2.2.2.1 p = 1)) ∧
  (∀ d b d' b', d ≤ S.1 → d' ≤ S.1 → vlP S d b = vlP S d' b' → vlP S d b ≠ -1 → d = d' ∧ b = b') ∧
  (∀ d, d ≤ S.1 → S.2.2.1 d ≠ -1 → S.2.1 d ≠ -1) ∧ S.2.2.1 0 = -1 ∧ (∀ d, d < S.1 → S.2.1 d = -1 ∨ (0 < d ∧ S.2.2.1 d = -1)) ∧ (∀ k, k < s → bitN S.2.2.2.1 k = 0 → T.2.2 k = -1) ∧ S.2.2.2.1 < 256
theorem bit_01 {M k : Nat} : bitN M k = 0 ∨ bitN M k = 1 := by unfold bitN; omega
theorem bit_add : ∀ M : Nat, M < 256 → ∀ k : Nat, k < 8 → bitN M k = 0 → M + 2 ^ k < 256 ∧ ∀ i : Nat, i < 8 → bitN (M + 2 ^ k) i = if i = k then 1 else bitN M i := by
  have h : ∀ M : Fin 256, ∀ k : Fin 8, bitN M k = 0 → M.val + 2 ^ k.val < 256 ∧ ∀ i : Fin 8, bitN (M + 2 ^ k.val) i = if i.val = k.val then 1 else bitN M i := by decide +kernel
  intro M hM k hk hb
  obtain ⟨h1, h2⟩ := h ⟨M, hM⟩ ⟨k, hk⟩ hb
  refine ⟨h1, fun i hi => ?_⟩
  exact h2 ⟨i, hi⟩
theorem bit_int : ∀ M : Nat, M < 256 → ∀ k : Nat, k < 8 → ((nI M &&& ((1 : Int32) <<< (nI k &&& 31))) = 0 ↔ bitN M k = 0) ∧ (bitN M k = 0 → (nI M ||| ((1 : Int32) <<< (nI k &&& 31))) = nI (M + 2 ^ k)) := by
  have h : ∀ M : Fin 256, ∀ k : Fin 8, ((nI M &&& ((1 : Int32) <<< (nI k &&& 31))) = 0 ↔ bitN M k = 0) ∧ (bitN M k = 0 → (nI M ||| ((1 : Int32) <<< (nI k &&& 31))) = nI (M + 2 ^ k.val)) := by decide +kernel
  intro M hM k hk
  exact h ⟨M, hM⟩ ⟨k, hk⟩
section
variable {s : Nat} {S S' : PS} {T : TT}
theorem ad_vl {v : Int32} {d : Nat} {b : Bool} : vlP (ad v S) d b = if d = S.1 ∧ b = !decide (S.2.1 S.1 = -1) then v else vlP S d b := by
  unfold ad
  by_cases h : S.2.1 S.1 = -1
  · rw [if_pos h, decide_eq_true h]
    cases b
    · show upd S.2.1 S.1 v d = _
      unfold upd
      by_cases z : d = S.1
      · rw [if_pos z, if_pos ⟨z, rfl⟩]
      · rw [if_neg z, if_neg (fun q => z q.1)]; rfl
    · show S.2.2.1 d = _
      rw [if_neg (fun q => absurd q.2 (by decide))]; rfl
  · rw [if_neg h, decide_eq_false h]
    cases b
    · show S.2.1 d = _
      rw [if_neg (fun q => absurd q.2 (by decide))]; rfl
    · show upd S.2.2.1 S.1 v d = _
      unfold upd
      by_cases z : d = S.1
      · rw [if_pos z, if_pos ⟨z, rfl⟩]
      · rw [if_neg z, if_neg (fun q => z q.1)]; rfl
theorem adp_1 {v : Int32} : (ad v S).1 = S.1 ∧ (ad v S).2.2.2 = S.2.2.2 := by
  unfold ad
  split <;> exact ⟨rfl, rfl⟩
/-- a part comes to the level that waits for it -/
theorem PI2.add {p : Nat} (hT : T = tj S.2.2.2.2 T0 0 ∧ okC s S.2.2.2.2 T0 0 ∧ WFt s T.1 T.2.1 T.2.2 ∧ ∀ n, 8 ≤ n → n < 15 → (T.1 n ≠ -1 ↔ n < 8 + S.2.2.2.2.length))
    (h2 : ∀ d b, d ≤ S.1 → vlP S d b = -1 ∨ ∃ p, vlP S d b = nI p ∧ p < 15 ∧ nodeN s T.1 p ∧ T.2.2 p = -1 ∧ (p < 8 → bitN S.2.2.2.1 p = 1))
    (h3 : ∀ d b d' b', d ≤ S.1 → d' ≤ S.1 → vlP S d b = vlP S d' b' → vlP S d b ≠ -1 → d = d' ∧ b = b')
    (h4 : ∀ d, d ≤ S.1 → S.2.2.1 d ≠ -1 → S.2.1 d ≠ -1) (h5 : S.2.2.1 0 = -1) (h6 : ∀ d, d < S.1 → S.2.1 d = -1 ∨ (0 < d ∧ S.2.2.1 d = -1)) (h7 : ∀ k, k < s → bitN S.2.2.2.1 k = 0 → T.2.2 k = -1) (h8 : S.2.2.2.1 < 256)
    (hw : wt S) (hp15 : p < 15) (hpn : nodeN s T.1 p) (hpt : T.2.2 p = -1) (hpb : p < 8 → bitN S.2.2.2.1 p = 1) (hpd : ∀ d b, d ≤ S.1 → vlP S d b ≠ nI p) : PI2 s (ad (nI p) S) T := by
  obtain ⟨a1, a2⟩ := adp_1 (S := S) (v := nI p)
  have aJ : (ad (nI p) S).2.2.2.2 = S.2.2.2.2 := by rw [a2]
  have aM : (ad (nI p) S).2.2.2.1 = S.2.2.2.1 := by rw [a2]
  have vf : ∀ d, (ad (nI p) S).2.1 d = vlP (ad (nI p) S) d false := fun d => rfl
  have vg : ∀ d, (ad (nI p) S).2.2.1 d = vlP (ad (nI p) S) d true := fun d => rfl
  refine ⟨by rw [aJ]; exact hT, fun d b hd => ?_, fun d b d' b' hd hd' e hne => ?_, fun d hd hg => ?_, ?_, fun d hd => ?_, by rw [aM]; exact h7, by rw [aM]; exact h8⟩
  · rw [a1] at hd
    rw [ad_vl, aM]
    split
    · exact Or.inr ⟨p, rfl, hp15, hpn, hpt, hpb⟩
    · exact h2 d b hd
  · rw [a1] at hd hd'
    rw [ad_vl, ad_vl] at e
    rw [ad_vl] at hne
    by_cases z : d = S.1 ∧ b = !decide (S.2.1 S.1 = -1)
    · by_cases z' : d' = S.1 ∧ b' = !decide (S.2.1 S.1 = -1)
      · exact ⟨z.1.trans z'.1.symm, z.2.trans z'.2.symm⟩
      · rw [if_pos z, if_neg z'] at e
        exact absurd e.symm (hpd d' b' hd')
    · rw [if_neg z] at e hne
      by_cases z' : d' = S.1 ∧ b' = !decide (S.2.1 S.1 = -1)
      · rw [if_pos z'] at e
        exact absurd e (hpd d b hd)
      · rw [if_neg z'] at e
        exact h3 d b d' b' hd hd' e hne
  · rw [a1] at hd
    rw [vg, ad_vl] at hg
    rw [vf, ad_vl]
    by_cases z : S.2.1 S.1 = -1
    · rw [decide_eq_true z] at hg ⊢
      by_cases q : d = S.1
      · rw [if_pos ⟨q, rfl⟩]; exact nI_ne1 (by omega)
      · rw [if_neg (fun w => q w.1)] at hg ⊢
        exact h4 d hd hg
    · rw [decide_eq_false z] at hg ⊢
      rw [if_neg (fun w => absurd w.2 (by decide))]
      by_cases q : d = S.1
      · rw [q]; exact z
      · rw [if_neg (fun w => q w.1)] at hg
        exact h4 d hd hg
  · rw [vg, ad_vl]
    by_cases z : S.2.1 S.1 = -1
    · rw [decide_eq_true z, if_neg (fun w => absurd w.2 (by decide))]; exact h5
    · have := (hw.resolve_left z).1
      rw [if_neg (fun w => by omega)]; exact h5
  · rw [a1] at hd
    rw [vf, vg, ad_vl, ad_vl, if_neg (fun w => by omega), if_neg (fun w => by omega)]
    exact h6 d hd
theorem PI2.step {b : Nat} (h : PI2 s S T) (hs : s ≤ 8) (e : stP s b S = some S') : (∃ T', PI2 s S' T') ∧ S'.1 ≤ S.1 + 1 := by
  obtain ⟨h1, h2, h3, h4, h5, h6, h7, h8⟩ := h
  unfold stP at e
  by_cases b32 : b = 32
  · rw [if_pos b32] at e
    cases e
    exact ⟨⟨T, h1, h2, h3, h4, h5, h6, h7, h8⟩, by omega⟩
  · rw [if_neg b32] at e
    by_cases b40 : b = 40
    · rw [if_pos b40] at e
      rcases Classical.em (wt S) with hw | hw
      · rw [pif_p hw] at e
        cases e
        have v1 : ∀ d b, d ≤ S.1 → vlP (S.1 + 1, upd S.2.1 (S.1 + 1) (-1), upd S.2.2.1 (S.1 + 1) (-1), S.2.2.2) d b = vlP S d b := fun d b hd => by
          cases b
          · exact upd_ne (by omega)
          · exact upd_ne (by omega)
        have v2 : ∀ b, vlP (S.1 + 1, upd S.2.1 (S.1 + 1) (-1), upd S.2.2.1 (S.1 + 1) (-1), S.2.2.2) (S.1 + 1) b = -1 := fun b => by
          cases b
          · exact upd_eq
          · exact upd_eq
        refine ⟨⟨T, h1, fun d b hd => ?_, fun d b d' b' hd hd' e hne => ?_, fun d hd hg => ?_, ?_, fun d hd => ?_, h7, h8⟩, Nat.le_refl _⟩
        · by_cases z : d ≤ S.1
          · rw [v1 d b z]; exact h2 d b z
          · obtain rfl : d = S.1 + 1 := by have : d ≤ S.1 + 1 := hd; omega
            exact Or.inl (v2 b)
        · have z : d ≤ S.1 := by
            rcases Nat.lt_or_ge S.1 d with q | q
            · obtain rfl : d = S.1 + 1 := by have : d ≤ S.1 + 1 := hd; omega
              exact absurd (v2 b) hne
            · exact q
          have z' : d' ≤ S.1 := by
            rcases Nat.lt_or_ge S.1 d' with q | q
            · obtain rfl : d' = S.1 + 1 := by have : d' ≤ S.1 + 1 := hd'; omega
              exact absurd (e.trans (v2 b')) hne
            · exact q
          rw [v1 d b z] at e hne
          rw [v1 d' b' z'] at e
          exact h3 d b d' b' z z' e hne
        · by_cases z : d ≤ S.1
          · have g1 : vlP (S.1 + 1, upd S.2.1 (S.1 + 1) (-1), upd S.2.2.1 (S.1 + 1) (-1), S.2.2.2) d true ≠ -1 := hg
            rw [v1 d true z] at g1
            have := h4 d z g1
            show vlP (S.1 + 1, upd S.2.1 (S.1 + 1) (-1), upd S.2.2.1 (S.1 + 1) (-1), S.2.2.2) d false ≠ -1
            rw [v1 d false z]
            exact this
          · obtain rfl : d = S.1 + 1 := by have : d ≤ S.1 + 1 := hd; omega
            exact absurd (v2 true) hg
        · exact (v1 0 true (by omega)).trans h5
        · have hd' : d < S.1 + 1 := hd
          have f1 : upd S.2.1 (S.1 + 1) (-1) d = S.2.1 d := v1 d false (by omega)
          have f2 : upd S.2.2.1 (S.1 + 1) (-1) d = S.2.2.1 d := v1 d true (by omega)
          show upd S.2.1 (S.1 + 1) (-1) d = -1 ∨ (0 < d ∧ upd S.2.2.1 (S.1 + 1) (-1) d = -1)
          rw [f1, f2]
          by_cases z : d < S.1
          · exact h6 d z
          · obtain rfl : d = S.1 := by omega
            exact hw
      · rw [pif_n hw] at e; cases e
    · rw [if_neg b40] at e
      by_cases b41 : b = 41
      · rw [if_pos b41] at e
        rcases Classical.em (0 < S.1 ∧ S.2.2.1 S.1 ≠ -1) with hc | hc
        · rw [pif_p hc] at e
          cases e
          obtain ⟨hD, hg⟩ := hc
          have hf := h4 S.1 (Nat.le_refl _) hg
          obtain ⟨a, ea, a15, na, ta, ba⟩ := (h2 S.1 false (Nat.le_refl _)).resolve_left hf
          obtain ⟨b', eb, b15, nb, tb, bb⟩ := (h2 S.1 true (Nat.le_refl _)).resolve_left hg
          have ea' : S.2.1 S.1 = nI a := ea
          have eb' : S.2.2.1 S.1 = nI b' := eb
          have hab : a ≠ b' := fun z => by
            have := (h3 S.1 false S.1 true (Nat.le_refl _) (Nat.le_refl _) (ea.trans (by rw [z]; exact eb.symm)) hf).2
            cases this
          obtain ⟨hTj, hok, hWT, hjn⟩ := h1
          obtain ⟨j, hj⟩ := hWT.free na nb hab ta tb
          have hjj : j = 8 + S.2.2.2.2.length := by
            have q1 : ¬ j < 8 + S.2.2.2.2.length := fun z => (hjn j hj.1.1 hj.1.2).mpr z hj.2.1
            rcases Nat.lt_or_ge (8 + S.2.2.2.2.length) j with q | q
            · have := (hjn (8 + S.2.2.2.2.length) (by omega) (by have := hj.1.2; omega)).mp (hj.2.2 _ (by omega) q)
              omega
            · omega
          subst hjj
          have j15 := hj.1.2
          have hokP : okP s T a b' (8 + S.2.2.2.2.length) := ⟨na, nb, hab, ta, tb, hj⟩
          have jn : ¬ nodeN s T.1 (8 + S.2.2.2.2.length) := by
            rintro (z | z)
            · omega
            · exact z.2.2 hj.2.1
          rw [ea', eb', nI_clamp (show a < 2 ^ 31 by omega), nI_clamp (show b' < 2 ^ 31 by omega)]
          have nn : ∀ x, nodeN s (gTT (8 + S.2.2.2.2.length) a b' T).1 x ↔ (nodeN s T.1 x ∨ x = 8 + S.2.2.2.2.length) := fun x => nodeN_g (by omega) j15 a15
          have keep : ∀ x, x ≠ 8 + S.2.2.2.2.length → x ≠ a → x ≠ b' → (gTT (8 + S.2.2.2.2.length) a b' T).2.2 x = T.2.2 x := fun x x1 x2 x3 => by
            show gP T.2.2 _ a b' x = _
            unfold gP
            rw [if_neg x1, if_neg (fun z => z.elim x2 x3)]
          have old : ∀ d b p, d ≤ S.1 - 1 → vlP S d b = nI p → p < 15 → p ≠ a ∧ p ≠ b' := fun d b p hd ev hp => by
            refine ⟨fun z => ?_, fun z => ?_⟩
            · have := (h3 d b S.1 false (by omega) (Nat.le_refl _) (ev.trans (by rw [z]; exact ea.symm)) (by rw [ev]; exact nI_ne1 (by omega))).1
              omega
            · have := (h3 d b S.1 true (by omega) (Nat.le_refl _) (ev.trans (by rw [z]; exact eb.symm)) (by rw [ev]; exact nI_ne1 (by omega))).1
              omega
          refine ⟨⟨gTT (8 + S.2.2.2.2.length) a b' T, PI2.add (T := gTT (8 + S.2.2.2.2.length) a b' T) ⟨?_, ?_, hokP.wf hWT, fun n n8 n15 => ?_⟩ (fun d b hd => ?_) (fun d b d' b2 hd hd' => ?_) (fun d hd => ?_) h5 (fun d hd => ?_) (fun k hk hb => ?_) h8 ?_ j15 ((nn _).mpr (Or.inr rfl)) ?_ (fun z => by omega) (fun d b hd z => ?_)⟩, ?_⟩
          · show _ = tj (S.2.2.2.2 ++ [(a, b')]) T0 0
            rw [tj_app, ← hTj, Nat.zero_add]
          · show okC s (S.2.2.2.2 ++ [(a, b')]) T0 0
            refine okC_app _ _ _ hok ?_
            rw [← hTj, Nat.zero_add]
            exact hokP
          · show gL T.1 (8 + S.2.2.2.2.length) a n ≠ -1 ↔ n < 8 + (S.2.2.2.2 ++ [(a, b')]).length
            rw [List.length_append, List.length_singleton]
            have q := hjn n n8 n15
            unfold gL
            by_cases z : n = 8 + S.2.2.2.2.length
            · rw [if_pos z]
              exact ⟨fun _ => by omega, fun _ => nI_ne1 (by omega)⟩
            · rw [if_neg z]
              by_cases w : T.1 n = nI a
              · rw [if_pos w]
                have := q.mp (by rw [w]; exact nI_ne1 (by omega))
                exact ⟨fun _ => by omega, fun _ => nI_ne1 (by omega)⟩
              · rw [if_neg w, q]
                omega
          · have hd' : d ≤ S.1 - 1 := hd
            rcases h2 d b (by omega) with z | ⟨p, p1, p2, p3, p4, p5⟩
            · exact Or.inl z
            · have o := old d b p hd' p1 p2
              exact Or.inr ⟨p, p1, p2, (nn p).mpr (Or.inl p3), (keep p (fun z => jn (z ▸ p3)) o.1 o.2).trans p4, p5⟩
          · have hd1 : d ≤ S.1 - 1 := hd
            have hd2 : d' ≤ S.1 - 1 := hd'
            exact h3 d b d' b2 (by omega) (by omega)
          · have hd1 : d ≤ S.1 - 1 := hd
            exact h4 d (by omega)
          · have hd1 : d < S.1 - 1 := hd
            exact h6 d (by omega)
          · have k1 : k ≠ a := fun z => by subst z; have := ba (by omega); rw [show bitN S.2.2.2.1 k = 0 from hb] at this; omega
            have k2 : k ≠ b' := fun z => by subst z; have := bb (by omega); rw [show bitN S.2.2.2.1 k = 0 from hb] at this; omega
            exact (keep k (by omega) k1 k2).trans (h7 k hk hb)
          · exact h6 (S.1 - 1) (by omega)
          · show gP T.2.2 _ a b' _ = -1
            unfold gP
            rw [if_pos rfl]
            exact ta
          · have hd1 : d ≤ S.1 - 1 := hd
            rcases h2 d b (by omega) with q | ⟨p, p1, p2, p3, p4, p5⟩
            · exact nI_ne1 (show 8 + S.2.2.2.2.length < 2 ^ 31 by omega) (z.symm.trans q)
            · have := nI_inj (by omega) (by omega) (p1.symm.trans z)
              exact jn (this ▸ p3)
          · rw [adp_1.1]
            show S.1 - 1 ≤ S.1 + 1
            omega
        · rw [pif_n hc] at e; cases e
      · rw [if_neg b41] at e
        rcases Classical.em (wt S ∧ 48 ≤ b ∧ b - 48 < s ∧ bitN S.2.2.2.1 (b - 48) = 0) with hc | hc
        · rw [pif_p hc] at e
          cases e
          obtain ⟨hw, hb, hk, hbit⟩ := hc
          obtain ⟨m1, m2⟩ := bit_add _ h8 (b - 48) (by omega) hbit
          refine ⟨⟨T, PI2.add (S := (S.1, S.2.1, S.2.2.1, S.2.2.2.1 + 2 ^ (b - 48), S.2.2.2.2)) h1 (fun d b' hd => ?_) h3 h4 h5 h6 (fun k hk' hb' => ?_) m1 hw (by omega) (Or.inl hk) (h7 _ hk hbit) (fun _ => ?_) (fun d b' hd z => ?_)⟩, ?_⟩
          · rcases h2 d b' hd with q | ⟨p, p1, p2, p3, p4, p5⟩
            · exact Or.inl q
            · refine Or.inr ⟨p, p1, p2, p3, p4, fun hp => ?_⟩
              show bitN (S.2.2.2.1 + 2 ^ (b - 48)) p = 1
              rw [m2 p hp]
              split
              · rfl
              · exact p5 hp
          · have hb2 : bitN (S.2.2.2.1 + 2 ^ (b - 48)) k = 0 := hb'
            rw [m2 k (by omega)] at hb2
            split at hb2
            · omega
            · exact h7 k hk' hb2
          · show bitN (S.2.2.2.1 + 2 ^ (b - 48)) (b - 48) = 1
            rw [m2 _ (by omega), if_pos rfl]
          · rcases h2 d b' hd with q | ⟨p, p1, p2, p3, p4, p5⟩
            · exact nI_ne1 (show b - 48 < 2 ^ 31 by omega) (z.symm.trans q)
            · have hp : p = b - 48 := nI_inj (by omega) (by omega) (p1.symm.trans z)
              subst hp
              have := p5 (by omega)
              omega
          · rw [adp_1.1]
            show S.1 ≤ S.1 + 1
            omega
        · rw [pif_n hc] at e; cases e
theorem PI2.s0 (hs : s ≤ 8) : PI2 s S0 T0 := by
  have v : ∀ d b, vlP S0 d b = -1 := fun d b => by cases b <;> rfl
  exact ⟨⟨rfl, trivial, WFt.none hs (fun _ _ => rfl) (fun _ _ => rfl) (fun _ _ => rfl), fun n h1 h2 => ⟨fun z => absurd rfl z, fun z => by have : n < 8 + 0 := z; omega⟩⟩, fun d b _ => Or.inl (v d b), fun d b d' b' _ _ _ hne => absurd (v d b) hne, fun d _ hg => absurd rfl hg, rfl, fun d hd => by have : d < 0 := hd; omega, fun _ _ _ => rfl, by show 0 < 256; omega⟩
theorem rn_ok {t : Nat → Nat} (hs : s ≤ 8) : ∀ i S, rn s t i = some S → (∃ T, PI2 s S T) ∧ S.1 ≤ i := by
  intro i
  induction i with
  | zero =>
    intro S e
    cases e
    exact ⟨⟨T0, PI2.s0 hs⟩, Nat.le_refl 0⟩
  | succ i ih =>
    intro S e
    have e2 : (rn s t i).bind (stP s (t i)) = some S := e
    cases hr : rn s t i with
    | none => rw [hr] at e2; cases e2
    | some S1 =>
      rw [hr] at e2
      obtain ⟨⟨T, hT⟩, hD⟩ := ih S1 hr
      obtain ⟨h1, h2⟩ := hT.step hs e2
      exact ⟨h1, by omega⟩
end
