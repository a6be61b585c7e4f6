/-! THE ABSTRACT MACHINE: cells by their places; an instruction is a function to what is done next -/
abbrev cw_L : Type := List (Option Value)
abbrev cw_C : Type := (Nat × vp_A) ⊕ (Nat × List Value)
abbrev cw_H : Type := List cw_C
/-- what is done next: go on; a test; a call; a return; a new cell (and its slots); a call of a constructor -/
abbrev cw_A : Type := (Nat × cw_L × List Value × cw_H) ⊕ ((Bool × Nat × Nat × cw_L × List Value × cw_H) ⊕ ((Nat × List Value × Nat × cw_L × List Value × cw_H) ⊕ ((Option Value × cw_H) ⊕ ((cw_C × Nat × Nat × cw_L × List Value × cw_H) ⊕ (Nat × List Value × Nat × cw_L × List Value × cw_H)))))
abbrev cw_S : Type := Nat → cw_L → List Value → cw_H → Option cw_A
abbrev cw_go (pc : Nat) (L : cw_L) (S : List Value) (h : cw_H) : Option cw_A := some (.inl (pc, L, S, h))
abbrev cw_br (b : Bool) (t f : Nat) (L : cw_L) (S : List Value) (h : cw_H) : Option cw_A := some (.inr (.inl (b, t, f, L, S, h)))
abbrev cw_ca (M : Nat) (as : List Value) (pc : Nat) (L : cw_L) (S : List Value) (h : cw_H) : Option cw_A := some (.inr (.inr (.inl (M, as, pc, L, S, h))))
abbrev cw_re (r : Option Value) (h : cw_H) : Option cw_A := some (.inr (.inr (.inr (.inl (r, h)))))
abbrev cw_ne (c : cw_C) (n pc : Nat) (L : cw_L) (S : List Value) (h : cw_H) : Option cw_A := some (.inr (.inr (.inr (.inr (.inl (c, n, pc, L, S, h))))))
abbrev cw_ci (M : Nat) (as : List Value) (pc : Nat) (L : cw_L) (S : List Value) (h : cw_H) : Option cw_A := some (.inr (.inr (.inr (.inr (.inr (M, as, pc, L, S, h))))))
/-- how many slots the cells have -/
def cw_sz (c : cw_C) : Nat := match c with
  | .inl a => a.2.1
  | .inr o => o.2.length
def cw_hd (h : cw_H) : List Nat := h.map cw_sz
def cw_sl (h : cw_H) : Nat := (cw_hd h).sum
/-- all references are of places below n -/
def cw_vo (n : Nat) (v : Value) : Bool := match v with
  | .ref k => decide (k < n)
  | _ => true
def cw_lo (n : Nat) (L : cw_L) : Bool := L.all fun o => match o with
  | some v => cw_vo n v
  | none => true
def cw_so (n : Nat) (S : List Value) : Bool := S.all (cw_vo n)
def cw_qo (n : Nat) (f : Nat → Option Nat) : Nat → Bool
  | 0 => true
  | k + 1 => (match f k with
    | some p => decide (p < n)
    | none => true) && cw_qo n f k
def cw_co (n : Nat) (c : cw_C) : Bool := match c with
  | .inl (_, len, .inr (.inr (.inr (.inr f)))) => cw_qo n f len
  | .inl _ => true
  | .inr (_, fs) => fs.all (cw_vo n)
def cw_ho (n : Nat) (h : cw_H) : Bool := h.all (cw_co n)
/-- stack words of what lies below a call -/
def cw_ct (S : List Value) : Nat := (S.map fun v => v.category).sum
/-- locals -/
def cw_kill (i : Nat) (L : cw_L) : cw_L := match i with
  | 0 => L
  | k + 1 => match L[k]? with
    | some (some (.long _)) => L.set k none
    | some (some (.double _)) => L.set k none
    | _ => L
def cw_sto (i : Nat) (v : Value) (L : cw_L) : cw_L := (cw_kill i L).set i (some v)
def cw_stl (i : Nat) (v : Value) (L : cw_L) : cw_L := ((cw_kill i L).set (i + 1) none).set i (some v)
/-! the instructions -/
def s_iload (i nx : Nat) : cw_S := fun _ L S h => match L[i]? with
  | some (some (.int x)) => cw_go nx L (.int x :: S) h
  | _ => none
def s_lload (i nx : Nat) : cw_S := fun _ L S h => match L[i]? with
  | some (some (.long x)) => cw_go nx L (.long x :: S) h
  | _ => none
def s_aload (i nx : Nat) : cw_S := fun _ L S h => match L[i]? with
  | some (some (.ref x)) => cw_go nx L (.ref x :: S) h
  | _ => none
def s_istore (i nx : Nat) : cw_S := fun _ L S h => match S with
  | .int x :: r => if i < L.length then cw_go nx (cw_sto i (.int x) L) r h else none
  | _ => none
def s_astore (i nx : Nat) : cw_S := fun _ L S h => match S with
  | .ref x :: r => if i < L.length then cw_go nx (cw_sto i (.ref x) L) r h else none
  | _ => none
def s_lstore (i nx : Nat) : cw_S := fun _ L S h => match S with
  | .long x :: r => if i + 1 < L.length then cw_go nx (cw_stl i (.long x) L) r h else none
  | _ => none
def s_iinc (i : Nat) (v : Int32) (nx : Nat) : cw_S := fun _ L S h => match L[i]? with
  | some (some (.int x)) => cw_go nx (cw_sto i (.int (x + v)) L) S h
  | _ => none
def s_iconst (v : Int32) (nx : Nat) : cw_S := fun _ L S h => cw_go nx L (.int v :: S) h
def s_lconst (v : Int64) (nx : Nat) : cw_S := fun _ L S h => cw_go nx L (.long v :: S) h
def s_ibin (f : Int32 → Int32 → Int32) (nx : Nat) : cw_S := fun _ L S h => match S with
  | .int y :: .int x :: r => cw_go nx L (.int (f x y) :: r) h
  | _ => none
def s_idiv (f : Int32 → Int32 → Int32) (nx : Nat) : cw_S := fun _ L S h => match S with
  | .int y :: .int x :: r => if y = 0 then none else cw_go nx L (.int (f x y) :: r) h
  | _ => none
def s_ineg (nx : Nat) : cw_S := fun _ L S h => match S with
  | .int x :: r => cw_go nx L (.int (-x) :: r) h
  | _ => none
def s_i2l (nx : Nat) : cw_S := fun _ L S h => match S with
  | .int x :: r => cw_go nx L (.long x.toInt64 :: r) h
  | _ => none
def s_lbin (f : Int64 → Int64 → Int64) (nx : Nat) : cw_S := fun _ L S h => match S with
  | .long y :: .long x :: r => cw_go nx L (.long (f x y) :: r) h
  | _ => none
def s_lcmp (nx : Nat) : cw_S := fun _ L S h => match S with
  | .long y :: .long x :: r => cw_go nx L (.int (lg_cmp x y) :: r) h
  | _ => none
def s_dup (nx : Nat) : cw_S := fun _ L S h => match S with
  | v :: r => if v.category = 1 then cw_go nx L (v :: v :: r) h else none
  | _ => none
def s_dup2 (nx : Nat) : cw_S := fun _ L S h => match S with
  | v :: w :: r => if v.category = 1 ∧ w.category = 1 then cw_go nx L (v :: w :: v :: w :: r) h else none
  | _ => none
def s_pop (nx : Nat) : cw_S := fun _ L S h => match S with
  | v :: r => if v.category = 1 then cw_go nx L r h else none
  | _ => none
def s_goto (t : Nat) : cw_S := fun _ L S h => cw_go t L S h
def s_if (P : Int32 → Bool) (t nx : Nat) : cw_S := fun _ L S h => match S with
  | .int x :: r => cw_br (P x) t nx L r h
  | _ => none
def s_icmp (P : Int32 → Int32 → Bool) (t nx : Nat) : cw_S := fun _ L S h => match S with
  | .int y :: .int x :: r => cw_br (P x y) t nx L r h
  | _ => none
/-- a switch: the key's targets in a row, then the rest -/
def s_switch (ks : List (Int × Nat)) (dflt : Nat) : cw_S := fun _ L S h => match S with
  | .int x :: r => cw_go ((ks.lookup x.toInt).getD dflt) L r h
  | _ => none
def s_get (ci k nx : Nat) : cw_S := fun _ L S h => match S with
  | .ref p :: r => match h[p]? with
    | some (.inr (c, fs)) => if c = ci then (match fs[k]? with
      | some v => cw_go nx L (v :: r) h
      | none => none) else none
    | _ => none
  | _ => none
/-- what a field of a kind takes: 0 an int, 1 a boolean, 2 a reference -/
def cw_takes (kd : Nat) (v : Value) : Bool := match kd, v with
  | 0, .int _ => true
  | 1, .int x => x == 0 || x == 1
  | 2, .ref _ => true
  | _, _ => false
def s_put (ci k kd nx : Nat) : cw_S := fun _ L S h => match S with
  | v :: .ref p :: r => match h[p]? with
    | some (.inr (c, fs)) => if c = ci ∧ k < fs.length ∧ cw_takes kd v = true then cw_go nx L r (h.set p (.inr (c, fs.set k v))) else none
    | _ => none
  | _ => none
def cw_in (i : Int32) (n : Nat) : Bool := decide (¬ i < 0) && decide (i.toNatClampNeg < n)
def s_iald (nx : Nat) : cw_S := fun _ L S h => match S with
  | .int i :: .ref p :: r => match h[p]? with
    | some (.inl (0, n, .inl f)) => if cw_in i n = true then cw_go nx L (.int (f i.toNatClampNeg) :: r) h else none
    | _ => none
  | _ => none
def s_iast (nx : Nat) : cw_S := fun _ L S h => match S with
  | .int x :: .int i :: .ref p :: r => match h[p]? with
    | some (.inl (0, n, .inl f)) => if cw_in i n = true then cw_go nx L r (h.set p (.inl (0, n, .inl (upd f i.toNatClampNeg x)))) else none
    | _ => none
  | _ => none
def s_lald (nx : Nat) : cw_S := fun _ L S h => match S with
  | .int i :: .ref p :: r => match h[p]? with
    | some (.inl (1, n, .inr (.inl f))) => if cw_in i n = true then cw_go nx L (.long (f i.toNatClampNeg) :: r) h else none
    | _ => none
  | _ => none
def s_last (nx : Nat) : cw_S := fun _ L S h => match S with
  | .long x :: .int i :: .ref p :: r => match h[p]? with
    | some (.inl (1, n, .inr (.inl f))) => if cw_in i n = true then cw_go nx L r (h.set p (.inl (1, n, .inr (.inl (vp_updL f i.toNatClampNeg x))))) else none
    | _ => none
  | _ => none
def s_aald (nx : Nat) : cw_S := fun _ L S h => match S with
  | .int i :: .ref p :: r => match h[p]? with
    | some (.inl (t + 2, n, .inr (.inr (.inr (.inr f))))) => if t < 2 ∧ cw_in i n = true then (match f i.toNatClampNeg with
      | some q => cw_go nx L (.ref q :: r) h
      | none => none) else none
    | _ => none
  | _ => none
/-- the classes of which rows are made: 2 Trees, 3 Parts; their numbers -/
def cw_rc (t : Nat) : Nat := if t = 2 then 6 else 2
def s_aast (nx : Nat) : cw_S := fun _ L S h => match S with
  | .ref v :: .int i :: .ref p :: r => match h[p]?, h[v]? with
    | some (.inl (t + 2, n, .inr (.inr (.inr (.inr f))))), some (.inr (c, _)) => if t < 2 ∧ c = cw_rc (t + 2) ∧ cw_in i n = true then cw_go nx L r (h.set p (.inl (t + 2, n, .inr (.inr (.inr (.inr (va_up f i.toNatClampNeg (some v)))))))) else none
    | _, _ => none
  | _ => none
def s_alen (nx : Nat) : cw_S := fun _ L S h => match S with
  | .ref p :: r => match h[p]? with
    | some (.inl (t, n, _)) => if t < 4 then cw_go nx L (.int (Int32.ofNat n) :: r) h else none
    | _ => none
  | _ => none
def s_new (ci : Nat) (fs : List Value) (nx : Nat) : cw_S := fun _ L S h => cw_ne (.inr (ci, fs)) fs.length nx L S h
/-- a new row of the kind t: 0 ints, 1 longs, 2 Trees, 3 Parts; at most 4096 long -/
def cw_row (t n : Nat) : Option cw_C := match t with
  | 0 => some (.inl (0, n, .inl (fun _ => 0)))
  | 1 => some (.inl (1, n, .inr (.inl (fun _ => 0))))
  | 2 => some (.inl (2, n, .inr (.inr (.inr (.inr (fun _ => none))))))
  | 3 => some (.inl (3, n, .inr (.inr (.inr (.inr (fun _ => none))))))
  | _ => none
def s_newa (t nx : Nat) : cw_S := fun _ L S h => match S with
  | .int n :: r => if ¬ n < 0 ∧ n.toNatClampNeg ≤ 4096 then (match cw_row t n.toNatClampNeg with
    | some c => cw_ne c n.toNatClampNeg nx L r h
    | none => none) else none
  | _ => none
/-- the last n operands, in the order of the arguments; what lies below them -/
def cw_pop (n : Nat) (S : List Value) : List Value × List Value := ((S.take n).reverse, S.drop n)
def s_callV (ci M n nx : Nat) : cw_S := fun d L S h => match cw_pop n S with
  | (as, .ref p :: r) => match h[p]? with
    | some (.inr (c, _)) => if 0 < d ∧ c = ci ∧ n ≤ S.length ∧ cw_ct r ≤ 8 then cw_ca M (.ref p :: as) nx L r h else none
    | _ => none
  | _ => none
def s_callS (M n nx : Nat) : cw_S := fun d L S h => match cw_pop n S with
  | (as, r) => if 0 < d ∧ n ≤ S.length ∧ cw_ct r ≤ 8 then cw_ca M as nx L r h else none
def s_callI (M n nx : Nat) : cw_S := fun d L S h => match cw_pop n S with
  | (as, .ref p :: r) => if 0 < d ∧ n ≤ S.length ∧ cw_ct r ≤ 8 then cw_ci M (.ref p :: as) nx L r h else none
  | _ => none
def s_obj (nx : Nat) : cw_S := fun d L S h => match S with
  | .ref _ :: r => if 0 < d ∧ cw_ct r ≤ 8 then cw_go nx L r h else none
  | _ => none
def s_max (nx : Nat) : cw_S := fun d L S h => match S with
  | .int y :: .int x :: r => if 0 < d ∧ cw_ct r ≤ 8 then cw_go nx L (.int (if x < y then y else x) :: r) h else none
  | _ => none
def s_min (nx : Nat) : cw_S := fun d L S h => match S with
  | .int y :: .int x :: r => if 0 < d ∧ cw_ct r ≤ 8 then cw_go nx L (.int (if y < x then y else x) :: r) h else none
  | _ => none
def s_abs (nx : Nat) : cw_S := fun d L S h => match S with
  | .int x :: r => if 0 < d ∧ cw_ct r ≤ 8 then cw_go nx L (.int (if 0 ≤ x then x else 0 - x) :: r) h else none
  | _ => none
def s_copy (nx : Nat) : cw_S := fun d L S h => match S with
  | .int n :: .int dp :: .ref q :: .int sp :: .ref p :: r => match h[p]?, h[q]? with
    | some (.inl (0, n0, .inl f)), some (.inl (0, n1, .inl g)) => if 0 < d ∧ cw_ct r ≤ 8 ∧ ¬ sp < 0 ∧ ¬ dp < 0 ∧ ¬ n < 0 ∧ sp.toNatClampNeg + n.toNatClampNeg ≤ n0 ∧ dp.toNatClampNeg + n.toNatClampNeg ≤ n1 then
        cw_go nx L r (h.set q (.inl (0, n1, .inl (va_cpy f g sp.toNatClampNeg dp.toNatClampNeg n.toNatClampNeg)))) else none
    | _, _ => none
  | _ => none
def s_iret : cw_S := fun _ _ S h => match S with
  | [.int x] => cw_re (some (.int x)) h
  | _ => none
def s_zret : cw_S := fun _ _ S h => match S with
  | [.int x] => if x = 0 ∨ x = 1 then cw_re (some (.int x)) h else none
  | _ => none
def s_lret : cw_S := fun _ _ S h => match S with
  | [.long x] => cw_re (some (.long x)) h
  | _ => none
def s_aret : cw_S := fun _ _ S h => match S with
  | [.ref x] => cw_re (some (.ref x)) h
  | _ => none
def s_vret : cw_S := fun _ _ S h => match S with
  | [] => cw_re none h
  | _ => none
/-! what must hold so that all goes well, and K, or at the return Q, holds behind it. cM, sM: the cells and slots that a constructor makes -/
def cw_wp (cM sM : Nat → Nat) (C : Nat → List Value → cw_H → (Option Value → cw_H → Prop) → Prop) (K : Nat → cw_L → List Value → cw_H → Prop) (Q : Option Value → cw_H → Prop) (bc bs : Nat) (a : Option cw_A) : Prop := match a with
  | none => False
  | some (.inl (pc, L, S, h)) => K pc L S h
  | some (.inr (.inl (b, t, f, L, S, h))) => (b = true → K t L S h) ∧ (b = false → K f L S h)
  | some (.inr (.inr (.inl (M, as, pc, L, S, h)))) => C M as h (fun r h' => K pc L (r.toList ++ S) h')
  | some (.inr (.inr (.inr (.inl (r, h))))) => Q r h
  | some (.inr (.inr (.inr (.inr (.inl (c, n, pc, L, S, h)))))) => (h.length + 1 ≤ bc ∧ cw_sl h + n ≤ bs ∧ cw_ho h.length h = true ∧ cw_lo h.length L = true ∧ cw_so h.length S = true) ∧ K pc L (.ref h.length :: S) (h ++ [c])
  | some (.inr (.inr (.inr (.inr (.inr (M, as, pc, L, S, h)))))) => (h.length + cM M ≤ bc ∧ cw_sl h + sM M ≤ bs ∧ cw_ho h.length h = true ∧ cw_lo h.length L = true ∧ cw_so h.length S = true) ∧ C M as h (fun r h' => r = none ∧ h'.length = h.length + cM M ∧ cw_sl h' = cw_sl h + sM M ∧ K pc L S h')
def cw_entry (n : Nat) (as : List Value) : cw_L := as.map some ++ List.replicate (n - as.length) none
/-- K is closed under the steps of the method M, from a start in h0 -/
def cw_Cl (tb : Nat → Nat → Option cw_S) (cM sM : Nat → Nat) (C : Nat → List Value → cw_H → (Option Value → cw_H → Prop) → Prop) (d M : Nat) (h0 : cw_H) (Q : Option Value → cw_H → Prop) (K : Nat → cw_L → List Value → cw_H → Prop) : Prop :=
  ∀ (pc : Nat) (L : cw_L) (S : List Value) (g : cw_H) (sem : cw_S), tb M pc = some sem → cw_wp cM sM C K Q (h0.length + cM M) (cw_sl h0 + sM M) (sem d L S g) → K pc L S g
def cw_aok (n : Nat) (as : List Value) : Bool := as.all (fun v => v.category == 1) && decide (as.length ≤ n)
/-- the method M, called at as in h, at most d calls deep: it returns, and Q -/
def cw_X (tb : Nat → Nat → Option cw_S) (mx cM sM : Nat → Nat) : Nat → Nat → List Value → cw_H → (Option Value → cw_H → Prop) → Prop
  | 0, M, as, h, Q => cw_aok (mx M) as = true ∧ ∀ K, cw_Cl tb cM sM (fun _ _ _ _ => False) 0 M h Q K → K 0 (cw_entry (mx M) as) [] h
  | d + 1, M, as, h, Q => cw_aok (mx M) as = true ∧ ∀ K, cw_Cl tb cM sM (cw_X tb mx cM sM d) (d + 1) M h Q K → K 0 (cw_entry (mx M) as) [] h
/-- a tableswitch -/
def s_table (lo : Int) (tg : List Nat) (dflt : Nat) : cw_S := fun _ L S h => match S with
  | .int x :: r => cw_go (if lo ≤ x.toInt ∧ x.toInt < lo + tg.length then tg.getD (x.toInt - lo).toNat dflt else dflt) L r h
  | _ => none
