/-! CONSTRUCTORS, run -/
def sg0 : cw_V := fun p => bif (Nat.beq p 7 || Nat.beq p 8 || Nat.beq p 9 || Nat.beq p 43 || Nat.beq p 44 || Nat.beq p 45 || (Nat.ble 68 p && Nat.ble p 139 && Nat.ble 6 ((p - 68) % 9)) || Nat.beq p 151 || Nat.beq p 152 || Nat.beq p 153) then (fun j => bif Nat.ble j 14 then -1 else 0) else fun _ => 0
def lm0 : Nat → Int64 := fun _ => 0
def allB (f : Nat → Bool) : Nat → Bool
  | 0 => true
  | n + 1 => f n && allB f n
def valB (v w : Value) : Bool := match v, w with
  | .int x, .int y => decide (x = y)
  | .long x, .long y => decide (x = y)
  | .ref x, .ref y => Nat.beq x y
  | .null, .null => true
  | _, _ => false
def valsB : List Value → List Value → Bool
  | [], [] => true
  | v :: r, w :: q => valB v w && valsB r q
  | _, _ => false
def optB (x y : Option Nat) : Bool := match x, y with
  | none, none => true
  | some a, some b => Nat.beq a b
  | _, _ => false
def celB (c e : cw_C) : Bool := match c, e with
  | .inr (k, fs), .inr (k', fs') => Nat.beq k k' && valsB fs fs'
  | .inl (t, n, .inl f), .inl (t', n', .inl f') => Nat.beq t t' && (Nat.beq n n' && allB (fun j => decide (f j = f' j)) n)
  | .inl (t, n, .inr (.inl f)), .inl (t', n', .inr (.inl f')) => Nat.beq t t' && (Nat.beq n n' && allB (fun j => decide (f j = f' j)) n)
  | .inl (t, n, .inr (.inr (.inr (.inr f)))), .inl (t', n', .inr (.inr (.inr (.inr f')))) => Nat.beq t t' && (Nat.beq n n' && allB (fun j => optB (f j) (f' j)) n)
  | _, _ => false
def heqB : cw_H → cw_H → Bool
  | [], [] => true
  | c :: r, e :: q => celB c e && heqB r q
  | _, _ => false
def runC (M : Nat) (p : Nat) (h : cw_H) : Option (Option Value × cw_H) := cw_ev 100000 12 M (h.length + cw_cM M) (cw_sl h + cw_sM M) 0 (cw_entry (cw_mx M) [.ref p]) [] h
def obC : cw_C := .inr (8, [.null, .null, .null, .null, .null, .null, .int 0, .int 0, .int 0])
def hC0 : cw_H := (cw_B sg0 lm0).take 146
theorem ev_C : (match runC m_CW_init 0 [obC] with
  | some (none, g) => heqB g hC0
  | _ => false) = true := by decide +kernel
def obM : cw_C := .inr (9, [.null, .int 0, .null, .int 0, .int 0, .int 0, .int 0, .null, .null, .null, .null, .null, .null, .int 0, .null, .null, .null, .null, .null, .null, .null, .null, .null, .null, .null, .int 0, .int 0, .int 0, .int 0, .null, .null, .null, .int 0, .int 0, .null, .null, .int 0, .int 0, .null, .int 0, .int 0, .null, .int 0, .null, .null])
theorem ev_M : (match runC m_Mo_init 146 (hC0 ++ [obM]) with
  | some (none, g) => heqB g (cw_B sg0 lm0)
  | _ => false) = true := by decide +kernel
