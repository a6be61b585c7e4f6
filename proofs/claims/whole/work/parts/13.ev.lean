/-! the machine, run -/
def cw_ev : Nat → Nat → Nat → Nat → Nat → Nat → cw_L → List Value → cw_H → Option (Option Value × cw_H)
  | 0, _, _, _, _, _, _, _, _ => none
  | n + 1, d, M, bc, bs, pc, L, S, h => match cw_tb M pc with
    | none => none
    | some sem => match sem d L S h with
      | none => none
      | some (.inl (pc, L, S, h)) => cw_ev n d M bc bs pc L S h
      | some (.inr (.inl (b, t, f, L, S, h))) => cw_ev n d M bc bs (bif b then t else f) L S h
      | some (.inr (.inr (.inl (M', as, pc, L, S, h)))) => match d with
        | 0 => none
        | d' + 1 => bif cw_aok (cw_mx M') as then (match cw_ev n d' M' (h.length + cw_cM M') (cw_sl h + cw_sM M') 0 (cw_entry (cw_mx M') as) [] h with
          | some (r, h') => cw_ev n (d' + 1) M bc bs pc L (r.toList ++ S) h'
          | none => none) else none
      | some (.inr (.inr (.inr (.inl (r, h))))) => some (r, h)
      | some (.inr (.inr (.inr (.inr (.inl (c, k, pc, L, S, h)))))) => bif Nat.ble (h.length + 1) bc && (Nat.ble (cw_sl h + k) bs && (cw_ho h.length h && (cw_lo h.length L && cw_so h.length S))) then cw_ev n d M bc bs pc L (.ref h.length :: S) (h ++ [c]) else none
      | some (.inr (.inr (.inr (.inr (.inr (M', as, pc, L, S, h)))))) => match d with
        | 0 => none
        | d' + 1 => bif cw_aok (cw_mx M') as && (Nat.ble (h.length + cw_cM M') bc && (Nat.ble (cw_sl h + cw_sM M') bs && (cw_ho h.length h && (cw_lo h.length L && cw_so h.length S)))) then (match cw_ev n d' M' (h.length + cw_cM M') (cw_sl h + cw_sM M') 0 (cw_entry (cw_mx M') as) [] h with
          | some (none, h') => bif Nat.beq h'.length (h.length + cw_cM M') && Nat.beq (cw_sl h') (cw_sl h + cw_sM M') then cw_ev n (d' + 1) M bc bs pc L S h' else none
          | _ => none) else none
