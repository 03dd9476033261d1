/-! The same rules, with counts as given numbers -/
section OKX2
variable {d own nL : Nat} {ini : Bool} {ret : Option FieldType} {cc : ByteArray} {pc len : Nat} {i : Instr} {lv lv' : ev_L} {st st' : List Value} {w w1 w' : ev_W} {k n k1 n1 : Nat} {r : ev_W} {o : va_E} {a m : Nat}
theorem okx_na2 {ty : ArrayType} {t p sz K N : Nat} {z : (Nat → Int32) ⊕ (Nat → Int64) ⊕ (Nat → UInt32) ⊕ (Nat → UInt64) ⊕ (Nat → Option Nat)} {x : Int32} (hd : decode cc pc = .ok (.newarray ty, 2)) (hz : ev_zero ty = some (t, z)) (hx : x = nI sz) (hs : sz ≤ 1000000) (ha : w.length = a) (hr : r.length = m) (hp : a + 1 + m = p) (hK : 1 + k = K) (hN : sz + n = N) (h : (r ++ [(.inl (t, sz, z) : va_E)]).length = m + 1 → okx d own nL ini ret cc (pc + 2) lv (.ref p :: st) (w ++ (o :: (r ++ [.inl (t, sz, z)]))) w' k n) : okx d own nL ini ret cc pc lv (.int x :: st) (w ++ (o :: r)) w' K N := by
  subst hK hN
  exact okx_na hd hz hx hs ha hr hp h
theorem okx_an2 {c t p sz ci q0 K N : Nat} {x : Int32} (hd : decode cc pc = .ok (.anewarray c, 3)) (hc : ev_cls own c = some (ci, q0)) (ht : ev_arrT ci = some t) (hx : x = nI sz) (hs : sz ≤ 1000000) (ha : w.length = a) (hr : r.length = m) (hp : a + 1 + m = p) (hK : 1 + k = K) (hN : sz + n = N) (h : (r ++ [(.inl (t, sz, .inr (.inr (.inr (.inr (fun _ => none))))) : va_E)]).length = m + 1 → okx d own nL ini ret cc (pc + 3) lv (.ref p :: st) (w ++ (o :: (r ++ [.inl (t, sz, .inr (.inr (.inr (.inr (fun _ => none)))))]))) w' k n) : okx d own nL ini ret cc pc lv (.int x :: st) (w ++ (o :: r)) w' K N := by
  subst hK hN
  exact okx_an hd hc ht hx hs ha hr hp h
theorem okx_mk2 {c p ci q0 x kd j lc kC nC nf K N : Nat} {q : Nat × Nat × Nat} {blk : Nat → ev_W} (hd1 : decode cc pc = .ok (.new c, 3)) (hc : ev_cls own c = some (ci, q0)) (hci : ci < ev_cl.length) (hd2 : decode cc (pc + 3) = .ok (.dup, 1)) (hd3 : decode cc (pc + 4) = .ok (.invokespecial x, 3)) (hm : ev_mth own x = some (kd, j, 0, q)) (hk : kd = 4 ∨ kd = 7) (hcat : ev_cat (.ref p :: st) ≤ 8) (ha : w.length = a) (hr : r.length = m) (hp : a + 1 + m = p) (hM : ∀ w2 : ev_W, w2.length = p → okmx d j [.ref p] (w2 ++ [.inr (ci, (ev_cty ci).map defaultValue)]) (w2 ++ blk p) kC nC) (hlen : (blk p).length = lc) (hnf : (ev_cty ci).length = nf) (hK : 1 + (kC + k) = K) (hN : nf + (nC + n) = N) (h : (r ++ blk p).length = m + lc → okx d own nL ini ret cc (pc + 7) lv (.ref p :: st) (w ++ (o :: (r ++ blk p))) w' k n) : okx d own nL ini ret cc pc lv st (w ++ (o :: r)) w' K N := by
  subst hnf hK hN
  exact okx_mk hd1 hc hci hd2 hd3 hm hk hcat ha hr hp hM hlen h
end OKX2
