/-! The law's start: both makers, then the loop -/
theorem lw_new0 : ev_new 13 7 [] [] = some ([.ref 0], [.inr (0, (ev_cty 0).map defaultValue)], 1, 12) := rfl
theorem lw_new12 {w : ev_W} (h : w.length = 271) : ev_new 13 10 [] w = some ([.ref 271], w ++ [.inr (12, (ev_cty 12).map defaultValue)], 1, 91) := by
  have h1 : ev_new 13 10 [] w = some ([.ref w.length], w ++ [.inr (12, (ev_cty 12).map defaultValue)], 1, 91) := rfl
  rw [h1, h]
theorem law_start {p : Program} {e : Env} {s : State} {m : MethodId} {below : List Frame} {meth : Method} {c : Code} (l : Launch) {b L : Nat} {xs : Nat → Int32} (hL : L ≤ 2048) (C0 : lw_At p s m meth c b L xs) {Inv : uS → Prop} (h0 : Inv u0) (hO : OPS Inv) : W p l e room_1 s m #[Value.ref b] below meth c s.heap [] 0 0 (lw_Z below #[Value.ref b] s) (entryFrame m ([Value.ref b] : List Value).toArray 4) := by
  obtain ⟨hx, hb, hr, hml, hown, hts, hX, hbl, hlocks, hgv⟩ := id C0
  obtain ⟨D, tc, hU⟩ := lw_U hts
  have E : ev_E p s m #[Value.ref b] meth c D tc s.heap.size 4 13 code s.heap := ⟨hx, hb, hml, hown, fun w hw => hts w (List.mem_filter.mp hw).1, hU, Nat.le_refl _, hlocks⟩
  have hl := lv_entry ([.ref b]) (n := 4) (Nat.le_of_ble_eq_true rfl)
  rw [lg_entry_eq]
  generalize (lg_sl ([.ref b]) ++ List.replicate (4 - (lg_sl ([.ref b])).length) Slot.unset).toArray = ls at hl ⊢
  have hl : lv_has ls 4 [(0, .ref b)] := hl
  have hl2 : lv_has ls 4 (ev_ll s.heap.size [.retAddr (b + 1), .retAddr 0, .retAddr 0, .retAddr 0]) := by
    refine ev_has_sub hl ?_
    rintro ⟨i, v⟩ hq
    obtain ⟨x, g1, g2, rfl⟩ := ev_ll_mem.mp hq
    match i, g1 with
    | 0, g1 => cases g1; exact List.mem_cons_self
    | 1, g1 => cases g1; exact absurd rfl g2
    | 2, g1 => cases g1; exact absurd rfl g2
    | 3, g1 => cases g1; exact absurd rfl g2
    | i + 4, g1 => simp at g1
  suffices key : ev_G p l e room_1 s m #[Value.ref b] below meth c D tc s.heap.size 4 s.heap (lw_Z below #[Value.ref b] s) 0 [.retAddr (b + 1), .retAddr 0, .retAddr 0, .retAddr 0] [] [] 0 0 from key s.heap [] ls rfl (fun k q h => by simp [ev_cw] at h) va_S.rf hl2
  obtain ⟨⟨f1, k1⟩, ⟨f2, k2⟩⟩ := And.intro (mk_both (d := 395)).1 (mk_both (d := 397)).2
  have key := fun (k0 N : Nat) (h1 : k0 ≤ 600000) (h2 : N ≤ 7302250) => law_loop (G := fun pc lv st u => ev_G p l e room_1 s m #[Value.ref b] below meth c D tc s.heap.size 4 s.heap (lw_Z below #[Value.ref b] s) pc lv st (wo u) k0 N) hL (lw_lwG E hr hX hbl h2 h1) hO 513 0 u0 (by omega) (by omega) h0
  generalize wo u0 = w0 at k2 key
  refine ev_s_new E (dec_at lsk_law (k := 0) rfl) lw_new0 (Nat.le_of_ble_eq_true rfl) (Nat.le_of_ble_eq_true rfl) ?_
  refine ev_sp E (dec_at lsk_law (k := 1) rfl) rfl ?_
  refine ev_s_spec (As := []) (rb := 0) (st2 := [.ref 0]) E (ev_sound l D tc s.heap.size 400 f1) (Nat.le_of_ble_eq_true rfl) (Nat.le_of_ble_eq_true rfl) (dec_at lsk_law (k := 2) rfl) m_13_9 (Or.inl rfl) rfl (Nat.le_of_ble_eq_true rfl) k1 (ev_mts m_13_9 (Or.inl rfl)) (Nat.le_of_ble_eq_true rfl) (Nat.le_of_ble_eq_true rfl) ?_
  refine ev_sp (lv' := [.retAddr (b + 1), .ref 0, .retAddr 0, .retAddr 0]) (st' := []) E (dec_at lsk_law (k := 3) rfl) rfl ?_
  refine ev_s_new E (dec_at lsk_law (k := 4) rfl) (lw_new12 (blk_0_len 0)) (Nat.le_of_ble_eq_true rfl) (Nat.le_of_ble_eq_true rfl) ?_
  refine ev_sp E (dec_at lsk_law (k := 5) rfl) rfl ?_
  refine ev_s_spec (As := []) (rb := 271) (st2 := [.ref 271]) E (ev_sound l D tc s.heap.size 400 f2) (Nat.le_of_ble_eq_true rfl) (Nat.le_of_ble_eq_true rfl) (dec_at lsk_law (k := 6) rfl) m_13_12 (Or.inl rfl) rfl (Nat.le_of_ble_eq_true rfl) k2 (ev_mts m_13_12 (Or.inl rfl)) (Nat.le_of_ble_eq_true rfl) (Nat.le_of_ble_eq_true rfl) ?_
  refine ev_sp (lv' := [.retAddr (b + 1), .ref 0, .ref 271, .retAddr 0]) (st' := []) E (dec_at lsk_law (k := 7) rfl) rfl ?_
  refine ev_sp E (dec_at lsk_law (k := 8) rfl) rfl ?_
  refine ev_sp (lv' := [.retAddr (b + 1), .ref 0, .ref 271, .int (nI 0)]) (st' := []) E (dec_at lsk_law (k := 9) rfl) rfl ?_
  exact key _ _ (Nat.le_of_ble_eq_true rfl) (Nat.le_of_ble_eq_true rfl)
