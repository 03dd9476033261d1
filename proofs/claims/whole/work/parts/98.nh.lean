/-! At first; and the twenty calls -/
theorem u0_0 {a : Nat} {x : Int} (h1 : Nat.ble a 58 = false) (h2 : Nat.ble 265 a = false) (h3 : mch a = false) (h78 : a ≠ 78) (h79 : a ≠ 79) (h232 : a ≠ 232) : u0.1 a x = 0 := by
  have ha : a < 265 := by
    cases Nat.lt_or_ge a 265 with
    | inl h => exact h
    | inr h => rw [Nat.ble_eq_true_of_le h] at h2; cases h2
  rw [u0_other (by omega) (by omega) (by omega)]
  show (if Nat.ble a 58 = true then (0 : Int) else if Nat.ble 265 a = true then 0 else if mch a = true then (if x = 0 then 1 else 0) else if a = 78 then (if x = 0 then 2 else if x = 1 then 1 else 0) else if a = 79 then (if 0 ≤ x ∧ x < 20 then 1 else 0) else if a = 232 then (if x = 2 then 1 else 0) else 0) = 0
  rw [h1, h2, h3, if_neg (by decide), if_neg (by decide), if_neg (by decide), if_neg h78, if_neg h79, if_neg h232]
theorem inv0E : CE u0 := by
  have h78 : ∀ x : Int, u0.1 78 x = if x = 0 then 2 else if x = 1 then 1 else 0 := fun x => by
    rw [u0_other (by decide) (by decide) (by decide)]
    rfl
  have h79 : ∀ x : Int, u0.1 79 x = if 0 ≤ x ∧ x < 20 then 1 else 0 := fun x => by
    rw [u0_other (by decide) (by decide) (by decide)]
    rfl
  refine ⟨⟨by rw [h78]; rfl, fun s c hs c0 c1 => ?_, by rw [h78]; exact ⟨by decide, by decide⟩, fun i => ?_⟩, fun s _ _ => u0_0 rfl rfl rfl (by decide) (by decide) (by decide)⟩
  · have hs1 : 0 ≤ s := hs.1
    have hs2 : s < 2 := hs.2
    show u0.1 79 (s * 10 + c) = 1
    rw [h79, if_pos ⟨by omega, by omega⟩]
  · rw [h78]
    exact bt_1 i
theorem inv0B : B3 u0 := fun j => Or.inl (u0_303 j)
theorem Inv0 : Inv u0 := ⟨inv0S, inv0W, inv0G, inv0L, inv0M, inv0P, inv0Q, inv0T, inv0X, inv0E, inv0B⟩
theorem iV_t (x : Int32) : Value.int x = iV x.toInt := by
  show Value.int x = Value.int (Int32.ofInt x.toInt)
  rw [Int32.ofInt_toInt]
theorem lV_t (x : Int64) : Value.long x = lV x.toInt := by
  show Value.long x = Value.long (Int64.ofInt x.toInt)
  rw [Int64.ofInt_toInt]
theorem op_id {Inv : uS → Prop} {jc jr : Nat} {As : List Value} (h : ∀ u, Inv u → cI 400 jc (.ref 0 :: As) u (fun r u1 => cI 400 jr (.ref 271 :: As) u1 (fun r' u2 => r' = r ∧ u2 = u))) : opI Inv jc jr As := fun u hI => (h u hI).mono (Nat.le_refl _) (fun r u1 h1 => h1.mono (Nat.le_refl _) (fun r' u2 h2 => ⟨h2.1, by rw [h2.2]; exact hI⟩))
theorem op_idL {Inv : uS → Prop} {jc jr : Nat} {As : List Value} (h : ∀ u, Inv u → cL 400 jc (.ref 0 :: As) u (fun r u1 => cL 400 jr (.ref 271 :: As) u1 (fun r' u2 => r' = r ∧ u2 = u))) : opL Inv jc jr As := fun u hI => (h u hI).mono (Nat.le_refl _) (fun r u1 h1 => h1.mono (Nat.le_refl _) (fun r' u2 h2 => ⟨h2.1, by rw [h2.2]; exact hI⟩))
/-- rows kept: all but those of a list -/
def kpL (L : List Nat) : Nat → Bool := fun b => decide (b ∉ L)
theorem KP_fr {u v : uS} {P : Nat → Int → Prop} {L : List Nat} (hf : fr1 P u v) (h : ∀ b j, b ∉ L → ¬ P b j) : KP u v (kpL L) := fun b hb => funext (fun j => hf b j (h b j (of_decide_eq_true hb)))
theorem op_ask (x : Int32) : opI Inv 15 202 [.int x] := by
  intro u hI
  obtain ⟨hS, hW, hG, hL, hM, hP, hQ, hT, hX, hE, hB⟩ := hI
  rw [iV_t]
  refine (st_ask (d := 398) (ri_toInt x) hS).mono (Nat.le_refl _) (fun r u1 h1 => h1.mono (Nat.le_refl _) (fun r' v h2 => ⟨h2.1, ?_⟩))
  obtain ⟨-, iS, hr, hf⟩ := h2
  have hf : fr1 sgP u v := hf
  have k : KP u v (kpL [1, 2, 3, 4, 271, 272]) := KP_fr hf (fun b j hb hp => by
    simp only [sgP, List.mem_cons, List.not_mem_nil, or_false, not_or] at hb hp
    omega)
  have f : ∀ j : Int, j ≠ 1 → v.1 271 j = u.1 271 j := fun j hj => hf 271 j (fun hp => by
    simp only [sgP, List.mem_cons, List.not_mem_nil, or_false] at hp
    omega)
  have r : ∀ b, v.2 b = u.2 b := fun b => by rw [hr]
  have g : ∀ b, kpL [1, 2, 3, 4, 271, 272] b = true → v.1 b = u.1 b := k
  exact ⟨iS, keepW k (by decide) (by rw [g 0 (by decide)]) (f 3 (by decide)) hW, keepG k (by decide) (f 5 (by decide)) (f 6 (by decide)) (f 11 (by decide)) hG, keepL k (by decide) hL, keepM k (by decide) hM, keepP k (by decide) (by rw [g 193 (by decide)]) (by rw [g 212 (by decide)]) (r 193) (r 212) hP, keepQ k (by decide) hQ, keepT k (by decide) (by rw [g 36 (by decide)]) (by rw [g 36 (by decide)]) (r 36) (g 5 (by decide)) (by rw [g 0 (by decide)]) hT, keepX k (by decide) (by rw [g 231 (by decide)]) (f 73 (by decide)) (f 74 (by decide)) (f 75 (by decide)) hX, keepE k (by decide) hE, keepB k (by decide) hB⟩
theorem op_word : opI Inv 17 204 [] := by
  intro u hI
  obtain ⟨hS, hW, hG, hL, hM, hP, hQ, hT, hX, hE, hB⟩ := hI
  refine (st_wordx (d := 397) hS hW).mono (Nat.le_refl _) (fun r u1 h1 => h1.mono (Nat.le_refl _) (fun r' v h2 => ⟨h2.1, ?_⟩))
  obtain ⟨-, iS, iW, ⟨hr, hf⟩, hc⟩ := h2
  have hf : fr1 wdP u v := hf
  have k : KP u v (kpL [0, 1, 2, 3, 4, 5, 271, 272, 273, 36]) := KP_fr hf (fun b j hb hp => by
    simp only [wdP, List.mem_cons, List.not_mem_nil, or_false, not_or] at hb hp
    omega)
  have f : ∀ j : Int, j ≠ 1 → j ≠ 3 → v.1 271 j = u.1 271 j := fun j hj hj' => hf 271 j (fun hp => by
    simp only [wdP, List.mem_cons, List.not_mem_nil, or_false] at hp
    omega)
  have f17 : v.1 36 17 = u.1 36 17 := hf 36 17 (fun hp => by
    simp only [wdP, List.mem_cons, List.not_mem_nil, or_false] at hp
    omega)
  have r : ∀ b, v.2 b = u.2 b := fun b => by rw [hr]
  have g : ∀ b, kpL [0, 1, 2, 3, 4, 5, 271, 272, 273, 36] b = true → v.1 b = u.1 b := k
  refine ⟨iS, iW, keepG k (by decide) (f 5 (by decide) (by decide)) (f 6 (by decide) (by decide)) (f 11 (by decide) (by decide)) hG, keepL k (by decide) hL, keepM k (by decide) hM, keepP k (by decide) (by rw [g 193 (by decide)]) (by rw [g 212 (by decide)]) (r 193) (r 212) hP, keepQ k (by decide) hQ, ?_, keepX k (by decide) (by rw [g 231 (by decide)]) (f 73 (by decide) (by decide)) (f 74 (by decide) (by decide)) (f 75 (by decide) (by decide)) hX, keepE k (by decide) hE, keepB k (by decide) hB⟩
  rcases hc with ⟨-, c36, c0, c5⟩ | c16
  · exact keepT k (by decide) (by rw [c36]) (by rw [c36]) (r 36) c5 (by rw [c0]) hT
  · exact keepT0 k (by decide) c16 f17 (r 36) hT
theorem op_apart (x : Int32) : opI Inv 131 265 [.int x] := by
  intro u hI
  obtain ⟨hS, hW, hG, hL, hM, hP, hQ, hT, hX, hE, hB⟩ := hI
  rw [iV_t]
  refine (st_apartx (d := 396) (ri_toInt x) hM hW).mono (Nat.le_refl _) (fun r u1 h1 => h1.mono (Nat.le_refl _) (fun r' v h2 => ⟨h2.1, ?_⟩))
  obtain ⟨-, iW, hf, hr, hc⟩ := h2
  have k : KP u v (kpL [0, 5, 36, 185, 186, 187, 188, 189, 271, 273, 321, 322, 323]) := KP_fr hf (fun b j hb hp => by
    simp only [apP, List.mem_cons, List.not_mem_nil, or_false, not_or] at hb hp
    omega)
  have f : ∀ j : Int, j ≠ 3 → v.1 271 j = u.1 271 j := fun j hj => hf 271 j (fun hp => by
    simp only [apP, List.mem_cons, List.not_mem_nil, or_false] at hp
    omega)
  have f17 : v.1 36 17 = u.1 36 17 := hf 36 17 (fun hp => by
    simp only [apP, List.mem_cons, List.not_mem_nil, or_false] at hp
    omega)
  have g : ∀ b, kpL [0, 5, 36, 185, 186, 187, 188, 189, 271, 273, 321, 322, 323] b = true → v.1 b = u.1 b := k
  refine ⟨keepS k (by decide) (f 1 (by decide)) hS, iW, keepG k (by decide) (f 5 (by decide)) (f 6 (by decide)) (f 11 (by decide)) hG, keepL k (by decide) hL, keepM k (by decide) hM, keepP k (by decide) (by rw [g 193 (by decide)]) (by rw [g 212 (by decide)]) (hr 193 (by decide)) (hr 212 (by decide)) hP, keepQ k (by decide) hQ, ?_, keepX k (by decide) (by rw [g 231 (by decide)]) (f 73 (by decide)) (f 74 (by decide)) (f 75 (by decide)) hX, keepE k (by decide) hE, keepB k (by decide) hB⟩
  rcases hc with ⟨c36, c0, c5⟩ | c16
  · exact keepT k (by decide) (by rw [c36]) (by rw [c36]) (hr 36 (by decide)) c5 (by rw [c0]) hT
  · exact keepT0 k (by decide) c16 f17 (hr 36 (by decide)) hT
theorem op_grammar : opI Inv 27 206 [] := by
  intro u hI
  obtain ⟨hS, hW, hG, hL, hM, hP, hQ, hT, hX, hE, hB⟩ := hI
  refine (st_grammar (d := 391) hS).mono (Nat.le_refl _) (fun r u1 h1 => h1.mono (Nat.le_refl _) (fun r' v h2 => ⟨h2.1, ?_⟩))
  obtain ⟨-, iS, hr, hc⟩ := h2
  rcases hc with ⟨-, hf⟩ | ⟨-, iG, iL, hf, z16, z17, z0, z1⟩
  · have k : KP u v (kpL [1, 3, 4, 15, 16, 17, 18, 19, 24, 25, 26, 278, 279, 280, 281, 282, 271]) := KP_fr hf (fun b j hb hp => by
      simp only [gfP, List.mem_cons, List.not_mem_nil, or_false, not_or] at hb hp
      omega)
    have f : ∀ j : Int, j ≠ 1 → j ≠ 4 → j ≠ 12 → j ≠ 13 → j ≠ 19 → v.1 271 j = u.1 271 j := fun j h1 h2 h3 h4 h5 => hf 271 j (fun hp => by
      simp only [gfP, List.mem_cons, List.not_mem_nil, or_false] at hp
      omega)
    have g : ∀ b, kpL [1, 3, 4, 15, 16, 17, 18, 19, 24, 25, 26, 278, 279, 280, 281, 282, 271] b = true → v.1 b = u.1 b := k
    exact ⟨iS, keepW k (by decide) (by rw [g 0 (by decide)]) (f 3 (by decide) (by decide) (by decide) (by decide) (by decide)) hW, keepG k (by decide) (f 5 (by decide) (by decide) (by decide) (by decide) (by decide)) (f 6 (by decide) (by decide) (by decide) (by decide) (by decide)) (f 11 (by decide) (by decide) (by decide) (by decide) (by decide)) hG, keepL k (by decide) hL, keepM k (by decide) hM, keepP k (by decide) (by rw [g 193 (by decide)]) (by rw [g 212 (by decide)]) (hr 193 (by decide)) (hr 212 (by decide)) hP, keepQ k (by decide) hQ, keepT k (by decide) (by rw [g 36 (by decide)]) (by rw [g 36 (by decide)]) (hr 36 (by decide)) (g 5 (by decide)) (by rw [g 0 (by decide)]) hT, keepX k (by decide) (by rw [g 231 (by decide)]) (f 73 (by decide) (by decide) (by decide) (by decide) (by decide)) (f 74 (by decide) (by decide) (by decide) (by decide) (by decide)) (f 75 (by decide) (by decide) (by decide) (by decide) (by decide)) hX, keepE k (by decide) hE, keepB k (by decide) hB⟩
  · have k : KP u v (kpL [1, 3, 4, 6, 7, 8, 9, 10, 11, 12, 13, 14, 15, 16, 17, 18, 19, 24, 25, 26, 274, 275, 276, 277, 278, 279, 280, 281, 282, 283, 284, 285, 286, 287, 288, 289, 290, 291, 271, 36, 193, 212]) := KP_fr hf (fun b j hb hp => by
      simp only [gsP, List.mem_cons, List.not_mem_nil, or_false, not_or] at hb hp
      omega)
    have f : ∀ j : Int, j ≠ 1 → j ≠ 4 → j ≠ 5 → j ≠ 6 → j ≠ 11 → j ≠ 12 → j ≠ 13 → j ≠ 19 → v.1 271 j = u.1 271 j := fun j h1 h2 h3 h4 h5 h6 h7 h8 => hf 271 j (fun hp => by
      simp only [gsP, List.mem_cons, List.not_mem_nil, or_false] at hp
      omega)
    have g : ∀ b, kpL [1, 3, 4, 6, 7, 8, 9, 10, 11, 12, 13, 14, 15, 16, 17, 18, 19, 24, 25, 26, 274, 275, 276, 277, 278, 279, 280, 281, 282, 283, 284, 285, 286, 287, 288, 289, 290, 291, 271, 36, 193, 212] b = true → v.1 b = u.1 b := k
    refine ⟨iS, keepW k (by decide) (by rw [g 0 (by decide)]) (f 3 (by decide) (by decide) (by decide) (by decide) (by decide) (by decide) (by decide) (by decide)) hW, iG, iL, keepM k (by decide) hM, ⟨⟨Or.inl z0, fun e => ?_⟩, ⟨Or.inl z1, fun e => ?_⟩⟩, keepQ k (by decide) hQ, ⟨Or.inl z16, Or.inl z17, by rw [hr 36 (by decide)]; exact hT.2.2.1, fun e => ?_, fun e => ?_⟩, keepX k (by decide) (by rw [g 231 (by decide)]) (f 73 (by decide) (by decide) (by decide) (by decide) (by decide) (by decide) (by decide) (by decide)) (f 74 (by decide) (by decide) (by decide) (by decide) (by decide) (by decide) (by decide) (by decide)) (f 75 (by decide) (by decide) (by decide) (by decide) (by decide) (by decide) (by decide) (by decide)) hX, keepE k (by decide) hE, keepB k (by decide) hB⟩
    · have e : v.1 193 0 = 1 := e
      omega
    · have e : v.1 212 0 = 1 := e
      omega
    · omega
    · omega
