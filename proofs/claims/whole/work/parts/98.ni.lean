/-! The other calls; all twenty -/
theorem op_meets (x y : Int32) : opI Inv 199 290 [.int x, .int y] := by
  intro u hI
  obtain ⟨hS, hW, hG, hL, hM, hP, hQ, hT, hX, hE, hB⟩ := hI
  rw [iV_t, iV_t]
  refine (st_meets (d := 390) (ri_toInt x) (ri_toInt y) hG hM hP).mono (Nat.le_refl _) (fun r u1 h1 => h1.mono (Nat.le_refl _) (fun r' v h2 => ⟨h2.1, ?_⟩))
  obtain ⟨-, iP, hf, hr⟩ := h2
  have k : KP u v (kpL [193, 194, 206, 212, 213, 225, 324, 325, 326, 327, 328, 329, 330]) := KP_fr hf (fun b j hb hp => by
    simp only [pdP, fT, List.mem_cons, List.not_mem_nil, or_false, not_or] at hb hp
    omega)
  have g : ∀ b, kpL [193, 194, 206, 212, 213, 225, 324, 325, 326, 327, 328, 329, 330] b = true → v.1 b = u.1 b := k
  have f : ∀ j : Int, v.1 271 j = u.1 271 j := fun j => by rw [g 271 (by decide)]
  exact ⟨keepS k (by decide) (f 1) hS, keepW k (by decide) (by rw [g 0 (by decide)]) (f 3) hW, keepG k (by decide) (f 5) (f 6) (f 11) hG, keepL k (by decide) hL, keepM k (by decide) hM, iP, keepQ k (by decide) hQ, keepT k (by decide) (by rw [g 36 (by decide)]) (by rw [g 36 (by decide)]) (hr 36 (by decide) (by decide)) (g 5 (by decide)) (by rw [g 0 (by decide)]) hT, keepX k (by decide) (by rw [g 231 (by decide)]) (f 73) (f 74) (f 75) hX, keepE k (by decide) hE, keepB k (by decide) hB⟩
theorem op_product (x y : Int32) : opL Inv 188 286 [.int x, .int y] := by
  intro u hI
  obtain ⟨hS, hW, hG, hL, hM, hP, hQ, hT, hX, hE, hB⟩ := hI
  rw [iV_t, iV_t]
  refine (st_product (d := 388) (ri_toInt x) (ri_toInt y) hG hM hP hQ).mono (Nat.le_refl _) (fun r u1 h1 => h1.mono (Nat.le_refl _) (fun r' v h2 => ⟨h2.1, ?_⟩))
  obtain ⟨-, iP, iQ, hf, hr⟩ := h2
  have k : KP u v (kpL [193, 194, 206, 207, 208, 209, 210, 211, 212, 213, 225, 226, 227, 228, 229, 230, 324, 325, 326, 327, 328, 329, 330, 339, 340, 342, 343, 344, 345]) := KP_fr hf (fun b j hb hp => by
    simp only [pdQ, pdP, fT, pdL, fR, List.mem_cons, List.not_mem_nil, or_false, not_or] at hb hp
    omega)
  have g : ∀ b, kpL [193, 194, 206, 207, 208, 209, 210, 211, 212, 213, 225, 226, 227, 228, 229, 230, 324, 325, 326, 327, 328, 329, 330, 339, 340, 342, 343, 344, 345] b = true → v.1 b = u.1 b := k
  have f : ∀ j : Int, v.1 271 j = u.1 271 j := fun j => by rw [g 271 (by decide)]
  exact ⟨keepS k (by decide) (f 1) hS, keepW k (by decide) (by rw [g 0 (by decide)]) (f 3) hW, keepG k (by decide) (f 5) (f 6) (f 11) hG, keepL k (by decide) hL, keepM k (by decide) hM, iP, iQ, keepT k (by decide) (by rw [g 36 (by decide)]) (by rw [g 36 (by decide)]) (hr 36 (by decide) (by decide)) (g 5 (by decide)) (by rw [g 0 (by decide)]) hT, keepX k (by decide) (by rw [g 231 (by decide)]) (f 73) (f 74) (f 75) hX, keepE k (by decide) hE, keepB k (by decide) hB⟩
theorem tc_all {u v : uS} (hS : invS u) (hW : invW u) (hG : invG u) (hL : invL u) (hM : invM u) (hP : invP u) (hQ : invQ u) (hX : invX u) (hE : CE u) (hB : B3 u) (iT : invT v) (hf : fr1 tcP u v) (hr : ∀ b, b ≠ 36 → v.2 b = u.2 b) : Inv v := by
  have k : KP u v (kpL [36, 47, 48, 49, 50, 51, 52, 53, 54, 55, 56, 57, 292, 293, 294, 295, 296, 297, 298, 299, 300, 271]) := KP_fr hf (fun b j hb hp => by
    simp only [tcP, List.mem_cons, List.not_mem_nil, or_false, not_or] at hb hp
    omega)
  have g : ∀ b, kpL [36, 47, 48, 49, 50, 51, 52, 53, 54, 55, 56, 57, 292, 293, 294, 295, 296, 297, 298, 299, 300, 271] b = true → v.1 b = u.1 b := k
  have f : ∀ j : Int, j ≠ 33 → v.1 271 j = u.1 271 j := fun j hj => hf 271 j (fun hp => by
    simp only [tcP] at hp
    omega)
  exact ⟨keepS k (by decide) (f 1 (by decide)) hS, keepW k (by decide) (by rw [g 0 (by decide)]) (f 3 (by decide)) hW, keepG k (by decide) (f 5 (by decide)) (f 6 (by decide)) (f 11 (by decide)) hG, keepL k (by decide) hL, keepM k (by decide) hM, keepP k (by decide) (by rw [g 193 (by decide)]) (by rw [g 212 (by decide)]) (hr 193 (by decide)) (hr 212 (by decide)) hP, keepQ k (by decide) hQ, iT, keepX k (by decide) (by rw [g 231 (by decide)]) (f 73 (by decide)) (f 74 (by decide)) (f 75 (by decide)) hX, keepE k (by decide) hE, keepB k (by decide) hB⟩
theorem op_trees (x : Int32) : opL Inv 102 223 [.int x] := by
  intro u hI
  obtain ⟨hS, hW, hG, hL, hM, hP, hQ, hT, hX, hE, hB⟩ := hI
  rw [iV_t]
  refine (st_trees (d := 388) (ri_toInt x) hG hL hW hT).mono (Nat.le_refl _) (fun r u1 h1 => h1.mono (Nat.le_refl _) (fun r' v h2 => ⟨h2.1, ?_⟩))
  obtain ⟨-, iT, hf, hr⟩ := h2
  exact tc_all hS hW hG hL hM hP hQ hX hE hB iT hf hr
theorem op_treesOf (x : Int32) : opL Inv 124 234 [.int x] := by
  intro u hI
  obtain ⟨hS, hW, hG, hL, hM, hP, hQ, hT, hX, hE, hB⟩ := hI
  rw [iV_t]
  refine (st_treesOf (d := 388) (ri_toInt x) hG hL hT).mono (Nat.le_refl _) (fun r u1 h1 => h1.mono (Nat.le_refl _) (fun r' v h2 => ⟨h2.1, ?_⟩))
  obtain ⟨-, iT, hf, hr⟩ := h2
  exact tc_all hS hW hG hL hM hP hQ hX hE hB iT hf hr
theorem op_within (x : Int32) : opI Inv 137 268 [.int x] := by
  intro u hI
  obtain ⟨hS, hW, hG, hL, hM, hP, hQ, hT, hX, hE, hB⟩ := hI
  rw [iV_t]
  refine (st_within (d := 382) (ri_toInt x) hG hM hP hX).mono (Nat.le_refl _) (fun r u1 h1 => h1.mono (Nat.le_refl _) (fun r' v h2 => ⟨h2.1, ?_⟩))
  obtain ⟨-, iP, iX, hf, hr⟩ := h2
  have k : KP u v (kpL [193, 194, 206, 212, 213, 225, 324, 325, 326, 327, 328, 329, 330, 232, 244, 245, 246, 247, 248, 249, 250, 251, 252, 253, 254, 231, 255, 256, 257, 258, 259, 266, 267, 268, 269, 270, 271, 331, 332, 333, 334, 335, 336, 337, 338, 339, 340, 341, 342, 343, 344]) := KP_fr hf (fun b j hb hp => by
    simp only [wiP, pdP, fT, fF, fH, fY, List.mem_cons, List.not_mem_nil, or_false, not_or] at hb hp
    omega)
  have g : ∀ b, kpL [193, 194, 206, 212, 213, 225, 324, 325, 326, 327, 328, 329, 330, 232, 244, 245, 246, 247, 248, 249, 250, 251, 252, 253, 254, 231, 255, 256, 257, 258, 259, 266, 267, 268, 269, 270, 271, 331, 332, 333, 334, 335, 336, 337, 338, 339, 340, 341, 342, 343, 344] b = true → v.1 b = u.1 b := k
  have f : ∀ j : Int, j ≠ 73 → j ≠ 74 → j ≠ 75 → v.1 271 j = u.1 271 j := fun j h1 h2 h3 => hf 271 j (fun hp => by
    simp only [wiP, pdP, fT, fF, fH, fY, List.mem_cons, List.not_mem_nil, or_false] at hp
    rcases hp with hp | hp | hp | ⟨-, hp⟩
    · omega
    · omega
    · omega
    · have := hp trivial
      omega)
  exact ⟨keepS k (by decide) (f 1 (by decide) (by decide) (by decide)) hS, keepW k (by decide) (by rw [g 0 (by decide)]) (f 3 (by decide) (by decide) (by decide)) hW, keepG k (by decide) (f 5 (by decide) (by decide) (by decide)) (f 6 (by decide) (by decide) (by decide)) (f 11 (by decide) (by decide) (by decide)) hG, keepL k (by decide) hL, keepM k (by decide) hM, iP, keepQ k (by decide) hQ, keepT k (by decide) (by rw [g 36 (by decide)]) (by rw [g 36 (by decide)]) (hr 36 (by decide) (by decide) (by decide) (by decide)) (g 5 (by decide)) (by rw [g 0 (by decide)]) hT, iX, keepE k (by decide) hE, keepB k (by decide) hB⟩
theorem F231_all {u v : uS} {P : Int → Prop} (h0 : ¬ P 0) (hI : Inv u) (h : F231 u v P) : Inv v := by
  obtain ⟨hS, hW, hG, hL, hM, hP, hQ, hT, hX, hE, hB⟩ := hI
  obtain ⟨hr, hf, h231⟩ := h
  have k : KP u v (kpL [231]) := fun b hb => hf b (fun e => by
    have := of_decide_eq_true hb
    rw [e] at this
    exact this (by decide))
  have g : ∀ b, kpL [231] b = true → v.1 b = u.1 b := k
  have f : ∀ j : Int, v.1 271 j = u.1 271 j := fun j => by rw [g 271 (by decide)]
  have r : ∀ b, v.2 b = u.2 b := fun b => by rw [hr]
  exact ⟨keepS k (by decide) (f 1) hS, keepW k (by decide) (by rw [g 0 (by decide)]) (f 3) hW, keepG k (by decide) (f 5) (f 6) (f 11) hG, keepL k (by decide) hL, keepM k (by decide) hM, keepP k (by decide) (by rw [g 193 (by decide)]) (by rw [g 212 (by decide)]) (r 193) (r 212) hP, keepQ k (by decide) hQ, keepT k (by decide) (by rw [g 36 (by decide)]) (by rw [g 36 (by decide)]) (r 36) (g 5 (by decide)) (by rw [g 0 (by decide)]) hT, keepX k (by decide) (h231 0 h0) (f 73) (f 74) (f 75) hX, keepE k (by decide) hE, keepB k (by decide) hB⟩
theorem op_letter (x : Int64) : opI Inv 180 282 [.long x] := by
  intro u hI
  rw [lV_t]
  refine (st_letter (d := 393) (rl_toInt x) hI.2.2.2.2.2.2.2.2.1).mono (Nat.le_refl _) (fun r u1 h1 => h1.mono (Nat.le_refl _) (fun r' v h2 => ⟨h2.1, F231_all (by decide) hI h2.2⟩))
theorem op_node (x : Int64) (y : Int32) : opL Inv 183 284 [.long x, .int y] := by
  intro u hI
  rw [lV_t, iV_t]
  refine (st_node (d := 392) (rl_toInt x) (ri_toInt y) hI.2.2.2.2.2.2.2.2.1).mono (Nat.le_refl _) (fun r u1 h1 => h1.mono (Nat.le_refl _) (fun r' v h2 => ⟨h2.1, F231_all (fun h => by unfold P9 at h; omega) hI h2.2⟩))
theorem op_copy : opI Inv 187 285 [] := by
  intro u hI
  have hI0 := hI
  obtain ⟨hS, hW, hG, hL, hM, hP, hQ, hT, hX, hE, hB⟩ := hI
  refine (st_copy (d := 392) hW hX).mono (Nat.le_refl _) (fun r u1 h1 => h1.mono (Nat.le_refl _) (fun r' v h2 => ⟨h2.1, ?_⟩))
  obtain ⟨-, hr, hf, iW, iX, hc⟩ := h2
  rcases hc with hc | c16
  · rw [hc]; exact hI0
  · have k : KP u v (kpL [0, 5, 36, 231, 271, 273]) := KP_fr hf (fun b j hb hp => by
      simp only [cpP, List.mem_cons, List.not_mem_nil, or_false, not_or] at hb hp
      omega)
    have g : ∀ b, kpL [0, 5, 36, 231, 271, 273] b = true → v.1 b = u.1 b := k
    have f : ∀ j : Int, j ≠ 3 → v.1 271 j = u.1 271 j := fun j hj => hf 271 j (fun hp => by
      simp only [cpP] at hp
      omega)
    have f17 : v.1 36 17 = u.1 36 17 := hf 36 17 (fun hp => by
      simp only [cpP] at hp
      omega)
    have r : ∀ b, v.2 b = u.2 b := fun b => by rw [hr]
    exact ⟨keepS k (by decide) (f 1 (by decide)) hS, iW, keepG k (by decide) (f 5 (by decide)) (f 6 (by decide)) (f 11 (by decide)) hG, keepL k (by decide) hL, keepM k (by decide) hM, keepP k (by decide) (by rw [g 193 (by decide)]) (by rw [g 212 (by decide)]) (r 193) (r 212) hP, keepQ k (by decide) hQ, keepT0 k (by decide) c16 f17 (r 36) hT, iX, keepE k (by decide) hE, keepB k (by decide) hB⟩
theorem op_expression (x : Int32) : opI Inv 62 235 [.int x] := by
  intro u hI
  obtain ⟨hS, hW, hG, hL, hM, hP, hQ, hT, hX, hE, hB⟩ := hI
  rw [iV_t]
  refine (st_expression (d := 390) (ri_toInt x) hS hM hE hB).mono (Nat.le_refl _) (fun r u1 h1 => h1.mono (Nat.le_refl _) (fun r' v h2 => ⟨h2.1, ?_⟩))
  obtain ⟨-, iS, iM, iE, iB, hr, hc⟩ := h2
  have main : ∀ (P : Nat → Int → Prop), fr1 P u v → (∀ b : Nat, (b = 0 ∨ b = 5 ∨ b = 6 ∨ b = 7 ∨ b = 8 ∨ b = 9 ∨ b = 10 ∨ b = 11 ∨ b = 12 ∨ b = 36 ∨ b = 56 ∨ b = 57 ∨ b = 194 ∨ b = 209 ∨ b = 213 ∨ b = 228 ∨ b = 231 ∨ b = 273 ∨ b = 274 ∨ b = 275 ∨ b = 276 ∨ b = 277 ∨ b = 283 ∨ b = 284 ∨ b = 285 ∨ b = 287 ∨ b = 288 ∨ b = 289 ∨ b ∈ fWT) → ∀ j, ¬ P b j) → (∀ j : Int, j = 3 ∨ j = 5 ∨ j = 6 ∨ j = 11 ∨ j = 73 ∨ j = 74 ∨ j = 75 → ¬ P 271 j) → invP v → Inv v := by
    intro P hf hn h271 iP
    have k : KP u v (fun b => decide (b = 0 ∨ b = 5 ∨ b = 6 ∨ b = 7 ∨ b = 8 ∨ b = 9 ∨ b = 10 ∨ b = 11 ∨ b = 12 ∨ b = 36 ∨ b = 56 ∨ b = 57 ∨ b = 194 ∨ b = 209 ∨ b = 213 ∨ b = 228 ∨ b = 231 ∨ b = 273 ∨ b = 274 ∨ b = 275 ∨ b = 276 ∨ b = 277 ∨ b = 283 ∨ b = 284 ∨ b = 285 ∨ b = 287 ∨ b = 288 ∨ b = 289 ∨ b ∈ fWT)) := fun b hb => funext (fun j => hf b j (hn b (of_decide_eq_true hb) j))
    have g : ∀ b, decide (b = 0 ∨ b = 5 ∨ b = 6 ∨ b = 7 ∨ b = 8 ∨ b = 9 ∨ b = 10 ∨ b = 11 ∨ b = 12 ∨ b = 36 ∨ b = 56 ∨ b = 57 ∨ b = 194 ∨ b = 209 ∨ b = 213 ∨ b = 228 ∨ b = 231 ∨ b = 273 ∨ b = 274 ∨ b = 275 ∨ b = 276 ∨ b = 277 ∨ b = 283 ∨ b = 284 ∨ b = 285 ∨ b = 287 ∨ b = 288 ∨ b = 289 ∨ b ∈ fWT) = true → v.1 b = u.1 b := k
    have f : ∀ j : Int, j = 3 ∨ j = 5 ∨ j = 6 ∨ j = 11 ∨ j = 73 ∨ j = 74 ∨ j = 75 → v.1 271 j = u.1 271 j := fun j hj => hf 271 j (h271 j hj)
    exact ⟨iS, keepW k (by decide) (by rw [g 0 (by decide)]) (f 3 (by omega)) hW, keepG k (by decide) (f 5 (by omega)) (f 6 (by omega)) (f 11 (by omega)) hG, keepL k (by decide) hL, iM, iP, keepQ k (by decide) hQ, keepT k (by decide) (by rw [g 36 (by decide)]) (by rw [g 36 (by decide)]) (hr 36 (by decide)) (g 5 (by decide)) (by rw [g 0 (by decide)]) hT, keepX k (by decide) (by rw [g 231 (by decide)]) (f 73 (by omega)) (f 74 (by omega)) (f 75 (by omega)) hX, iE, iB⟩
  rcases hc with hf | ⟨w, hw, -, z, hf⟩
  · have hrow : ∀ b : Nat, ¬ (b = 1 ∨ b = 3 ∨ b = 4 ∨ (63 ≤ b ∧ b ≤ 184) ∨ b = 271 ∨ (301 ≤ b ∧ b ≤ 320)) → v.1 b = u.1 b := fun b hb => funext (fun j => hf b j (fun hp => by unfold xp0 at hp; omega))
    refine main xp0 hf (fun b hb j hp => ?_) (fun j hj hp => by unfold xp0 at hp; omega) ?_
    · simp only [fWT, List.mem_cons, List.not_mem_nil, or_false] at hb
      unfold xp0 at hp
      omega
    · exact ⟨prd_of hP.1 (by rw [hrow _ (by omega)]) (hrow _ (by omega)) (by rw [hrow 6 (by omega)]) (by rw [hrow 6 (by omega)]) (hrow 8 (by omega)) (hrow 9 (by omega)) (hrow 10 (by omega)) (by rw [hrow _ (by omega)]) (hrow _ (by omega)) (hr _ (by omega)), prd_of hP.2 (by rw [hrow _ (by omega)]) (hrow _ (by omega)) (by rw [hrow 6 (by omega)]) (by rw [hrow 6 (by omega)]) (hrow 8 (by omega)) (hrow 9 (by omega)) (hrow 10 (by omega)) (by rw [hrow _ (by omega)]) (hrow _ (by omega)) (hr _ (by omega))⟩
  · have hrow : ∀ b : Nat, ¬ (b = 1 ∨ b = 3 ∨ b = 4 ∨ (63 ≤ b ∧ b ≤ 184) ∨ b = 271 ∨ (301 ≤ b ∧ b ≤ 320) ∨ b = 59 + 2 * w ∨ b = 59 + 2 * w + 1 ∨ b = 193 + 19 * w) → v.1 b = u.1 b := fun b hb => funext (fun j => hf b j (fun hp => by unfold xp1 xp0 at hp; omega))
    refine main (xp1 w) hf (fun b hb j hp => ?_) (fun j hj hp => by unfold xp1 xp0 at hp; omega) ?_
    · simp only [fWT, List.mem_cons, List.not_mem_nil, or_false] at hb
      unfold xp1 xp0 at hp
      omega
    · have this : prd v w := ⟨Or.inl z, fun e => by rw [z] at e; exact absurd e (by decide)⟩
      have other : ∀ w' : Nat, w' < 2 → w' ≠ w → prd u w' → prd v w' := fun w' h1 h2 h => prd_of h (by rw [hrow _ (by omega)]) (hrow _ (by omega)) (by rw [hrow 6 (by omega)]) (by rw [hrow 6 (by omega)]) (hrow 8 (by omega)) (hrow 9 (by omega)) (hrow 10 (by omega)) (by rw [hrow _ (by omega)]) (hrow _ (by omega)) (hr _ (by omega))
      by_cases w0 : w = 0
      · exact ⟨by rw [w0] at this; exact this, other 1 (by omega) (by omega) hP.2⟩
      · have w1 : w = 1 := by omega
        exact ⟨other 0 (by omega) (by omega) hP.1, by rw [w1] at this; exact this⟩
theorem ops : OPS Inv := by
  refine ⟨op_ask, op_word, op_grammar, op_expression, fun x => ?_, fun x y => ?_, fun x y => ?_, op_trees, op_treesOf, fun x y z => ?_, fun x y => ?_, fun x => ?_, op_apart, op_within, fun x => ?_, op_letter, op_node, op_copy, op_product, op_meets⟩
  · refine op_id (fun u hI => ?_)
    obtain ⟨hS, hW, hG, hL, hM, hP, hQ, hT, hX, hE, hB⟩ := hI
    rw [iV_t]
    exact st_count (d := 399) (ri_toInt x) hS hW hG
  · refine op_id (fun u hI => ?_)
    obtain ⟨hS, hW, hG, hL, hM, hP, hQ, hT, hX, hE, hB⟩ := hI
    rw [iV_t, iV_t]
    exact st_rule (d := 398) (ri_toInt x) (ri_toInt y) hG
  · refine op_idL (fun u hI => ?_)
    obtain ⟨hS, hW, hG, hL, hM, hP, hQ, hT, hX, hE, hB⟩ := hI
    rw [iV_t, iV_t]
    exact st_variable (d := 398) (ri_toInt x) (ri_toInt y) hG hL
  · refine op_id (fun u hI => ?_)
    obtain ⟨hS, hW, hG, hL, hM, hP, hQ, hT, hX, hE, hB⟩ := hI
    rw [iV_t, iV_t, iV_t]
    exact st_next (d := 398) (ri_toInt x) (ri_toInt y) (ri_toInt z) hM
  · refine op_id (fun u hI => ?_)
    obtain ⟨hS, hW, hG, hL, hM, hP, hQ, hT, hX, hE, hB⟩ := hI
    rw [iV_t, iV_t]
    exact st_isLast (d := 398) (ri_toInt x) (ri_toInt y) hM
  · refine op_id (fun u hI => ?_)
    obtain ⟨hS, hW, hG, hL, hM, hP, hQ, hT, hX, hE, hB⟩ := hI
    rw [iV_t]
    exact st_has (d := 398) (ri_toInt x) hM hW
  · refine op_idL (fun u hI => ?_)
    obtain ⟨hS, hW, hG, hL, hM, hP, hQ, hT, hX, hE, hB⟩ := hI
    rw [iV_t]
    exact (st_witness (d := 397) (ri_toInt x) hX).mono (Nat.le_refl _) (fun r u1 h1 => h1.mono (by omega) (fun r' u2 h2 => h2))
