/-! within: both sides alike -/
theorem inv3_of {u u' : uS} (h : ∀ b, b < 320 → b ∉ [231, 232, 244, 245, 246, 247, 248, 249, 250, 251, 252, 253, 254, 255, 256, 257, 258, 259, 266, 267, 268, 269, 270, 271] → u'.1 b = u.1 b) (h271 : ∀ i : Int, i ≠ 73 → i ≠ 74 → i ≠ 75 → u'.1 271 i = u.1 271 i) (h2 : ∀ b, b ≠ 231 → b ≠ 232 → u'.2 b = u.2 b) : (invG u → invG u') ∧ (invM u → invM u') ∧ (invP u → invP u') := by
  have e : ∀ b, b < 320 → b ∉ [231, 232, 244, 245, 246, 247, 248, 249, 250, 251, 252, 253, 254, 255, 256, 257, 258, 259, 266, 267, 268, 269, 270, 271] → u'.1 b = u.1 b := h
  refine ⟨fun hG => ?_, fun hM => ?_, fun hP => ?_⟩
  · unfold invG at hG ⊢
    rw [e 6 (by decide) (by decide), e 7 (by decide) (by decide), e 8 (by decide) (by decide), e 9 (by decide) (by decide), e 10 (by decide) (by decide), h271 5 (by decide) (by decide) (by decide), h271 6 (by decide) (by decide) (by decide), h271 11 (by decide) (by decide) (by decide), e 274 (by decide) (by decide), e 275 (by decide) (by decide), e 276 (by decide) (by decide), e 277 (by decide) (by decide)]
    exact hG
  · have q1 : u'.1 (59 + 2 * 0) = u.1 (59 + 2 * 0) := e 59 (by decide) (by decide)
    have q2 : u'.1 (59 + 2 * 0 + 1) = u.1 (59 + 2 * 0 + 1) := e 60 (by decide) (by decide)
    have q3 : u'.1 (59 + 2 * 1) = u.1 (59 + 2 * 1) := e 61 (by decide) (by decide)
    have q4 : u'.1 (59 + 2 * 1 + 1) = u.1 (59 + 2 * 1 + 1) := e 62 (by decide) (by decide)
    unfold invM mEq at hM ⊢
    rw [q1, q2, q3, q4, e 301 (by decide) (by decide), e 302 (by decide) (by decide), e 303 (by decide) (by decide)]
    exact hM
  · have f : ∀ wo, (wo = 0 ∨ wo = 1) → prd u wo → prd u' wo := fun wo ho hp => by
      have nin : ∀ b, b < 231 → u'.1 b = u.1 b := fun b hb => e b (by omega) (by simp only [List.mem_cons, List.not_mem_nil, or_false]; omega)
      exact prd_of hp (by rw [nin _ (by omega)]) (nin _ (by omega)) (by rw [nin 6 (by omega)]) (by rw [nin 6 (by omega)]) (nin _ (by omega)) (nin _ (by omega)) (nin _ (by omega)) (by rw [nin _ (by omega)]) (nin _ (by omega)) (h2 _ (by omega) (by omega))
    exact ⟨f 0 (Or.inl rfl) hP.1, f 1 (Or.inr rfl) hP.2⟩
theorem FT_of {u z w : uS} {nv nr n : Nat} {m : Int} (h : FT z w nv nr n m) (e5 : z.1 275 = u.1 275) (e6 : z.1 276 = u.1 276) (e7 : z.1 277 = u.1 277) (e2 : z.1 302 = u.1 302) : FT u w nv nr n m := by
  unfold FT drL dr clR clL atH clH entR dlR rwR at h ⊢
  rw [e5, e6, e7, e2] at h
  exact h
def wiP : Nat → Int → Prop := fun b j => pdP b j ∨ b ∈ fF ∨ b ∈ fH ∨ (b ∈ fY ∧ (b = 271 → j = 73 ∨ j = 74 ∨ j = 75))
theorem st_within {d : Nat} {u : uS} {x : Int} (hx : rI x) (hG : invG u) (hM : invM u) (hP : invP u) (hX : invX u) : cI (d + 18) 137 [.ref 0, iV x] u (fun r u1 => cI (d + 18) 268 [.ref 271, iV x] u1 (fun r' u2 => r' = r ∧ invP u2 ∧ invX u2 ∧ fr1 wiP u u2 ∧ (∀ b, b ≠ 193 → b ≠ 212 → b ≠ 231 → b ≠ 232 → u2.2 b = u.2 b))) := by
  obtain ⟨nv0, nr0, b1, b2', b3, b4, b5, b6, b7, b8, b9⟩ := id hG
  have bad : (nr0 = 0 ∨ x < 0 ∨ 1 < x) → cI (d + 18) 268 [.ref 271, iV x] u (fun r' u2 => r' = -1 ∧ invP u2 ∧ invX u2 ∧ fr1 wiP u u2 ∧ (∀ b, b ≠ 193 → b ≠ 212 → b ≠ 231 → b ≠ 232 → u2.2 b = u.2 b)) := by
    intro hb
    refine e_268 (d := d + 16) ?_
    rw [b7]
    refine ⟨by split <;> decide, ?_⟩
    by_cases h0 : nr0 = 0
    · rw [if_pos h0, if_pos rfl]
      exact ⟨rfl, hP, hX, fun _ _ _ => rfl, fun _ _ _ _ _ => rfl⟩
    · rw [if_neg h0, if_neg (by decide)]
      refine ⟨hx, ?_⟩
      split
      · exact ⟨rfl, hP, hX, fun _ _ _ => rfl, fun _ _ _ _ _ => rfl⟩
      · split
        · exact ⟨rfl, hP, hX, fun _ _ _ => rfl, fun _ _ _ _ _ => rfl⟩
        · omega
  refine e_137 (d := d + 16) ?_
  rw [b5]
  refine ⟨⟨by omega, by omega⟩, ?_⟩
  by_cases h0 : nr0 = 0
  · rw [if_neg (by omega)]
    exact bad (Or.inl h0)
  rw [if_pos (by omega)]
  refine ⟨hx, ?_⟩
  by_cases hx0 : x < 0
  · rw [if_pos hx0]; exact bad (by omega)
  rw [if_neg hx0]
  by_cases hx2' : ¬ x < 2
  · rw [if_neg hx2']; exact bad (by omega)
  have hx2 : x < 2 := by omega
  rw [if_pos hx2]
  intro u6 e6
  have u6b : ∀ b, b ≠ 231 → u6.1 b = u.1 b := fun b hb => by rw [e6, wr_ne hb]
  have u62 : u6.2 = u.2 := by rw [e6, wr_2]
  obtain ⟨i1, i2, i3⟩ := inv3_of (u := u) (u' := u6) (fun b _ hb => u6b b (fun h => hb (by rw [h]; decide))) (fun i _ _ _ => by rw [u6b 271 (by decide)]) (fun b _ _ => by rw [u62])
  refine e_138 (d := d + 16) ⟨by omega, hx2, ?_⟩
  refine both_fer (d := d + 8) (i1 hG) (i2 hM) (i3 hP) (by omega) hx2 (fun u1 nv nr n k1 k2 k3 k4 k5 k6 k7 k8 k9 k10 k11 k12 k13 k14 k15 => ?_)
  obtain ⟨g1, g2, g3, g4, g5, g6, g7, g8, g9⟩ := id k1
  have hnr : nr = nr0 := by rw [k6, u6b 6 (by decide), b5] at g4; omega
  have hv1 : 1 ≤ nv := by
    obtain ⟨q1, q2⟩ := (g5 0 (Int.le_refl 0) (by omega)).1
    omega
  have hz : iR nv 0 := ⟨by omega, by omega⟩
  have hzn : iR n 0 := ⟨by omega, by omega⟩
  have hrow := stB_F k7.1 hz hzn
  rw [show (0 : Int) * 40 + 0 = 0 by omega] at hrow
  have hmkk : 59 + 2 * x.toNat = 59 ∨ 59 + 2 * x.toNat = 61 := by omega
  have hMO : isO (59 + 2 * x.toNat) 5 := by rcases hmkk with z | z <;> rw [z] <;> first | exact sx_59 | exact sx_61
  generalize hmk : 59 + 2 * x.toNat = mk at *
  have h11 : u1.1 271 11 = 1 := by rw [k10, u6b 271 (by decide), b7, if_neg h0]
  have h231 : u1.1 231 0 = 0 := by
    rw [k14 231 0 (by unfold pdP fT; simp), e6, wr_self]
  have h33 : ∀ t, 0 ≤ t → t < 16000 → cB (u1.1 333 t) := fun t h0 h1 => by
    rw [k14 333 t (by unfold pdP fT; simp), u6b 333 (by decide)]
    exact hX.1 t h0 h1
  have hxor : ∀ i : Nat, i < 64 → bt (lxor (u1.1 mk 1) (-1)) i = ! bt (u1.1 mk 1) i := fun i hi => by
    rw [bt_lxor, bt_m1 hi, Bool.xor_true]
  by_cases hl : land (u1.1 (193 + 19 * x.toNat + 1) 0) (lxor (u1.1 mk 1) (-1)) = 0
  · -- every word is in
    rw [if_pos hl]
    refine cI.mono (q_268 (e := d + 11) (b := 0) (c := 1) k1 k2 k3 hv1 k4 h11 h33 (fun w wF => Or.inl ⟨rfl, fun q hq => ?_⟩)) (Nat.le_refl _) (fun r z ⟨zr, z2, zs, z271, z33, zc⟩ => ?_)
    · obtain ⟨q1, q2, q3⟩ := hq
      have hf := (fer_iff k1 k3 k7 wF 0 0 q hz hzn q1).mpr q3
      have q0 := q1.1
      have qn := q1.2
      have eq : ((q.toNat : Nat) : Int) = q := by omega
      have hb := (hrow.2 q.toNat).mpr (by rw [eq]; exact ⟨q1.2, hf⟩)
      refine land_z hl q.toNat hb ?_
      rw [hxor q.toNat (by omega), q2]
      rfl
    · have zc1 : z.1 271 73 = 0 := by
        rcases zc with q | q
        · exact q.2
        · exact absurd q.1 (by decide)
      refine ⟨zr, (inv3_of (u := u1) (u' := z) (fun b hb hn => zs b (fun h => hn ?_)) z271 (fun b _ _ => by rw [z2])).2.2 k13, ⟨z33, Or.inl ⟨by rw [zs 231 (by decide)]; exact h231, zc1⟩⟩, fun b j hb => ?_, fun b q1 q2 q3 q4 => by rw [z2, k15 b (by omega), u62]⟩
      · simp only [fY, List.mem_cons, List.not_mem_nil, or_false] at h ⊢
        omega
      · unfold wiP at hb
        have h1 : z.1 b j = u1.1 b j := by
          by_cases hy : b ∈ fY
          · have e271 : b = 271 := Classical.byContradiction (fun hne => hb (Or.inr (Or.inr (Or.inr ⟨hy, fun h => absurd h hne⟩))))
            rw [e271]
            refine z271 j ?_ ?_ ?_
            · exact fun h => hb (Or.inr (Or.inr (Or.inr ⟨hy, fun _ => Or.inl h⟩)))
            · exact fun h => hb (Or.inr (Or.inr (Or.inr ⟨hy, fun _ => Or.inr (Or.inl h)⟩)))
            · exact fun h => hb (Or.inr (Or.inr (Or.inr ⟨hy, fun _ => Or.inr (Or.inr h)⟩)))
          · rw [zs b hy]
        rw [h1, k14 b j (fun h => hb (Or.inl h)), u6b b (fun h => hb (Or.inr (Or.inr (Or.inl (by rw [h]; decide)))))]
  · rw [if_neg hl]
    obtain ⟨i, j1, j2, j3⟩ := land_ne hl
    obtain ⟨j4, j5⟩ := (hrow.2 i).mp j2
    rw [hxor i j1] at j3
    have hiR : iR n (i : Int) := ⟨by omega, j4⟩
    have hil : bt (u1.1 mk 1) ((i : Int)).toNat = false := by
      rw [show ((i : Int)).toNat = i by omega]
      cases hb : bt (u1.1 mk 1) i with
      | false => rfl
      | true => rw [hb] at j3; cases j3
    obtain ⟨w0, -, -, wF0⟩ := cV_ex (q_269 (d := 0) k2)
    have hMk := Mok_of k1
    have hS := LHs_of k1 k2 k3 wF0
    have hf0 : Fe (mOf u1 mk nv nr n) (L3 w0) 0 0 i := ⟨hz, hzn, hiR, (fer_iff k1 k3 k7 wF0 0 0 i hz hzn hiR).mp j5⟩
    refine cI.mono (q_143 (d := d) (u := u1) (b0 := (i : Int)) hmkk hMO hMk hS hv1 g3 g4 rfl rfl (fun _ _ => rfl) (fun _ _ => rfl) g8 hiR hil hf0) (Nat.le_refl _) (fun c w ⟨c1, wr2, ws, wR⟩ => ?_)
    rw [c1]
    refine ⟨⟨by omega, by omega⟩, ?_⟩
    rw [if_neg (by omega)]
    have wmk : w.1 mk = u1.1 mk := ws mk (by simp only [fF, List.mem_cons, List.not_mem_nil, or_false]; omega)
    have wmk1 : w.1 (mk + 1) = u1.1 (mk + 1) := ws (mk + 1) (by simp only [fF, List.mem_cons, List.not_mem_nil, or_false]; omega)
    refine cV.mono (q_165 (e := d + 8) (u := w) hmkk hMO hMk hS (by rw [ws 6 (by decide)]; exact g3) (by rw [ws 6 (by decide)]; exact g4) (ws 8 (by decide)) (ws 9 (by decide)) (fun r k => by rw [ws 10 (by decide)]; rfl) (fun o s => by rw [wmk1]; rfl) wR) (Nat.le_refl _) (fun z ⟨z2, zs, z231, z2310, zW, zH⟩ => ?_)
    obtain ⟨s, b, hO, hok, hn, hb, hkb, hlb, hrg, hcl, hbest⟩ := wR
    rw [hb] at zH
    have zu : ∀ b, b ∉ fF → b ∉ fH → z.1 b = u1.1 b := fun b q1 q2 => (zs b q2).trans (ws b q1)
    have zmk : z.1 mk = u1.1 mk := zu mk (by simp only [fF, List.mem_cons, List.not_mem_nil, or_false]; omega) (by simp only [fH, List.mem_cons, List.not_mem_nil, or_false]; omega)
    have zmk1 : z.1 (mk + 1) = u1.1 (mk + 1) := zu (mk + 1) (by simp only [fF, List.mem_cons, List.not_mem_nil, or_false]; omega) (by simp only [fH, List.mem_cons, List.not_mem_nil, or_false]; omega)
    have z6 : z.1 6 = u1.1 6 := zu 6 (by decide) (by decide)
    have z8 : z.1 8 = u1.1 8 := zu 8 (by decide) (by decide)
    have z9 : z.1 9 = u1.1 9 := zu 9 (by decide) (by decide)
    have z10 : z.1 10 = u1.1 10 := zu 10 (by decide) (by decide)
    have z271 : z.1 271 = u1.1 271 := zu 271 (by decide) (by decide)
    have z275 : z.1 275 = u1.1 275 := zu 275 (by decide) (by decide)
    have z276 : z.1 276 = u1.1 276 := zu 276 (by decide) (by decide)
    have z277 : z.1 277 = u1.1 277 := zu 277 (by decide) (by decide)
    have z301 : z.1 301 = u1.1 301 := zu 301 (by decide) (by decide)
    have z302 : z.1 302 = u1.1 302 := zu 302 (by decide) (by decide)
    have z303 : z.1 303 = u1.1 303 := zu 303 (by decide) (by decide)
    have z333 : z.1 333 = u1.1 333 := zu 333 (by decide) (by decide)
    have eM : mOf z mk nv nr n = mOf u1 mk nv nr n := by
      unfold mOf lrw dlt
      rw [z8, z9, z10, zmk1]
    have zE : sideE z nr n mk x := by
      unfold sideE at k3 ⊢
      rw [z275, z276, z277, z8, z9, z10, z302, zmk1]
      exact k3
    have agree : ∀ w', FT z w' nv nr n x → agr (mOf u1 mk nv nr n) (L3 w') (H3 w') (L3 w0) (H3 w0) := fun w' hF x' o' q' hx' ho' hq' => by
      have hF' := FT_of hF z275 z276 z277 z302
      exact ⟨FT_eq k2 hF' wF0 ho' hx' hq', fun hne => FT_Heq k2 hF' wF0 ho' hx' hq' hne⟩
    have hbR : iR n b := hkb.2.2.1
    refine cI.mono (q_268 (e := d + 11) (v := z) (m := x) (b := b) (c := 0) (mk := mk) (GMc_of k1 (by rw [z6]) (by rw [z6]) z8 z9 z10 (by rw [zmk]) zmk1) (RGc_of k2 (by rw [z271]) z275 z276 z277 z301 z302) zE hv1 (fun s s0 s1 => by rw [z303, zmk]; exact k4 s s0 s1) (by rw [z271]; exact h11) (fun t h0 h1 => by rw [z333]; exact h33 t h0 h1) (fun w' hF => Or.inr ⟨rfl, ?_⟩)) (Nat.le_refl _) (fun r y ⟨yr, y2, ys, y271, y33, yc⟩ => ?_)
    · -- the same root
      have hA := agree w' hF
      have hfb := (hrg 0 0 b hkb).1
      obtain ⟨hfb', lb, hb'⟩ := Fe_agr (agr_sy hA) hfb
      rw [wmk] at hlb hbest
      refine ⟨⟨hbR, by rw [zmk]; exact hlb, hfb'.2.2.2⟩, fun q ⟨q1, q2, q3⟩ => ?_⟩
      rw [zmk] at q2
      obtain ⟨hfq, lq, hq'⟩ := Fe_agr hA (⟨hz, hzn, q1, q3⟩ : Fe (mOf u1 mk nv nr n) (L3 w') 0 0 q)
      have := hbest q q1 q2 hfq
      rw [lb, hb', ← lq, ← hq'] at this
      exact this
    · rcases yc with q | ⟨-, y73, y74, y75, yW, w', hF, hfe, yR⟩
      · exact absurd q.1 (by decide)
      rw [eM] at yR
      have hA := agree w' hF
      have y44 : ∀ b, b < 271 → y.1 b = z.1 b := fun b hb => ys b (by simp only [fY, List.mem_cons, List.not_mem_nil, or_false]; omega)
      have y32 : y.1 232 = w.1 232 := (y44 232 (by omega)).trans (zs 232 (by decide))
      have y47 : y.1 247 = w.1 247 := (y44 247 (by omega)).trans (zs 247 (by decide))
      have eK : Kv (mOf u1 mk nv nr n) y = Kv (mOf u1 mk nv nr n) w := Kv_eq y47
      have eKz : Kv (mOf u1 mk nv nr n) y = Kv (mOf u1 mk nv nr n) z := Kv_eq (y44 247 (by omega))
      have hWX : WX y := by
        refine WX_mk (M := mOf u1 mk nv nr n) (L := L3 w0) (H := H3 w0) (L' := L3 w') (H' := H3 w') (s := s) (b := b) hMk hS hA ?_ ?_ (by rw [y32]; exact hb) (by rw [eK]; exact hkb) y74 y75 (fun r r0 r1 => ?_) ?_ yR
        · have := sV_of zW
          unfold sV rgt at this ⊢
          rw [eKz, y44 255 (by omega), y44 257 (by omega), y44 258 (by omega), y44 259 (by omega), y44 232 (by omega), y44 247 (by omega), y44 244 (by omega), y44 245 (by omega)]
          exact this
        · unfold OD at hO ⊢
          rw [eK, y32, y44 246 (by omega), zs 246 (by decide)]
          exact hO
        · obtain ⟨q1, q2⟩ := yW r r0 r1
          have hs := zE.1 r r0 r1
          have e9' : z.1 9 r = xl (mOf u1 mk nv nr n) r := by rw [z9]; rfl
          refine ⟨by rw [q1, hs.2.1]; exact e9', fun k h0 h1 => ?_⟩
          have hl6 := (g5 r r0 r1).2.2.1
          have h1' : k < u1.1 9 r := h1
          rw [q2 k h0 (by omega), hs.2.2 k h0 (by rw [e9']; exact h1), z10]
          rfl
        · unfold HLD CHc at zH ⊢
          rw [eKz, y44 266 (by omega), y44 267 (by omega), y44 268 (by omega)]
          exact zH
      have zref : ∀ c, c ≠ 231 → c ≠ 232 → z.2 c = u1.2 c := fun c q1 q2 => by
        rw [z2, wq_ne q1, wr2, wq_ne q2, wq_ne q2]
      refine ⟨yr, (inv3_of (u := u1) (u' := y) (fun c hc hn => ?_) (fun i q1 q2 q3 => by rw [y271 i q1 q2 q3, z271]) (fun c q1 q2 => by rw [y2]; exact zref c q1 q2)).2.2 k13, ⟨y33, Or.inr ⟨by rw [y44 231 (by omega)]; exact z2310, y73, hWX⟩⟩, fun c j hc => ?_, fun c q1 q2 q3 q4 => by rw [y2, zref c q3 q4, k15 c (by omega), u62]⟩
      · simp only [List.mem_cons, List.not_mem_nil, or_false, not_or] at hn
        rw [ys c (by simp only [fY, List.mem_cons, List.not_mem_nil, or_false]; omega)]
        exact zu c (by simp only [fF, List.mem_cons, List.not_mem_nil, or_false]; omega) (by simp only [fH, List.mem_cons, List.not_mem_nil, or_false]; omega)
      · unfold wiP at hc
        have h1 : y.1 c j = z.1 c j := by
          by_cases hy : c ∈ fY
          · have e271 : c = 271 := Classical.byContradiction (fun hne => hc (Or.inr (Or.inr (Or.inr ⟨hy, fun h => absurd h hne⟩))))
            rw [e271]
            refine y271 j ?_ ?_ ?_
            · exact fun h => hc (Or.inr (Or.inr (Or.inr ⟨hy, fun _ => Or.inl h⟩)))
            · exact fun h => hc (Or.inr (Or.inr (Or.inr ⟨hy, fun _ => Or.inr (Or.inl h)⟩)))
            · exact fun h => hc (Or.inr (Or.inr (Or.inr ⟨hy, fun _ => Or.inr (Or.inr h)⟩)))
          · rw [ys c hy]
        rw [h1, zu c (fun h => hc (Or.inr (Or.inl h))) (fun h => hc (Or.inr (Or.inr (Or.inl h)))), k14 c j (fun h => hc (Or.inl h)), u6b c (fun h => hc (Or.inr (Or.inr (Or.inl (by rw [h]; decide)))))]
