/-! The search as a whole -/
/-- what a search that found something leaves -/
def RES (M : Mg) (mk : Nat) (L H : T3) (w : uS) : Prop := ∃ (s : Nat) (b : Int), OD M L H w s ∧ okF (xv M) (xn M) (w.1 247) ∧ w.1 232 2 = xn M ∧ w.1 232 3 = b ∧ Kv M w 0 0 b ∧ bt (w.1 mk 1) b.toNat = false ∧ rgt M L H w ∧ (∀ k1 k2 k3 x o q, Kv M w k1 k2 k3 → Fe M L x o q → L x o q ≤ L k1 k2 k3 → H x o q < H k1 k2 k3 → Kv M w x o q) ∧ ∀ q, iR (xn M) q → bt (w.1 mk 1) q.toNat = false → Fe M L 0 0 q → L 0 0 b < L 0 0 q ∨ (L 0 0 b = L 0 0 q ∧ (H 0 0 b < H 0 0 q ∨ (H 0 0 b = H 0 0 q ∧ b ≤ q)))
theorem q_162 {d mk : Nat} {M : Mg} {L H : T3} {v : uS} {s : Nat} {b0 : Int} (hmk : mk = 59 ∨ mk = 61) (hMO : isO mk 5) (hM : Mok M) (hS : LHs M L H) (hv1 : 1 ≤ xv M) (hA : sA v M mk) (hok : okF (xv M) (xn M) (v.1 247)) (hr : rgt M L H v) (hO : OD M L H v s) (hsm : ∀ x o q, Kv M v x o q → L x o q < 4000000000000000000) (hall : ∀ x o q, Fe M L x o q → L x o q < 4000000000000000000 → Kv M v x o q) (hroot : v.1 232 3 = -1) (hno : ∀ b, iR (xn M) b → bt (v.1 mk 1) b.toNat = false → ¬ Kv M v 0 0 b) (hb0 : iR (xn M) b0) (hl0 : bt (v.1 mk 1) b0.toNat = false) (hf0 : Fe M L 0 0 b0) : cV (d + 9) 162 [.ref 232] v (fun w => w.2 = v.2 ∧ sb1 v w fG ∧ RES M mk L H w) := by
  obtain ⟨m1, m2, m3, m4, m5, m6⟩ := id hM
  generalize hQQ : (fun w : uS => w.2 = v.2 ∧ sb1 v w fG ∧ RES M mk L H w) = Q
  have hH0 : 1 ≤ H 0 0 b0 ∧ H 0 0 b0 ≤ 16000 := by
    rcases hS.1 0 0 b0 hf0.1 hf0.2.1 hb0 with z | z
    · exact absurd z hf0.2.2.2
    · exact z.2
  have hLM : ∀ x o q, Fe M L x o q → L x o q ≤ 4000000000000000000 ∧ 1 ≤ H x o q := fun x o q hf => by
    rcases hS.1 x o q hf.1 hf.2.1 hf.2.2.1 with z | z
    · exact absurd z hf.2.2.2
    · exact ⟨z.1.2, z.2.1⟩
  have h59 : mk ∉ fG := by simp only [fG, List.mem_cons, List.not_mem_nil, or_false]; omega
  have level : ∀ (k : Nat) (h : Int) (w : uS) (s' : Nat), h + k = 16000 → 1 ≤ h → w.2 = v.2 → sb1 v w fG → sA w M mk → okF (xv M) (xn M) (w.1 247) → rgt M L H w → OD M L H w s' → (∀ x o q, Kv M w x o q → L x o q < 4000000000000000000 ∨ L x o q = 4000000000000000000 ∧ H x o q ≤ h) → (∀ x o q, Fe M L x o q → L x o q < 4000000000000000000 ∨ H x o q ≤ h → Kv M w x o q) → okF (xv M) (xn M) (w.1 253) → (∀ x o q, Fg (xv M) (xn M) (w.1 253) x o q ↔ Kv M w x o q ∧ H x o q ≤ h - 1) → w.1 232 3 = -1 → (∀ b, iR (xn M) b → bt (w.1 mk 1) b.toNat = false → ¬ Kv M w 0 0 b) → K_162 (d + 8) 10 [.ref 232, iV h, .retAddr 0, .retAddr 0] [] w Q := by
    intro k
    induction k with
    | zero =>
      intro h w s' hk h1 w2 ws wA wok wr' wO w5 w6 w7 w8 wroot wno
      exfalso
      refine wno b0 hb0 ?_ (w6 0 0 b0 hf0 (Or.inr (by omega)))
      rw [ws mk h59]
      exact hl0
    | succ k ih =>
      intro h w s' hk h1 w2 ws wA wok wr' wO w5 w6 w7 w8 wroot wno
      have s16 : s' ≤ 16000 := by
        have := wO.2.1
        have := ct_le (fun a => pd (∃ x o q, Kv M w x o q ∧ (a : Int) = tcx (xn M) x o q)) 16000
        omega
      refine k_162_10 ⟨⟨by omega, by omega⟩, ?_⟩
      rw [if_neg (by omega), wroot]
      refine ⟨by decide, ?_⟩
      rw [if_pos rfl]
      refine cI.mono (q_163 (d := d + 5) (h := h) hmk hM hS wA wr' wO s16 h1 (by omega) w7) (by omega) (fun c z ⟨z1, z2, z3, z4, z5⟩ => ?_)
      have e32 : z.1 232 = w.1 232 := z2 _ (by decide)
      have eK : Kv M z = Kv M w := by
        show Fg (xv M) (xn M) (z.1 247) = Fg (xv M) (xn M) (w.1 247)
        rw [z2 247 (by decide)]
      have zA : sA z M mk := sA_tr hmk wA z1.1 z1.2.1 z1.2.2.1
      have zok : okF (xv M) (xn M) (z.1 247) := by rw [z2 247 (by decide)]; exact wok
      have zr : rgt M L H z := fun x o q hk => by
        rw [eK] at hk
        rw [z2 244 (by decide), z2 245 (by decide)]
        exact wr' x o q hk
      have zO : OD M L H z s' := by
        unfold OD at wO ⊢
        rw [eK, e32, z2 246 (by decide)]
        exact wO
      have z8 : ∀ x o q, Fg (xv M) (xn M) (z.1 253) x o q ↔ Kv M z x o q ∧ H x o q ≤ h := fun x o q => by
        rw [z4, w8, eK]
        constructor
        · rintro (⟨a1, a2⟩ | ⟨a1, a2⟩)
          · exact ⟨a1, by omega⟩
          · exact ⟨a1, by omega⟩
        · rintro ⟨a1, a2⟩
          by_cases e : H x o q = h
          · exact Or.inr ⟨a1, e⟩
          · exact Or.inl ⟨a1, by omega⟩
      have zmk : z.1 mk = w.1 mk := z2 _ (by simp only [List.mem_singleton]; omega)
      have zs : sb1 v z fG := sb1_trans ws z1.2.1
      rcases z5 with ⟨ec, hnone⟩ | ec
      · -- nothing of this height
        rw [ec]
        refine ⟨by decide, ?_⟩
        rw [if_pos rfl]
        refine ih (h + 1) z s' (by omega) (by omega) (z1.1.trans w2) zs zA zok zr zO (fun x o q hk => ?_) (fun x o q hf hh => ?_) z3 (fun x o q => by rw [z8, show h + 1 - 1 = h by omega]) (by rw [e32]; exact wroot) (fun b hb hl => by rw [eK]; exact wno b hb (by rw [← zmk]; exact hl))
        · rw [eK] at hk
          rcases w5 x o q hk with a | a
          · exact Or.inl a
          · exact Or.inr ⟨a.1, by omega⟩
        · rw [eK]
          by_cases hs : L x o q < 4000000000000000000 ∨ H x o q ≤ h
          · exact w6 x o q hf hs
          · exfalso
            obtain ⟨r, c', g, r0, r1, rx, hw, hc, hg⟩ := hS.2.2 x o q hf
            rcases wk_sub _ _ _ _ hw with a | ⟨x', o', q', a1, a2⟩
            · omega
            · have hk' := w6 x' o' q' a1 (Or.inr (by omega))
              exact hnone x' o' q' hk' (by omega)
      · rw [ec]
        refine ⟨by decide, ?_⟩
        rw [if_neg (by decide)]
        have zG : GB M mk L H h z s' := by
          refine ⟨zA, zok, zr, zO, fun x o q hk => ?_, fun x o q hf hh => by rw [eK]; exact w6 x o q hf hh, z3, z8⟩
          rw [eK] at hk
          rcases w5 x o q hk with a | a
          · exact Or.inl a
          · exact Or.inr ⟨a.1, by omega⟩
        have zroot : z.1 232 3 = -1 := by rw [e32]; exact wroot
        -- all rules
        have rules : ∀ (m r : Nat) (y : uS) (sy : Nat), r + m = xr M → GF2 z y → GB M mk L H h y sy → (∀ x o q, Kv M z x o q → Kv M y x o q) → (∀ (r' p q c g : Int), 0 ≤ r' → r' < r → iR (xn M) p → iR (xn M) q → wk M (fun x o b => Kv M z x o b ∧ H x o b ≤ h) L H r' p (xl M r').toNat q c g → Kv M y (xh M r') p q) → K_162 (d + 8) 35 [.ref 232, iV h, iV (r : Int), .retAddr 0] [] y Q := by
          intro m
          induction m with
          | zero =>
            intro r y sy hr yF yG yK ycl
            obtain ⟨g1, g2, g3, g4, g5, g6, g7, g8⟩ := id yG
            have ymk : y.1 mk = z.1 mk := yF.2.1 mk h59
            refine k_162_35 ?_
            rw [g1.1, g1.2.2.2.1]
            refine ⟨sx_6, ⟨by omega, by omega⟩, ⟨by omega, by omega⟩, ?_⟩
            rw [if_neg (by omega), g1.2.1]
            refine ⟨hMO, ?_⟩
            -- all of the next height are known
            have full : ∀ x o q, Fe M L x o q → L x o q < 4000000000000000000 ∨ H x o q ≤ h + 1 → Kv M y x o q := fun x o q hf hh => by
              by_cases hs : L x o q < 4000000000000000000 ∨ H x o q ≤ h
              · exact g6 x o q hf hs
              · obtain ⟨r', c', g', r0, r1, rx, hw, hc, hg⟩ := hS.2.2 x o q hf
                have hw' := wk_low (B := h) _ _ _ _ hw (by omega)
                have := ycl r' o q c' g' r0 (by omega) hf.2.1 hf.2.2.1 (wk_mono (fun x o b hh => ⟨by rw [eK]; exact w6 x o b hh.1 (Or.inr hh.2), hh.2⟩) _ _ _ _ hw')
                rw [rx] at this
                exact this
            have hz0 : iR (xv M) 0 := ⟨by omega, by omega⟩
            have hzn : iR (xn M) 0 := ⟨by omega, by omega⟩
            have hbits : ∀ i : Nat, bt (land (y.1 247 0) (lxor (y.1 mk 1) (-1))) i = true ↔ Kv M y 0 0 i ∧ bt (y.1 mk 1) i = false := fun i => by
              rw [bt_land, Bool.and_eq_true, bt_lxor]
              have hrow := stB_F g2 hz0 hzn
              rw [show (0 : Int) * 40 + 0 = 0 by omega] at hrow
              rw [hrow.2 i]
              constructor
              · rintro ⟨⟨q1, q2⟩, q3⟩
                refine ⟨q2, ?_⟩
                rw [bt_m1 (by omega)] at q3
                cases hb : bt (y.1 mk 1) i with
                | false => rfl
                | true => rw [hb] at q3; exact absurd q3 (by decide)
              · rintro ⟨q1, q2⟩
                have q12 := q1.2.2.1.2
                refine ⟨⟨q12, q1⟩, ?_⟩
                rw [bt_m1 (by omega), q2]
                rfl
            by_cases he : land (y.1 247 0) (lxor (y.1 mk 1) (-1)) = 0
            · rw [if_pos he]
              intro y' ey
              have fy : ∀ b, b ≠ 232 → y'.1 b = y.1 b := fun b hb => by rw [ey, wr_ne hb]
              have f32 : y'.1 232 = uf (y.1 232) 3 (-1) := by rw [ey, wr_uf]
              have eK' : Kv M y' = Kv M y := by
                show Fg (xv M) (xn M) (y'.1 247) = Fg (xv M) (xn M) (y.1 247)
                rw [fy 247 (by omega)]
              have y's : sb1 v y' fG := by rw [ey]; exact sb1_wr (sb1_trans zs yF.2.1) (by decide)
              have y'2 : y'.2 = y.2 := by rw [ey, wr_2]
              refine ih (h + 1) y' sy (by omega) (by omega) (by rw [y'2, yF.1, z1.1]; exact w2) y's (sA_of g1 y'2 (fy _ (by omega)) (fy _ (by omega)) (fy _ (by omega)) (fy _ (by omega)) (fy _ (by omega)) (by rw [f32, uf_ne (by decide)])) (by rw [fy 247 (by omega)]; exact g2) (fun x o q hk => by rw [eK'] at hk; rw [fy 244 (by omega), fy 245 (by omega)]; exact g3 x o q hk) ?_ (by rw [eK']; exact g5) (by rw [eK']; exact full) (by rw [fy 253 (by omega)]; exact g7) (fun x o q => by rw [fy 253 (by omega), eK', g8, show h + 1 - 1 = h by omega]) (by rw [f32, uf_eq]) (fun b hb hl hk => ?_)
              · unfold OD at g4 ⊢
                rw [eK', f32, uf_ne (by decide), fy 246 (by omega)]
                exact g4
              · rw [eK'] at hk
                rw [fy mk (by omega)] at hl
                have hb1 := hb.1
                have := (hbits b.toNat).mpr ⟨by rw [show ((b.toNat : Nat) : Int) = b by omega]; exact hk, hl⟩
                rw [he, bt_0] at this
                cases this
            · rw [if_neg he]
              obtain ⟨t, t1, t2, t3, t4, -⟩ := ntz_spec (rl_land _ _) he
              rw [t2]
              intro y' ey
              obtain ⟨tk, tl⟩ := (hbits t).mp t3
              have fy : ∀ b, b ≠ 232 → y'.1 b = y.1 b := fun b hb => by rw [ey, wr_ne hb]
              have f32 : y'.1 232 = uf (y.1 232) 3 (t : Int) := by rw [ey, wr_uf]
              have eK' : Kv M y' = Kv M y := by
                show Fg (xv M) (xn M) (y'.1 247) = Fg (xv M) (xn M) (y.1 247)
                rw [fy 247 (by omega)]
              have y's : sb1 v y' fG := by rw [ey]; exact sb1_wr (sb1_trans zs yF.2.1) (by decide)
              have y'2 : y'.2 = v.2 := by rw [ey, wr_2, yF.1, z1.1]; exact w2
              have hlast : y.1 mk = w.1 mk := ymk.trans zmk
              -- what is a root wasn't known before
              have nroot : ∀ q, iR (xn M) q → bt (y.1 mk 1) q.toNat = false → Fe M L 0 0 q → L 0 0 q = 4000000000000000000 ∧ h < H 0 0 q := fun q hq hl hf => by
                have hn := wno q hq (by rw [← hlast]; exact hl)
                have hb := hLM 0 0 q hf
                refine ⟨?_, ?_⟩
                · by_cases e : L 0 0 q < 4000000000000000000
                  · exact absurd (w6 0 0 q hf (Or.inl e)) hn
                  · omega
                · by_cases e : H 0 0 q ≤ h
                  · exact absurd (w6 0 0 q hf (Or.inr e)) hn
                  · omega
              have hres : RES M mk L H y' := by
                refine ⟨sy, t, ?_, by rw [fy 247 (by omega)]; exact g2, by rw [f32, uf_ne (by decide)]; exact g1.2.2.2.2.2.2.2.2, by rw [f32, uf_eq], by rw [eK']; exact tk, by rw [fy mk (by omega), show ((t : Int)).toNat = t by omega]; exact tl, fun x o q hk => by rw [eK'] at hk; rw [fy 244 (by omega), fy 245 (by omega)]; exact g3 x o q hk, fun k1 k2 k3 x o q hk hf hL hH => ?_, fun q hq hl hf => ?_⟩
                · unfold OD at g4 ⊢
                  rw [eK', f32, uf_ne (by decide), fy 246 (by omega)]
                  exact g4
                · rw [eK'] at hk ⊢
                  refine full x o q hf ?_
                  rcases g5 k1 k2 k3 hk with a | a
                  · exact Or.inl (by omega)
                  · by_cases e : L x o q < 4000000000000000000
                    · exact Or.inl e
                    · exact Or.inr (by omega)
                · rw [fy mk (by omega)] at hl
                  have tR := tk.2.2.1
                  have htf := (g3 0 0 t tk).1
                  obtain ⟨n1, n2⟩ := nroot t tR (by rw [show ((t : Int)).toNat = t by omega]; exact tl) htf
                  obtain ⟨n3, n4⟩ := nroot q hq hl hf
                  have n5 : H 0 0 t ≤ h + 1 := by
                    rcases g5 0 0 t tk with a | a
                    · omega
                    · exact a.2
                  refine Or.inr ⟨by omega, ?_⟩
                  by_cases e : H 0 0 q = h + 1
                  · refine Or.inr ⟨by omega, ?_⟩
                    have hkq := full 0 0 q hf (Or.inr (by omega))
                    have hq0 := hq.1
                    by_cases hlt : q < t
                    · have := t4 q.toNat (by omega)
                      rw [(hbits q.toNat).mpr ⟨by rw [show ((q.toNat : Nat) : Int) = q by omega]; exact hkq, hl⟩] at this
                      cases this
                    · omega
                  · exact Or.inl (by omega)
              have fin : Q y' := by
                rw [← hQQ]
                exact ⟨y'2, y's, hres⟩
              refine k_162_10 ⟨⟨by omega, by omega⟩, ?_⟩
              split
              · exact fin
              · have e3 : y'.1 232 3 = t := by rw [f32, uf_eq]
                rw [e3]
                refine ⟨⟨by omega, by omega⟩, ?_⟩
                rw [if_neg (by omega)]
                exact fin
          | succ m ihm =>
            intro r y sy hr yF yG yK ycl
            obtain ⟨g1, g2, g3, g4, g5, g6, g7, g8⟩ := id yG
            refine k_162_35 ?_
            rw [g1.1, g1.2.2.2.1]
            refine ⟨sx_6, ⟨by omega, by omega⟩, ⟨by omega, by omega⟩, ?_⟩
            rw [if_pos (by omega)]
            refine cV.mono (q_164 (d := d + 1) (r := (r : Int)) hmk hMO hM hS yG h1 (by omega) (by omega) (by omega)) (by omega) (fun o ⟨o1, ⟨so, o2⟩, o3, o4⟩ => ?_)
            have := ihm (r + 1) o so (by omega) (GF2_tr yF o1) o2 (fun x o' q hk => o3 x o' q (yK x o' q hk)) (fun r' p q c' g' r0 r1 hp hq hw => ?_)
            · rw [Int.natCast_succ] at this
              exact this
            · by_cases e : r' = r
              · rw [e] at hw ⊢
                exact o4 p q c' g' hp hq (wk_mono (fun x o b hh => ⟨yK x o b hh.1, hh.2⟩) _ _ _ _ hw)
              · exact o3 _ _ _ (ycl r' p q c' g' r0 (by omega) hp hq hw)
        exact rules (xr M) 0 z s' (by omega) (GF2_refl z) zG (fun _ _ _ h => h) (fun r' p q c' g' r0 r1 => by omega)
  refine e_162 (fun w ew => ?_)
  have fw : ∀ b, b ≠ 253 → w.1 b = v.1 b := fun b hb => by rw [ew, fil_ne hb]
  have eK : Kv M w = Kv M v := by
    show Fg (xv M) (xn M) (w.1 247) = Fg (xv M) (xn M) (v.1 247)
    rw [fw 247 (by omega)]
  have w2 : w.2 = v.2 := by rw [ew, fil_2]
  have z53 : ∀ x o : Int, iR (xv M) x → iR (xn M) o → w.1 253 (x * 40 + o) = 0 := fun x o hx ho => by
    have := hx.1
    have := hx.2
    have := ho.1
    have := ho.2
    rw [ew, fil_1, if_pos ⟨rfl, by omega, by omega⟩]
  refine level 15999 1 w s (by omega) (Int.le_refl 1) w2 (fun b hb => fw b (by simp only [fG, List.mem_cons, List.not_mem_nil, or_false, not_or] at hb; omega)) (sA_of hA w2 (fw _ (by omega)) (fw _ (by omega)) (fw _ (by omega)) (fw _ (by omega)) (fw _ (by omega)) (by rw [fw 232 (by omega)])) (by rw [fw 247 (by omega)]; exact hok) (fun x o q hk => by rw [eK] at hk; rw [fw 244 (by omega), fw 245 (by omega)]; exact hr x o q hk) ?_ (fun x o q hk => by rw [eK] at hk; exact Or.inl (hsm x o q hk)) (fun x o q hf hh => ?_) (fun x o hx ho => by rw [z53 x o hx ho]; exact ⟨⟨by omega, by omega⟩, fun i hi => by rw [bt_0] at hi; cases hi⟩) (fun x o q => ⟨fun h => ?_, fun h => ?_⟩) (by rw [fw 232 (by omega)]; exact hroot) (fun b hb hl => by rw [eK]; exact hno b hb (by rw [← fw mk (by omega)]; exact hl))
  · unfold OD at hO ⊢
    rw [eK, fw 232 (by omega), fw 246 (by omega)]
    exact hO
  · rw [eK]
    by_cases e : L x o q < 4000000000000000000
    · exact hall x o q hf e
    · -- nothing of height 1 is great
      exfalso
      obtain ⟨r, c', g, r0, r1, rx, hw, hc, hg⟩ := hS.2.2 x o q hf
      have hb := hLM x o q hf
      have hg0 : g ≤ 0 := by omega
      have key : ∀ (k : Nat) (q c g : Int), wk M (Fe M L) L H r o k q c g → g ≤ 0 → c ≤ k := by
        intro k
        induction k with
        | zero => intro q c g hh _; rw [hh.2.1]; omega
        | succ k ihk =>
          intro q c g ⟨o', c', g', c1, g1, h1, h2, h3, h4, h5⟩ hg
          have := ihk o' c' g' h2 (by omega)
          unfold stk at h3
          by_cases e' : xy M r k < 100
          · rw [if_pos e'] at h3
            omega
          · rw [if_neg e'] at h3
            have := (hLM _ _ _ h3.1).2
            have := h3.2.2
            omega
      have := key _ _ _ _ hw hg0
      have hl := (m5 r r0 r1).2.2.1
      omega
  · obtain ⟨h1, h2, h3, h4⟩ := h
    rw [z53 x o h1 h2, bt_0] at h4
    cases h4
  · have := (hLM x o q (hr x o q (by rw [← eK]; exact h.1)).1).2
    omega
