/-! The witness: hold as a whole -/
def fH : List Nat := [231, 255, 256, 257, 258, 259, 266, 267, 268, 269, 270]
/-- a held witness -/
def HLD (M : Mg) (L H : T3) (b : Int) (w : uS) : Prop := ∃ T : P3, T 0 0 b ∧ ∀ x p q, T x p q → Kv M w x p q ∧ ∃ r S, CHc M L H w x p q r S ∧ (∀ k : Nat, k < (xl M r).toNat → ¬ xy M r k < 100 → T (xy M r k - 100) (S k) (S (k + 1))) ∧ w.1 268 (tcx (xn M) x p q) = nsz M (w.1 268) r S (xl M r).toNat ∧ 1 ≤ w.1 268 (tcx (xn M) x p q) ∧ w.1 268 (tcx (xn M) x p q) ≤ 4000000000000000000
theorem q_165 {e mk : Nat} {M : Mg} {L H : T3} {u : uS} (hmk : mk = 59 ∨ mk = 61) (hMO : isO mk 5) (hM : Mok M) (hS : LHs M L H) (h0 : u.1 6 0 = xv M) (h1 : u.1 6 1 = xr M) (h8 : u.1 8 = xh M) (h9 : u.1 9 = xl M) (h10 : ∀ r k : Int, u.1 10 (r * 6 + k) = xy M r k) (hd : ∀ o s : Int, u.1 (mk + 1) (o * 10 + s) = xd M o s) (hR : RES M mk L H u) : cV (e + 9) 165 [.ref 231, .ref 6, .ref mk] u (fun w => w.2 = (wq u 231 3 mk).2 ∧ sb1 u w fH ∧ (∀ i : Int, i ≠ 0 → w.1 231 i = u.1 231 i) ∧ w.1 231 0 = 1 ∧ sW M mk L H w ∧ HLD M L H (u.1 232 3) w) := by
  obtain ⟨m1, m2, m3, m4, m5, m6⟩ := id hM
  obtain ⟨nb1, nb2, nb3, nb4⟩ := nn_b m1 m4
  obtain ⟨s, b, hO, hok, hn, hb, hkb, hlb, hrg, hcl, hbest⟩ := hR
  have hs16 : s ≤ 16000 := by
    rw [hO.2.1]
    exact ct_le _ _
  have hbR := hkb.2.2.1
  have bb0 := hbR.1
  have bb1 := hbR.2
  have etc : tcx (xn M) 0 0 b = b := by
    unfold tcx
    rw [Int.zero_mul, Int.add_zero, Int.zero_mul, Int.zero_add]
  generalize hQQ : (fun (w : uS) => w.2 = (wq u 231 3 mk).2 ∧ sb1 u w fH ∧ (∀ i : Int, i ≠ 0 → w.1 231 i = u.1 231 i) ∧ w.1 231 0 = 1 ∧ sW M mk L H w ∧ HLD M L H (u.1 232 3) w) = Q
  refine e_165 sx_6 hMO (cV.mono (q_43w (d := e + 7) hM h0 h1 h8 h9 h10) (Nat.le_refl _) (fun v ⟨v1, v2, v3, v4⟩ a ea => ?_))
  have a1 : a.1 = v.1 := by rw [ea]; rfl
  have a2 : a.2 = (wq u 231 3 mk).2 := by
    rw [ea]
    unfold wq
    rw [v2]
  have as : sb1 u a [255, 256, 257, 258, 259] := fun c hc => by rw [a1]; exact v1 c hc
  -- the base, whatever lies at 268
  have base : ∀ y : uS, y.2 = a.2 → sb1 a y fW → HB M mk L H s b y := fun y y2 ys => by
    have yu : ∀ c, c ≠ 255 → c ≠ 256 → c ≠ 257 → c ≠ 258 → c ≠ 259 → c ∉ fW → y.1 c = u.1 c := fun c c1 c2 c3 c4 c5 hc => (ys c hc).trans (as c (by simp only [List.mem_cons, List.not_mem_nil, or_false, not_or]; exact ⟨c1, c2, c3, c4, c5⟩))
    have y47 : y.1 247 = u.1 247 := yu _ (by decide) (by decide) (by decide) (by decide) (by decide) (by decide)
    have y44 : y.1 244 = u.1 244 := yu _ (by decide) (by decide) (by decide) (by decide) (by decide) (by decide)
    have y45 : y.1 245 = u.1 245 := yu _ (by decide) (by decide) (by decide) (by decide) (by decide) (by decide)
    have y46 : y.1 246 = u.1 246 := yu _ (by decide) (by decide) (by decide) (by decide) (by decide) (by decide)
    have y32 : y.1 232 = u.1 232 := yu _ (by decide) (by decide) (by decide) (by decide) (by decide) (by decide)
    have ymk : y.1 (mk + 1) = u.1 (mk + 1) := yu _ (by omega) (by omega) (by omega) (by omega) (by omega) (by simp only [fW, List.mem_cons, List.not_mem_nil, or_false]; omega)
    have eK : Kv M y = Kv M u := Kv_eq y47
    refine ⟨⟨?_, ?_, fun r r0 r1 => ?_, fun o t => by rw [ymk]; exact hd o t, by rw [y32]; exact hn, by rw [y47]; exact hok, ?_⟩, ?_, by rw [y32]; exact hb, by rw [eK]; exact hkb, by rw [eK]; exact hcl⟩
    · rw [y2, a2, wq_2, if_pos ⟨rfl, rfl⟩]
    · rw [ys 255 (by decide), a1]; exact v3
    · rw [ys 257 (by decide), ys 258 (by decide), ys 259 (by decide), a1]
      exact v4 r r0 r1
    · unfold rgt at hrg ⊢
      rw [eK, y44, y45]
      exact hrg
    · unfold OD at hO ⊢
      rw [eK, y32, y46]
      exact hO
  -- the end
  have done : ∀ y v', y.2 = a.2 → sb1 a y fW → DN M L H s b y 0 v' → ∀ z, UP M L H s y v' s z → Q (wr z 231 0 1) := fun y v' y2 ys hD z hU => by
    have hBy := base y y2 ys
    obtain ⟨d1, d2, d3, d4, d5⟩ := hD
    obtain ⟨z1, z2, z3⟩ := hU
    have zs : sb1 y z fW := fun c hc => (z2 c (fun hh => hc (by simp only [fW, List.mem_cons, List.not_mem_nil, or_false] at hh ⊢; omega))).trans (d2 c hc)
    have eK : Kv M (wr z 231 0 1) = Kv M y := Kv_eq (by rw [wr_ne (by decide)]; exact zs _ (by decide))
    have hWz : sW M mk L H z := sW_tr hmk hBy.1 (z1.trans d1) zs
    have z32 : z.1 231 = u.1 231 := (zs 231 (by decide)).trans ((ys 231 (by decide)).trans (as 231 (by decide)))
    have w68 : (wr z 231 0 1).1 268 = z.1 268 := wr_ne (by decide)
    rw [← hQQ]
    refine ⟨?_, ?_, fun i hi => ?_, wr_self, ?_, ?_⟩
    · rw [wr_2, z1, d1, y2, a2]
    · refine sb1_wr (fun c hc => ?_) (by decide)
      simp only [fH, List.mem_cons, List.not_mem_nil, or_false, not_or] at hc
      refine (zs c (by simp only [fW, List.mem_cons, List.not_mem_nil, or_false]; omega)).trans ((ys c (by simp only [fW, List.mem_cons, List.not_mem_nil, or_false]; omega)).trans (as c (by simp only [List.mem_cons, List.not_mem_nil, or_false]; omega)))
    · rw [wr_1, if_neg (fun h => hi h.2), z32]
    · unfold sW rgt at hWz ⊢
      rw [wr_2, eK, wr_ne (by decide : 255 ≠ 231), wr_ne (by decide : 257 ≠ 231), wr_ne (by decide : 258 ≠ 231), wr_ne (by decide : 259 ≠ 231), wr_ne (by omega : mk + 1 ≠ 231), wr_ne (by decide : 232 ≠ 231), wr_ne (by decide : 247 ≠ 231), wr_ne (by decide : 244 ≠ 231), wr_ne (by decide : 245 ≠ 231), ← (Kv_eq (zs 247 (by decide)) : Kv M z = Kv M y)]
      exact hWz
    · rw [hb]
      refine ⟨fun x p q => Kv M y x p q ∧ v'.1 268 (tcx (xn M) x p q) = 1, ⟨hBy.2.2.2.1, by rw [etc]; exact d4⟩, fun x p q ⟨hk, hm⟩ => ?_⟩
      obtain ⟨i, i0, i1, i2⟩ := hBy.2.1.2.2.2.1 x p q hk
      obtain ⟨r, S, c1, c2, c3, c4, c5⟩ := (z3 i i0 i1 x p q hk i2).2 i1 hm
      rw [eK, w68]
      refine ⟨hk, r, S, ?_, fun k hk1 hk2 => ⟨?_, c2 k hk1 hk2⟩, c3, c4, c5⟩
      · unfold CHc at c1 ⊢
        rw [wr_ne (by decide : 266 ≠ 231), wr_ne (by decide : 267 ≠ 231), z2 266 (by decide), z2 267 (by decide)]
        exact c1
      · obtain ⟨f1, f2, f3⟩ := CH_sub hS (hBy.1.2.2.2.2.2.2 x p q hk).1 c1.2.1 hk1 hk2
        exact hBy.2.2.2.2 x p q _ _ _ hk f1 f2 f3
  -- all counts go
  have zero : ∀ (n i : Nat) (z : uS), i + n = s → z.2 = a.2 → sb1 a z [268] → (∀ j : Int, 0 ≤ j → j < i → z.1 268 (u.1 246 j) = 0) → K_165 (e + 8) 15 [.ref 231, .retAddr 0, .retAddr 0, iV (i : Int), .retAddr 0] [] z Q := by
    intro n
    induction n with
    | zero =>
      intro i z hi z2 zs zz
      have zs' : sb1 a z fW := sb1_sub zs (by decide)
      have hBz := base z z2 zs'
      have hsz : z.1 232 7 = s := hBz.2.1.1
      refine k_165_15 ⟨⟨by omega, by omega⟩, ?_⟩
      rw [hsz, hBz.2.2.1]
      refine ⟨⟨by omega, by omega⟩, ?_⟩
      rw [if_neg (by omega)]
      refine ⟨bb0, by omega, fun y ey => ?_⟩
      have y2 : y.2 = a.2 := by rw [ey, wr_2]; exact z2
      have ys : sb1 a y fW := by rw [ey]; exact sb1_wr zs' (by decide)
      have hBy := base y y2 ys
      have y68 : y.1 268 = uf (z.1 268) b 1 := by rw [ey, wr_uf]
      rw [hBy.2.1.1, show (s : Int) - 1 = (s : Int) + (-1) by omega]
      refine h_down hmk hMO hM hS hBy (fun v' hD => h_up hmk hM hS hBy hD (done y v' y2 ys hD) s 0 v' (by omega) ⟨rfl, sb1_refl _ _, fun i i0 i1 x o q hk hi => ⟨fun _ => rfl, fun h => by omega⟩⟩) s y (Nat.le_refl _) ⟨rfl, sb1_refl _ _, fun x o q hk => ?_, by rw [y68, uf_eq], fun i i0 i1 => by omega⟩
      rw [y68]
      by_cases et : tcx (xn M) x o q = b
      · rw [et, uf_eq]
        exact Or.inr rfl
      · rw [uf_ne et]
        obtain ⟨j, j0, j1, j2⟩ := hBy.2.1.2.2.2.1 x o q hk
        have e46 : y.1 246 = u.1 246 := (ys 246 (by decide)).trans (as 246 (by decide))
        rw [e46] at j2
        have := zz j j0 (by omega)
        rw [j2] at this
        exact Or.inl this
    | succ n ih =>
      intro i z hi z2 zs zz
      have zs' : sb1 a z fW := sb1_sub zs (by decide)
      have hBz := base z z2 zs'
      have hsz : z.1 232 7 = s := hBz.2.1.1
      have e46 : z.1 246 = u.1 246 := (zs 246 (by decide)).trans (as 246 (by decide))
      obtain ⟨x, o, q, hk, hi'⟩ := hO.2.2.1 i (by omega) (by omega)
      obtain ⟨b1, b2, b3, b4⟩ := tcx_b hk.1 hk.2.1 hk.2.2.1
      refine k_165_15 ⟨⟨by omega, by omega⟩, ?_⟩
      rw [hsz, e46, hi']
      refine ⟨⟨by omega, by omega⟩, ?_⟩
      rw [if_pos (by omega)]
      refine ⟨by omega, by omega, b3, by omega, fun y ey => ?_⟩
      have y68 : y.1 268 = uf (z.1 268) (tcx (xn M) x o q) 0 := by rw [ey, wr_uf]
      have := ih (i + 1) y (by omega) (by rw [ey, wr_2]; exact z2) (by rw [ey]; exact sb1_wr zs (by decide)) (fun j j0 j1 => by
        rw [y68]
        by_cases et : u.1 246 j = tcx (xn M) x o q
        · rw [et, uf_eq]
        · rw [uf_ne et]
          by_cases ej : j = i
          · rw [ej] at et
            exact absurd hi' et
          · exact zz j j0 (by omega))
      rw [show ((i + 1 : Nat) : Int) = (i : Int) + 1 by omega] at this
      exact this
  exact zero s 0 a (by omega) rfl (sb1_refl _ _) (fun j j0 j1 => by omega)
