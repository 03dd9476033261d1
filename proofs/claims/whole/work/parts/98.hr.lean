/-! Triples that stand in trees: the first side's count -/
def sbr (u : uS) (mk n : Nat) (F : Int → Int → Int → Prop) (r p q y o b : Int) : Prop := ∃ k : Nat, (k : Int) < u.1 9 r ∧ lrw u r k = 100 + y ∧ iR n o ∧ iR n b ∧ fol F (dlt u mk) (lrw u r) n p k o ∧ F y o b ∧ suf F (dlt u mk) (lrw u r) n q (u.1 9 r) (u.1 9 r - k - 1).toNat b
def stZ (u : uS) (mk nv nr n : Nat) (F S : Int → Int → Int → Prop) : Prop := (∀ q, iR n q → F 0 0 q → S 0 0 q) ∧ ∀ r p q y o b : Int, 0 ≤ r → r < nr → iR n p → iR n q → S (u.1 8 r) p q → sbr u mk n F r p q y o b → S y o b
def Zs (u : uS) (mk nv nr n : Nat) (F : Int → Int → Int → Prop) (x p q : Int) : Prop := ∀ S, stZ u mk nv nr n F S → S x p q
theorem Zs_cl {u : uS} {mk nv nr n : Nat} {F : Int → Int → Int → Prop} : stZ u mk nv nr n F (Zs u mk nv nr n F) := ⟨fun q hq hF S hS => hS.1 q hq hF, fun r p q y o b r0 r1 hp hq hz hs S hS => hS.2 r p q y o b r0 r1 hp hq (hz S hS) hs⟩
theorem ct_none {p : Nat → Bool} : ∀ n : Nat, ct p n = 0 → ∀ i, i < n → p i = false
  | 0, _, i, h => absurd h (Nat.not_lt_zero _)
  | n + 1, h, i, hi => by
    simp only [ct] at h
    by_cases e : i = n
    · rw [e]
      cases hp : p n with
      | false => rfl
      | true =>
        rw [hp, if_pos rfl] at h
        omega
    · exact ct_none n (by omega) i (by omega)
theorem ct_zero {p : Nat → Bool} : ∀ n : Nat, (∀ i, i < n → p i = false) → ct p n = 0
  | 0, _ => rfl
  | n + 1, h => by
    simp only [ct]
    rw [ct_zero n (fun i hi => h i (by omega)), h n (by omega)]
    rfl
theorem ctG_le16 (g : Int → Int) : ctG g ≤ 16000 := ct_le _ _
theorem q_192 {d a nv nr n mk : Nat} {u : uS} (ha : a = 193 ∨ a = 212) (hmk : mk = 59 ∨ mk = 61) (hO : isO a 9) (hM : isO mk 5) (hG : GMc u nv nr n mk) (hv1 : 1 ≤ nv) (e2 : u.2 a 2 = 6) (e3 : u.2 a 3 = mk) (hk : okF nv n (u.1 (a + 1))) (hfl : ∀ j : Int, 0 ≤ j → j < 400 → u.1 (a + 16) j = 0) : cL (d + 10) 192 [.ref a] u (fun c w => w.2 = u.2 ∧ sb1 u w [a, a + 13, a + 14, a + 15, a + 16] ∧ (∀ i : Int, i ≠ 8 → i ≠ 9 → w.1 a i = u.1 a i) ∧ (∀ j : Int, 0 ≤ j → j < 400 → w.1 (a + 16) j = 0) ∧ okF nv n (w.1 (a + 14)) ∧ (∀ x o q, iR nv x → iR n o → iR n q → (Fs w a nv n x o q ↔ Zs u mk nv nr n (Fg nv n (u.1 (a + 1))) x o q)) ∧ c = ((sm (fun x => sm (fun o => ct (bt (w.1 (a + 14) ((x : Int) * 40 + (o : Int)))) 64) n) nv : Nat) : Int)) := by
  obtain ⟨g1, g2, g3, g4, g5, g6, g7, g8, g9⟩ := id hG
  generalize hF : Fg nv n (u.1 (a + 1)) = F
  generalize hQQ : (fun (c : Int) (w : uS) => w.2 = u.2 ∧ sb1 u w [a, a + 13, a + 14, a + 15, a + 16] ∧ (∀ i : Int, i ≠ 8 → i ≠ 9 → w.1 a i = u.1 a i) ∧ (∀ j : Int, 0 ≤ j → j < 400 → w.1 (a + 16) j = 0) ∧ okF nv n (w.1 (a + 14)) ∧ (∀ x o q, iR nv x → iR n o → iR n q → (Fs w a nv n x o q ↔ Zs u mk nv nr n F x o q)) ∧ c = ((sm (fun x => sm (fun o => ct (bt (w.1 (a + 14) ((x : Int) * 40 + (o : Int)))) 64) n) nv : Nat) : Int)) = Q
  have hz0 : iR nv 0 := ⟨by omega, by omega⟩
  have hzn : iR n 0 := ⟨by omega, by omega⟩
  -- the frame
  let Fr : uS → Prop := fun w => w.2 = u.2 ∧ sb1 u w [a, a + 13, a + 14, a + 15, a + 16] ∧ (∀ i : Int, i ≠ 8 → i ≠ 9 → w.1 a i = u.1 a i)
  have frm : ∀ w : uS, Fr w → w.2 a 2 = 6 ∧ w.2 a 3 = mk ∧ w.1 6 = u.1 6 ∧ w.1 8 = u.1 8 ∧ w.1 9 = u.1 9 ∧ w.1 10 = u.1 10 ∧ w.1 mk = u.1 mk ∧ w.1 (mk + 1) = u.1 (mk + 1) ∧ w.1 (a + 1) = u.1 (a + 1) := fun w hw => by
    refine ⟨by rw [hw.1]; exact e2, by rw [hw.1]; exact e3, hw.2.1 _ ?_, hw.2.1 _ ?_, hw.2.1 _ ?_, hw.2.1 _ ?_, hw.2.1 _ ?_, hw.2.1 _ ?_, hw.2.1 _ ?_⟩ <;> simp only [List.mem_cons, List.not_mem_nil, or_false] <;> omega
  have frG : ∀ w w' : uS, Fr w → GRw w w' a nv n → Fr w' := fun w w' hw h => ⟨h.1.trans hw.1, fun b hb => (h.2.1 b hb).trans (hw.2.1 b hb), fun i i8 i9 => (h.2.2.1 i i9).trans (hw.2.2 i i8 i9)⟩
  -- closed but for queued rows
  let PC : uS → (Int → Prop) → Prop := fun w ex => ∀ r p : Int, 0 ≤ r → r < nr → iR n p → ¬ ex (u.1 8 r * 40 + p) → w.1 (a + 16) (u.1 8 r * 40 + p) = 0 → ∀ q, Fs w a nv n (u.1 8 r) p q → ∀ y o b, sbr u mk n F r p q y o b → Fs w a nv n y o b
  have pcG : ∀ (w w' : uS) (ex : Int → Prop), PC w ex → GRw w w' a nv n → PC w' ex := fun w w' ex hp h r p r0 r1 hpR hex hf q hq y o b hs => by
    obtain ⟨f1, f2⟩ := h.2.2.2.2.2.1 _ hf
    refine GRw_Fs h (hp r p r0 r1 hpR hex f1 q ?_ y o b hs)
    obtain ⟨z1, z2, z3, z4⟩ := hq
    rw [f2] at z4
    exact ⟨z1, z2, z3, z4⟩
  -- the turns
  have turns : ∀ (m : Nat) (t : Int) (v : uS), 0 ≤ t → t + m = 16001 → Fr v → QI v a nv n → t + v.1 a 9 ≤ (ctG (v.1 (a + 14)) : Int) → (∀ x o q, Fs v a nv n x o q → Zs u mk nv nr n F x o q) → (∀ q, iR n q → F 0 0 q → Fs v a nv n 0 0 q) → PC v (fun _ => False) → K_192 (d + 9) 31 [.ref a, iV t, .retAddr 0, .retAddr 0] [] v Q := by
    intro m
    induction m with
    | zero =>
      intro t v t0 te hFr hQ hct hsnd hroot hPC
      have h1 := ctG_le16 (v.1 (a + 14))
      have h2 := hQ.2.1
      omega
    | succ m ih =>
      intro t v t0 te hFr hQ hct hsnd hroot hPC
      obtain ⟨f1, f2, f3, f4, f5, f6, f7, f8, f9⟩ := frm v hFr
      obtain ⟨q1, q2, q3, q4, q5, q6, q7⟩ := id hQ
      have hc400 := ct_le (flg v a) 400
      have hb := ctG_le16 (v.1 (a + 14))
      refine k_192_31 (d := d + 8) hO ⟨⟨by omega, by omega⟩, ?_⟩
      by_cases hpos : 0 < v.1 a 9
      · rw [if_pos hpos]
        refine ⟨⟨by omega, by omega⟩, ?_⟩
        rw [if_neg (by omega)]
        refine ⟨q1.1, q1.2, ⟨by omega, by omega⟩, ?_⟩
        rw [Int.tmod_eq_emod_of_nonneg (by omega)]
        intro w10 e10 w12 e12
        have h5 := q5 0 (Int.le_refl 0) hpos
        have es0 : (v.1 a 8 + 0) % 400 = v.1 a 8 := by omega
        rw [es0] at h5
        obtain ⟨r1, r2, r3⟩ := h5
        generalize hrow : v.1 (a + 15) (v.1 a 8) = row at r1 r2 r3
        refine ⟨r1, r2, fun w e => ?_⟩
        have k9 : w10.1 a 9 = v.1 a 9 := by rw [e10, wr_1, if_neg (by omega)]
        have wa : w.1 a = uf (uf (v.1 a) 8 ((v.1 a 8 + 1) % 400)) 9 (v.1 a 9 - 1) := by rw [e, wr_ne (by omega), e12, wr_uf, k9, e10, wr_uf]
        have w14 : w.1 (a + 14) = v.1 (a + 14) := by rw [e, wr_ne (by omega), e12, wr_ne (by omega), e10, wr_ne (by omega)]
        have w15 : w.1 (a + 15) = v.1 (a + 15) := by rw [e, wr_ne (by omega), e12, wr_ne (by omega), e10, wr_ne (by omega)]
        have w16 : w.1 (a + 16) = uf (v.1 (a + 16)) row 0 := by rw [e, wr_uf, e12, wr_ne (by omega), e10, wr_ne (by omega)]
        have w8 : w.1 a 8 = (v.1 a 8 + 1) % 400 := by rw [wa, uf_ne (by omega), uf_eq]
        have w9 : w.1 a 9 = v.1 a 9 - 1 := by rw [wa, uf_eq]
        have hFrw : Fr w := by
          refine ⟨by rw [e, wr_2, e12, wr_2, e10, wr_2]; exact hFr.1, ?_, fun i i8 i9 => by rw [wa, uf_ne i9, uf_ne i8]; exact hFr.2.2 i i8 i9⟩
          rw [e]
          refine sb1_wr ?_ (by simp)
          rw [e12]
          refine sb1_wr ?_ (by simp)
          rw [e10]
          exact sb1_wr hFr.2.1 (by simp)
        have hQw : QI w a nv n := by
          refine ⟨by rw [w8]; omega, ?_, fun j j0 j1 => ?_, fun j j0 j1 hj => ?_, fun i i0 i1 => ?_, fun i j i0 hij hj => ?_, by rw [w14]; exact q7⟩
          · rw [w9, q2]
            have hup := ct_upd (p := flg w a) (p' := flg v a) (j := row.toNat) 400 (by omega) (fun i hi hne => by
              unfold flg
              rw [w16, uf_ne (by omega)]) (by
              unfold flg
              have : ((row.toNat : Nat) : Int) = row := by omega
              rw [this, w16, uf_eq]
              decide) (by
              unfold flg
              have : ((row.toNat : Nat) : Int) = row := by omega
              rw [this, r3]
              decide)
            omega
          · rw [w16]
            by_cases e : j = row
            · rw [e, uf_eq]; exact Or.inl rfl
            · rw [uf_ne e]; exact q3 j j0 j1
          · rw [w16] at hj
            by_cases e : j = row
            · rw [e, uf_eq] at hj
              exact absurd hj (by decide)
            · rw [uf_ne e] at hj
              exact q4 j j0 j1 hj
          · rw [w9] at i1
            have ei : ((v.1 a 8 + 1) % 400 + i) % 400 = (v.1 a 8 + (i + 1)) % 400 := by omega
            rw [w8, w15, ei]
            obtain ⟨z1, z2, z3⟩ := q5 (i + 1) (by omega) (by omega)
            refine ⟨z1, z2, ?_⟩
            have hne := q6 0 (i + 1) (Int.le_refl 0) (by omega) (by omega)
            rw [es0, hrow] at hne
            rw [w16, uf_ne (fun e => hne e.symm)]
            exact z3
          · rw [w9] at hj
            have ei : ((v.1 a 8 + 1) % 400 + i) % 400 = (v.1 a 8 + (i + 1)) % 400 := by omega
            have ej : ((v.1 a 8 + 1) % 400 + j) % 400 = (v.1 a 8 + (j + 1)) % 400 := by omega
            rw [w8, w15, ei, ej]
            exact q6 (i + 1) (j + 1) (by omega) (by omega) (by omega)
        obtain ⟨xx, pp, hxx, hpp, hxp⟩ := q4 row r1 r2 r3
        have x0 := hxx.1
        have x1 := hxx.2
        have p0 := hpp.1
        have p1 := hpp.2
        have hFsw : Fs w a nv n = Fs v a nv n := by unfold Fs; rw [w14]
        have hPCw : PC w (fun j => j = row) := fun r p r0 r1' hpR hex hf q hq y o b hs => by
          rw [w16, uf_ne hex] at hf
          rw [hFsw] at hq ⊢
          exact hPC r p r0 r1' hpR (fun h => h) hf q hq y o b hs
        -- the rules
        have rules : ∀ (m' : Nat) (r : Int) (z : uS), 0 ≤ r → r + m' = nr → Fr z → QI z a nv n → t + 1 + z.1 a 9 ≤ (ctG (z.1 (a + 14)) : Int) → (∀ x o q, Fs z a nv n x o q → Zs u mk nv nr n F x o q) → (∀ q, iR n q → F 0 0 q → Fs z a nv n 0 0 q) → PC z (fun j => j = row) → (z.1 (a + 16) row = 0 → ∀ r' : Int, 0 ≤ r' → r' < r → u.1 8 r' = xx → ∀ q, Fs z a nv n xx pp q → ∀ y o b, sbr u mk n F r' pp q y o b → Fs z a nv n y o b) → K_192 (d + 9) 88 [.ref a, iV t, iV row, iV r] [] z Q := by
          intro m'
          induction m' with
          | zero =>
            intro r z hr0 hre zFr zQ zct zsnd zroot zPC zrow
            obtain ⟨z1, z2, z3, z4, z5, z6, z7, z8, z9⟩ := frm z zFr
            refine k_192_88 (d := d + 8) hO ?_
            rw [z1, z3, g4]
            refine ⟨sx_6, ⟨by omega, by omega⟩, ⟨by omega, by omega⟩, ?_⟩
            rw [if_neg (by omega)]
            refine ih (t + 1) z (by omega) (by omega) zFr zQ zct zsnd zroot (fun r' p r0 r1' hpR _ hf q hq y o b hs => ?_)
            by_cases e : u.1 8 r' * 40 + p = row
            · have hh := (g5 r' r0 r1').1
              have := hh.1
              have := hh.2
              have := hpR.1
              have := hpR.2
              have ex : u.1 8 r' = xx := by omega
              have ep : p = pp := by omega
              rw [e] at hf
              rw [ex, ep] at hq
              rw [ep] at hs
              exact zrow hf r' r0 (by omega) ex q hq y o b hs
            · exact zPC r' p r0 r1' hpR e hf q hq y o b hs
          | succ m' ih' =>
            intro r z hr0 hre zFr zQ zct zsnd zroot zPC zrow
            obtain ⟨z1, z2, z3, z4, z5, z6, z7, z8, z9⟩ := frm z zFr
            have hh := (g5 r hr0 (by omega)).1
            have hh0 := hh.1
            have hh1 := hh.2
            refine k_192_88 (d := d + 8) hO ?_
            rw [z1, z3, g4]
            refine ⟨sx_6, ⟨by omega, by omega⟩, ⟨by omega, by omega⟩, ?_⟩
            have e8 : z.1 (6 + 2) = u.1 8 := z4
            rw [if_pos (by omega), e8, Int.tdiv_eq_ediv_of_nonneg r1, Int.tmod_eq_emod_of_nonneg r1]
            refine ⟨hr0, by omega, ⟨by omega, by omega⟩, ⟨by omega, by omega⟩, ⟨by omega, by omega⟩, ?_⟩
            have edv : row / 40 = xx := by omega
            have emd : row % 40 = pp := by omega
            rw [edv, emd]
            by_cases ehd : u.1 8 r = xx
            · rw [if_pos ehd]
              have hGz : GMc z nv nr n mk := GMc_of hG (by rw [z3]) (by rw [z3]) z4 z5 z6 (by rw [z7]) z8
              have hX := stB_F zQ.2.2.2.2.2.2 hxx hpp
              rw [← hxp] at hX
              have eF : Fg nv n (z.1 (a + 1)) = F := by rw [z9, hF]
              have eD : dlt z mk = dlt u mk := by unfold dlt; rw [z8]
              have eR : lrw z r = lrw u r := by unfold lrw; rw [z6]
              have h94 := q_194 (d := d + 1) (v := z) (r := r) (from' := pp) (Sx := Zs u mk nv nr n F) ha hmk hO hM hGz z1 z2 hr0 (by omega) hpp (by rw [z9]; exact hk) zQ hX (by
                rw [eF, eD, eR, z5]
                intro k y o b q k1 k2 k3 k4 k5 k6 k7 k8 k9
                refine Zs_cl.2 r pp q y o b hr0 (by omega) hpp k5 ?_ ⟨k, k1, k2, k3, k4, k6, k7, k8⟩
                rw [ehd]
                exact zsnd _ _ _ k9) zsnd
              rw [eF, eD, eR, z5] at h94
              refine ⟨r1, r2, cV.mono h94 (Nat.le_refl _) (fun z' ⟨y1, y2, y3⟩ => ?_)⟩
              refine ih' (r + 1) z' (by omega) (by omega) (frG z z' zFr y1) y1.2.2.2.1 (by have := y1.2.2.2.2.2.2; omega) y2 (fun q hq hf => GRw_Fs y1 (zroot q hq hf)) (pcG z z' (fun j => j = row) zPC y1) (fun hf r' r0' r1'' ex q hq y o b hs => ?_)
              obtain ⟨f1', f2'⟩ := y1.2.2.2.2.2.1 _ hf
              have hq' : Fs z a nv n xx pp q := by
                obtain ⟨k1, k2, k3, k4⟩ := hq
                rw [← hxp, f2', hxp] at k4
                exact ⟨k1, k2, k3, k4⟩
              by_cases er : r' = r
              · rw [er] at hs
                obtain ⟨k, k1, k2, k3, k4, k5, k6, k7⟩ := hs
                exact y3 k y o b q k1 k2 k3 k4 hq'.2.2.1 k5 k6 k7 hq'
              · exact GRw_Fs y1 (zrow f1' r' r0' (by omega) ex q hq' y o b hs)
            · rw [if_neg ehd]
              refine ih' (r + 1) z (by omega) (by omega) zFr zQ zct zsnd zroot zPC (fun hf r' r0' r1'' ex q hq y o b hs => ?_)
              by_cases er : r' = r
              · rw [er] at ex
                exact absurd ex ehd
              · exact zrow hf r' r0' (by omega) ex q hq y o b hs
        exact rules nr 0 w (Int.le_refl 0) (by omega) hFrw hQw (by rw [w9, w14]; omega) (by rw [hFsw]; exact hsnd) (by rw [hFsw]; exact hroot) hPCw (fun _ r' r0' r1'' => by omega)
      · rw [if_neg hpos]
        have hc0 : ct (flg v a) 400 = 0 := by omega
        have hfl0 : ∀ j : Int, 0 ≤ j → j < 400 → v.1 (a + 16) j = 0 := fun j j0 j1 => by
          have := ct_none 400 hc0 j.toNat (by omega)
          unfold flg at this
          have ej : ((j.toNat : Nat) : Int) = j := by omega
          rw [ej] at this
          simpa using this
        have h6 : v.1 6 0 = nv := by rw [f3]; exact g3
        have hm' : v.1 mk 0 = n := by rw [f7]; exact g8
        refine cL.mono (q_190 (d := d + 7) (a := a) (l1 := a + 14) (mk := mk) (nv := nv) (n := n) hO hM (sa_9_5 hO) g1 g7 f1 f2 h6 hm' (fun x o hx ho => stB_small g7 (stB_F q7 hx ho))) (Nat.le_refl _) (fun c w ⟨hw, hc⟩ => ?_)
        rw [← hQQ, hw]
        refine ⟨hFr.1, hFr.2.1, hFr.2.2, hfl0, q7, fun x o q hx ho hq => ⟨fun h => hsnd x o q h, fun h => ?_⟩, hc⟩
        refine h (Fs v a nv n) ⟨hroot, fun r p q y o b r0 r1 hp hq' hS hs => ?_⟩
        have hh := (g5 r r0 r1).1
        have := hh.1
        have := hh.2
        have := hp.1
        have := hp.2
        exact hPC r p r0 r1 hp (fun h => h) (hfl0 _ (by omega) (by omega)) q hS y o b hs
  refine e_192 (d := d + 8) hO (fun u1 e1 u3 e3' u5 e5 => ?_)
  have b14 : ∀ j : Int, 0 ≤ j → j < 400 → u5.1 (a + 14) j = 0 := fun j j0 j1 => by rw [e5, wr_ne (by omega), e3', wr_ne (by omega), e1, fil_1, if_pos ⟨rfl, j0, j1⟩]
  have b16 : u5.1 (a + 16) = u.1 (a + 16) := by rw [e5, wr_ne (by omega), e3', wr_ne (by omega), e1, fil_ne (by omega)]
  have b1 : u5.1 (a + 1) = u.1 (a + 1) := by rw [e5, wr_ne (by omega), e3', wr_ne (by omega), e1, fil_ne (by omega)]
  have ba8 : u5.1 a 8 = 0 := by rw [e5, wr_1, if_neg (by omega), e3', wr_self]
  have ba9 : u5.1 a 9 = 0 := by rw [e5, wr_self]
  have hFr5 : Fr u5 := by
    refine ⟨by rw [e5, wr_2, e3', wr_2, e1, fil_2], fun b hb => ?_, fun i i8 i9 => by rw [e5, wr_1, if_neg (by omega), e3', wr_1, if_neg (by omega), e1, fil_ne (by omega)]⟩
    simp only [List.mem_cons, List.not_mem_nil, or_false, not_or] at hb
    rw [e5, wr_ne hb.1, e3', wr_ne hb.1, e1, fil_ne hb.2.2.1]
  have hno : ∀ x o q, ¬ Fs u5 a nv n x o q := fun x o q ⟨hx, ho, hq, hb⟩ => by
    have := hx.1
    have := hx.2
    have := ho.1
    have := ho.2
    rw [b14 _ (by omega) (by omega), bt_0] at hb
    cases hb
  have hQ5 : QI u5 a nv n := by
    refine ⟨by rw [ba8]; omega, ?_, fun j j0 j1 => by rw [b16, hfl j j0 j1]; exact Or.inl rfl, fun j j0 j1 hj => ?_, fun i i0 i1 => by omega, fun i j i0 hij hj => by omega, fun x o hx ho => ?_⟩
    · rw [ba9, ct_zero 400 (fun i hi => by
        unfold flg
        rw [b16, hfl i (by omega) (by omega)]
        decide)]
      rfl
    · rw [b16, hfl j j0 j1] at hj
      exact absurd hj (by decide)
    · have := hx.1
      have := hx.2
      have := ho.1
      have := ho.2
      rw [b14 _ (by omega) (by omega)]
      refine ⟨⟨by omega, by omega⟩, fun i hb => ?_⟩
      rw [bt_0] at hb
      cases hb
  have hX := stB_F hk hz0 hzn
  have ei : (0 : Int) * 40 + 0 = 0 := by omega
  have h93 := p_193 (d := d + 8) (v := u5) hO ha g1 g7 hQ5 hz0 hzn hX
  rw [ei] at h93
  rw [b1]
  refine cV.mono h93 (Nat.le_refl _) (fun w ⟨y1, y2, y3, y4⟩ => ?_)
  rw [hF] at y3 y4
  refine turns 16001 0 w (Int.le_refl 0) (by omega) (frG u5 w hFr5 y1) y1.2.2.2.1 (by have := y1.2.2.2.2.2.2; omega) (fun x o q h => ?_) (fun q hq hf => y3 q hq hf) (fun r p r0 r1 hp _ hf q hq y o b hs => ?_)
  · rcases y4 x o q h with k | ⟨k1, k2, k3⟩
    · exact absurd k (hno _ _ _)
    · rw [k1, k2]
      exact Zs_cl.1 q h.2.2.1 k3
  · obtain ⟨f1, f2⟩ := y1.2.2.2.2.2.1 _ hf
    obtain ⟨k1, k2, k3, k4⟩ := hq
    rw [f2] at k4
    exact absurd ⟨k1, k2, k3, k4⟩ (hno (u.1 8 r) p q)
