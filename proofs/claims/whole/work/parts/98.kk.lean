/-! The other side: isOnBest -/
theorem q_280 {d nv nr n mk : Nat} {u w v : uS} {m r x p q b : Int} {S C : Nat → Int} {k : Nat} (hG : GMc u nv nr n mk) (hR : RGc u nv nr n m) (hE : sideE u nr n mk m) (hF : FT u w nv nr n m) (hS : LHs (mOf u mk nv nr n) (L3 w) (H3 w)) (e24 : v.1 324 = w.1 324) (e25 : v.1 325 = w.1 325) (e02 : v.1 302 = u.1 302) (r0 : 0 ≤ r) (r1 : r < nr) (rh : u.1 8 r = x) (hx : Fe (mOf u mk nv nr n) (L3 w) x p q) (hk : (k : Int) < u.1 9 r) (hs : sts (mOf u mk nv nr n) (L3 w) (H3 w) x p q r S C k) (hb : iR n b) (hB : cgB v ((k : Int) + 1) b (fun c g => ∃ c', lw (mOf u mk nv nr n) (Fe (mOf u mk nv nr n) (L3 w)) (L3 w) (H3 w) r q ((u.1 9 r).toNat - k - 1) b c' g ∧ c = min 4000000000000000000 c')) : cI (d + 2) 280 [.ref 271, iV m, iV (k : Int), iV (S k), iV b, iV (lrw u r k), lV (tix p x q), lV (min 4000000000000000000 (C k))] v (fun c z => z = v ∧ ((c = 1 ∧ nx (mOf u mk nv nr n) (L3 w) (H3 w) x p q r k (S k) (C k) b) ∨ (c = 0 ∧ ¬ nx (mOf u mk nv nr n) (L3 w) (H3 w) x p q r k (S k) (C k) b))) := by
  obtain ⟨g1, g2, g3, g4, g5, g6, g7, g8, g9⟩ := id hG
  obtain ⟨l1, l2, l3, l4⟩ := g5 r r0 r1
  have hm01 := hR.2.2.2.2.2.2.2.1
  have hsy := l4 k (by omega) hk
  have hn40 : n ≤ 40 := g7
  have hpR : iR n p := hx.2.1
  have hqR : iR n q := hx.2.2.1
  have hxR : iR nv x := hx.1
  have hSk : iR n (S k) := (sts_wk hS hx.2.1 k hs).1
  have hC := sts_C hS hx.2.1 hs
  obtain ⟨fb, fh1, fh2⟩ := Fe_b hS hx
  have s0 := hSk.1
  have s1 := hSk.2
  have b0 := hb.1
  have b1 := hb.2
  have p0 := hpR.1
  have p1 := hpR.2
  have q0 := hqR.1
  have q1 := hqR.2
  have x0 := hxR.1
  have x1 := hxR.2
  have ht : 0 ≤ tix p x q ∧ tix p x q < 16000 := tix_R ⟨p0, by omega⟩ ⟨x0, by omega⟩ ⟨q0, by omega⟩
  have hk7 : k < (u.1 9 r).toNat := by omega
  have href : ∀ c1 g1, stk (mOf u mk nv nr n) (Fe (mOf u mk nv nr n) (L3 w)) (L3 w) (H3 w) (lrw u r k) (S k) b c1 g1 → (nx (mOf u mk nv nr n) (L3 w) (H3 w) x p q r k (S k) (C k) b ↔ v.1 342 (40 * ((k : Int) + 1) + b) ≠ 6000000000000000000 ∧ g1 < H3 w x p q ∧ ((L3 w x p q = 4000000000000000000 ∧ v.1 344 (40 * ((k : Int) + 1) + b) < H3 w x p q) ∨ (L3 w x p q ≠ 4000000000000000000 ∧ sq (sq (min 4000000000000000000 (C k)) c1) (v.1 342 (40 * ((k : Int) + 1) + b)) = L3 w x p q ∧ v.1 343 (40 * ((k : Int) + 1) + b) < H3 w x p q))) := fun c1 g1 hst => nx_ref hS hx r0 r1 rh hk7 hs hb hst hB
  have hl := hB.2.1
  have hh := hB.2.2.1
  have hlo := hB.2.2.2.1
  generalize hQQ : (fun (c : Int) (z : uS) => z = v ∧ ((c = 1 ∧ nx (mOf u mk nv nr n) (L3 w) (H3 w) x p q r k (S k) (C k) b) ∨ (c = 0 ∧ ¬ nx (mOf u mk nv nr n) (L3 w) (H3 w) x p q r k (S k) (C k) b))) = Q
  clear hB
  have no : ∀ l11 : Int, ¬ nx (mOf u mk nv nr n) (L3 w) (H3 w) x p q r k (S k) (C k) b → K_280 (d + 1) 91 [.ref 271, .retAddr 0, iV (k : Int), iV (S k), iV b, iV (lrw u r k), .retAddr 0, .retAddr 0, lV (min 4000000000000000000 (C k)), .retAddr 0, iV (wI (tix p x q)), lV l11, .retAddr 0, .retAddr 0, .retAddr 0, .retAddr 0, .retAddr 0] [iV 0] v Q := fun l11 hn => by
    refine k_280_91 ⟨⟨by omega, by omega⟩, ?_⟩
    rw [if_pos rfl, ← hQQ]
    exact ⟨rfl, Or.inr ⟨rfl, hn⟩⟩
  have hstk : ∀ c1 g1 c2 g2, stk (mOf u mk nv nr n) (Fe (mOf u mk nv nr n) (L3 w)) (L3 w) (H3 w) (lrw u r k) (S k) b c1 g1 → stk (mOf u mk nv nr n) (Fe (mOf u mk nv nr n) (L3 w)) (L3 w) (H3 w) (xy (mOf u mk nv nr n) r k) (S k) b c2 g2 → c1 = c2 ∧ g1 = g2 := fun c1 g1 c2 g2 h1 h2 => stk_fun h1 h2
  have eL : v.1 324 (tix p x q) = L3 w x p q := by rw [e24]; rfl
  have eH : v.1 325 (tix p x q) = H3 w x p q := by rw [e25]; rfl
  have fin : ∀ c1 g1, stk (mOf u mk nv nr n) (Fe (mOf u mk nv nr n) (L3 w)) (L3 w) (H3 w) (lrw u r k) (S k) b c1 g1 → rI g1 → v.1 342 (40 * ((k : Int) + 1) + b) ≠ 6000000000000000000 → K_280 (d + 1) 166 [.ref 271, .retAddr 0, iV (k : Int), .retAddr 0, iV b, .retAddr 0, .retAddr 0, .retAddr 0, .retAddr 0, .retAddr 0, iV (wI (tix p x q)), .retAddr 0, .retAddr 0, .retAddr 0, lV (sq (sq (min 4000000000000000000 (C k)) c1) (v.1 342 (40 * ((k : Int) + 1) + b))), .retAddr 0, .retAddr 0] [iV g1] v Q := fun c1 g1 hst hg1 hne => by
    have hi := href c1 g1 hst
    have hc1 := (stk_b hS (fun _ _ _ h => h) hst).1
    have hlc := lR_c hl hne
    have hsq := sq_R (sq_R (show cB (min 4000000000000000000 (C k)) from ⟨by omega, by omega⟩) hc1) hlc
    unfold cB at hsq fb
    have yes : nx (mOf u mk nv nr n) (L3 w) (H3 w) x p q r k (S k) (C k) b → Q 1 v := fun hn => by rw [← hQQ]; exact ⟨rfl, Or.inl ⟨rfl, hn⟩⟩
    have nay : ¬ nx (mOf u mk nv nr n) (L3 w) (H3 w) x p q r k (S k) (C k) b → Q 0 v := fun hn => by rw [← hQQ]; exact ⟨rfl, Or.inr ⟨rfl, hn⟩⟩
    refine k_280_166 ?_
    rw [wI_eq ⟨by omega, by omega⟩, eL, eH]
    refine ⟨ht.1, ht.2, ⟨by omega, by omega⟩, ?_⟩
    by_cases c : L3 w x p q = 4000000000000000000
    · rw [if_pos c]
      refine ⟨hg1, ⟨by omega, by omega⟩, ?_⟩
      by_cases c2 : g1 < H3 w x p q
      · rw [if_pos c2]
        refine ⟨by omega, by omega, hR_I hlo, ?_⟩
        by_cases c3 : v.1 344 (40 * ((k : Int) + 1) + b) < H3 w x p q
        · rw [if_pos c3]
          exact yes (hi.mpr ⟨hne, c2, Or.inl ⟨c, c3⟩⟩)
        · rw [if_neg c3]
          refine nay (fun hn => ?_)
          rcases (hi.mp hn).2.2 with z | z
          · exact c3 z.2
          · exact z.1 c
      · rw [if_neg c2]
        exact nay (fun hn => c2 (hi.mp hn).2.1)
    · rw [if_neg c]
      refine ⟨⟨by omega, by omega⟩, ?_⟩
      by_cases c1' : sq (sq (min 4000000000000000000 (C k)) c1) (v.1 342 (40 * ((k : Int) + 1) + b)) = L3 w x p q
      · rw [if_pos c1']
        refine ⟨hg1, ⟨by omega, by omega⟩, ?_⟩
        by_cases c2 : g1 < H3 w x p q
        · rw [if_pos c2]
          refine ⟨by omega, by omega, hR_I hh, ?_⟩
          by_cases c3 : v.1 343 (40 * ((k : Int) + 1) + b) < H3 w x p q
          · rw [if_pos c3]
            exact yes (hi.mpr ⟨hne, c2, Or.inr ⟨c, c1', c3⟩⟩)
          · rw [if_neg c3]
            refine nay (fun hn => ?_)
            rcases (hi.mp hn).2.2 with z | z
            · exact c z.1
            · exact c3 z.2.2
        · rw [if_neg c2]
          exact nay (fun hn => c2 (hi.mp hn).2.1)
      · rw [if_neg c1']
        refine nay (fun hn => ?_)
        rcases (hi.mp hn).2.2 with z | z
        · exact c z.1
        · exact c1' z.2.1
  have hCb : cB (min 4000000000000000000 (C k)) := ⟨by omega, by omega⟩
  refine e_280 ⟨by omega, by omega, lR_L hl, ?_⟩
  by_cases c0 : v.1 342 (40 * ((k : Int) + 1) + b) = 6000000000000000000
  · rw [if_pos c0]
    refine no _ (fun hn => ?_)
    obtain ⟨c2, g2', c', g', n1, n2, n3, n4, n5, n6⟩ := id hn
    exact ((href c2 g2' n2).mp hn).1 c0
  · rw [if_neg c0]
    have hlc := lR_c hl c0
    refine ⟨?_, ?_⟩
    · rcases hsy with z | z <;> exact ⟨by have : lrw u r k = u.1 10 (r * 6 + k) := rfl; omega, by have : lrw u r k = u.1 10 (r * 6 + k) := rfl; omega⟩
    have hsy' : symR nv (lrw u r k) := hsy
    by_cases cx : lrw u r k < 100
    · have hs10 : 0 ≤ lrw u r k ∧ lrw u r k < 10 := by rcases hsy' with z | z <;> omega
      have he := hE.2 (S k) _ hSk hs10.1 hs10.2
      have hdR : iR n (u.1 (mk + 1) (S k * 10 + lrw u r k)) := g9 (S k) _ hSk hs10.1 hs10.2
      have hd0 := hdR.1
      have hd1 := hdR.2
      rw [if_pos cx, e02, he]
      refine ⟨by omega, by omega, ⟨by omega, by omega⟩, ⟨by omega, by omega⟩, ?_⟩
      by_cases cb : u.1 (mk + 1) (S k * 10 + lrw u r k) = b
      · rw [if_pos cb]
        have hst : stk (mOf u mk nv nr n) (Fe (mOf u mk nv nr n) (L3 w)) (L3 w) (H3 w) (lrw u r k) (S k) b 1 0 := by
          unfold stk
          rw [if_pos cx]
          exact ⟨cb.symm, rfl, rfl⟩
        refine k_280_91 ⟨⟨by omega, by omega⟩, ?_⟩
        rw [if_neg (by omega)]
        refine ⟨⟨by omega, by omega⟩, ?_⟩
        rw [if_pos cx, pl_sq hCb ⟨by omega, by omega⟩, pl_sq (sq_R hCb ⟨by omega, by omega⟩) hlc]
        exact ⟨cB_cn hCb, cB_cn ⟨by omega, by omega⟩, cB_cn hlc, fin 1 0 hst ⟨by omega, by omega⟩ c0⟩
      · rw [if_neg cb]
        refine no _ (fun hn => ?_)
        obtain ⟨c2, g2', c', g', n1, n2, n3, n4, n5, n6⟩ := id hn
        have n2' : stk (mOf u mk nv nr n) (Fe (mOf u mk nv nr n) (L3 w)) (L3 w) (H3 w) (lrw u r k) (S k) b c2 g2' := n2
        unfold stk at n2'
        rw [if_pos cx] at n2'
        exact cb n2'.1.symm
    · have hyR : iR nv (lrw u r k - 100) := by
        rcases hsy' with z | z
        · omega
        · exact ⟨by omega, by omega⟩
      have y0 := hyR.1
      have y1 := hyR.2
      have ht2 := tix_R (o := S k) (x := lrw u r k - 100) (q := b) ⟨s0, by omega⟩ ⟨y0, by omega⟩ ⟨b0, by omega⟩
      obtain ⟨o1, o2⟩ := hF.1 _ ht2.1 ht2.2
      rw [if_neg cx, e24, show ((10 * S k + (lrw u r k - 100)) * 40 + b) = tix (S k) (lrw u r k - 100) b from rfl]
      refine ⟨ht2.1, ht2.2, lR_L o1, ?_⟩
      by_cases cb : w.1 324 (tix (S k) (lrw u r k - 100) b) = 6000000000000000000
      · rw [if_pos cb]
        refine no _ (fun hn => ?_)
        obtain ⟨c2, g2', c', g', n1, n2, n3, n4, n5, n6⟩ := id hn
        have n2' : stk (mOf u mk nv nr n) (Fe (mOf u mk nv nr n) (L3 w)) (L3 w) (H3 w) (lrw u r k) (S k) b c2 g2' := n2
        unfold stk at n2'
        rw [if_neg cx] at n2'
        exact n2'.1.2.2.2 cb
      · rw [if_neg cb]
        have hst : stk (mOf u mk nv nr n) (Fe (mOf u mk nv nr n) (L3 w)) (L3 w) (H3 w) (lrw u r k) (S k) b (w.1 324 (tix (S k) (lrw u r k - 100) b)) (w.1 325 (tix (S k) (lrw u r k - 100) b)) := by
          unfold stk
          rw [if_neg cx]
          exact ⟨⟨hyR, hSk, hb, cb⟩, rfl, rfl⟩
        have hcb := lR_c o1 cb
        refine k_280_91 ⟨⟨by omega, by omega⟩, ?_⟩
        rw [if_neg (by omega)]
        refine ⟨⟨by omega, by omega⟩, ?_⟩
        rw [if_neg cx, e24, e25, show ((10 * S k + (lrw u r k - 100)) * 40 + b) = tix (S k) (lrw u r k - 100) b from rfl, pl_sq hCb hcb, pl_sq (sq_R hCb hcb) hlc]
        exact ⟨ht2.1, ht2.2, cB_cn hCb, cB_cn hcb, cB_cn hlc, fin _ _ hst (hR_I o2) c0⟩
