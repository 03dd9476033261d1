/-! The other side's numbering and its making of the least machine -/
def B3 (u : uS) : Prop := ∀ j : Int, u.1 303 j = 0 ∨ u.1 303 j = 1
def NG (m : Int) (u u' : uS) : Prop := u'.2 = u.2 ∧ (∀ (b : Nat) (j : Int), b ∉ [312, 313] → (b = 301 → j ≠ m) → (b = 302 → ¬ (400 * m ≤ j ∧ j < 400 * m + 400)) → (b = 303 → ¬ (40 * m ≤ j ∧ j < 40 * m + 40)) → u'.1 b j = u.1 b j) ∧ (B3 u → B3 u')
theorem NG_row {m : Int} {u u' : uS} (h : NG m u u') {b : Nat} (hb : b ∉ [312, 313, 301, 302, 303]) : u'.1 b = u.1 b := funext (fun j => by
  simp only [List.mem_cons, List.not_mem_nil, or_false, not_or] at hb
  exact h.2.1 b j (by simp only [List.mem_cons, List.not_mem_nil, or_false, not_or]; omega) (fun e => by omega) (fun e => by omega) (fun e => by omega))
theorem NG_12 {m : Int} {u v : uS} {a : Nat} {i y : Int} (ha : a = 312 ∨ a = 313) (h : NG m u v) : NG m u (wr v a i y) := ⟨h.1, fun b j hb h1 h2 h3 => by
  simp only [List.mem_cons, List.not_mem_nil, or_false, not_or] at hb
  rw [wr_ne (by omega)]
  exact h.2.1 b j (by simp only [List.mem_cons, List.not_mem_nil, or_false, not_or]; omega) h1 h2 h3, fun hB j => by rw [wr_ne (by omega)]; exact h.2.2 hB j⟩
theorem NG_1 {m : Int} {u v : uS} {y : Int} (h : NG m u v) : NG m u (wr v 301 m y) := ⟨h.1, fun b j hb h1 h2 h3 => by
  rw [wr_1, if_neg (fun e => h1 e.1 e.2)]
  exact h.2.1 b j hb h1 h2 h3, fun hB j => by rw [wr_ne (by decide)]; exact h.2.2 hB j⟩
theorem NG_2 {m : Int} {u v : uS} {i y : Int} (hi : 400 * m ≤ i ∧ i < 400 * m + 400) (h : NG m u v) : NG m u (wr v 302 i y) := ⟨h.1, fun b j hb h1 h2 h3 => by
  rw [wr_1, if_neg (fun e => h2 e.1 (by rw [e.2]; exact hi))]
  exact h.2.1 b j hb h1 h2 h3, fun hB j => by rw [wr_ne (by decide)]; exact h.2.2 hB j⟩
theorem NG_3 {m : Int} {u v : uS} {i y : Int} (hy : y = 0 ∨ y = 1) (hi : 40 * m ≤ i ∧ i < 40 * m + 40) (h : NG m u v) : NG m u (wr v 303 i y) := ⟨h.1, fun b j hb h1 h2 h3 => by
  rw [wr_1, if_neg (fun e => h3 e.1 (by rw [e.2]; exact hi))]
  exact h.2.1 b j hb h1 h2 h3, fun hB j => by
  rw [wr_uf]
  by_cases e : j = i
  · rw [e, uf_eq]; exact hy
  · rw [uf_ne e]; exact h.2.2 hB j⟩
/-- what the numbering reads: groups, chiefs, last places -/
def CHF (gd : Nat → Bool) (P : Nat) (gr : Nat → Nat) (n : Nat) (u : uS) : Prop := (∀ p : Nat, p < P → u.1 309 p = gr p ∧ u.1 307 p = b2 (gd p)) ∧ ∀ y : Nat, y < n → ∃ ch : Nat, u.1 311 y = ch ∧ ch < P ∧ gr ch = y
def ZI (gd : Nat → Bool) (x : Int → Int) (P : Nat) (gr : Nat → Nat) (m : Int) (u v : uS) (i R : Nat) : Prop := NG m u v ∧ plL (fun a _ c => ((cnr gd x P (nxt x a.toNat c.toNat) : Nat), 0)) (cnr gd x P 0 : Nat) 0 i ∧ (∀ s : Nat, s < (nuG gd x P i).1 → v.1 313 s = (gr ((nuG gd x P i).2.1 s).toNat : Nat)) ∧ (∀ p : Nat, p < P → v.1 312 (gr p : Nat) = if fdk (nuG gd x P i).2.1 (nuG gd x P i).2.2.1 (cnr gd x P p : Nat) 0 (nuG gd x P i).1 < (nuG gd x P i).1 then ((fdk (nuG gd x P i).2.1 (nuG gd x P i).2.2.1 (cnr gd x P p : Nat) 0 (nuG gd x P i).1 : Nat) : Int) else -2) ∧ (∀ j : Nat, j < i → v.1 302 (400 * m + j) = (nuG gd x P i).2.2.2 j) ∧ ∀ t : Nat, t < R → v.1 303 (40 * m + t) = b2 (gd ((nuG gd x P i).2.1 t).toNat)
def ZR (gd : Nat → Bool) (x : Int → Int) (P : Nat) (m : Int) (u u' : uS) : Prop := NG m u u' ∧ ∃ i : Nat, nuE gd x P i ∧ okM (nuM gd x P i) ∧ rMa u' m (nuM gd x P i)
set_option maxRecDepth 4000 in
theorem r_252 {d P n : Nat} {m : Int} {gd : Nat → Bool} {x : Int → Int} {gr : Nat → Nat} {u : uS} (hm0 : 0 ≤ m) (hm1 : m < 100) (hx : EV u P x) (hF : FPt gd x P gr n) (hg : CHF gd P gr n u) {i : Nat} (hi : i % 10 = 0) (H : ∀ (v : uS) (ch : Nat), i / 10 < (nuG gd x P i).1 → ch < P → nE gd x ch ((nuG gd x P i).2.1 ((i / 10 : Nat) : Int)).toNat → ZI gd x P gr m u v i (i / 10 + 1) → K_252 d 92 [.ref 271, iV m, .retAddr 0, iV ((nuG gd x P i).1 : Nat), iV ((i / 10 : Nat) : Int), iV (ch : Nat), iV ((i % 10 : Nat) : Int), .retAddr 0] [] v (ZR gd x P m u)) {v : uS} (hv : ZI gd x P gr m u v i (i / 10)) (hle : i / 10 ≤ (nuG gd x P i).1) : K_252 d 50 [.ref 271, iV m, .retAddr 0, iV ((nuG gd x P i).1 : Nat), iV ((i / 10 : Nat) : Int), .retAddr 0, .retAddr 0, .retAddr 0] [] v (ZR gd x P m u) := by
  have hP : 0 < P := by have := hx.1; omega
  have hN := nuG_le hP (EV_n hx) hF i
  have h40 := hF.1
  obtain ⟨v1, v2, v3, v4, v5, v7⟩ := id hv
  refine k_252_50 ⟨⟨by omega, by omega⟩, ⟨by omega, by omega⟩, ?_⟩
  by_cases c : ((i / 10 : Nat) : Int) < ((nuG gd x P i).1 : Nat)
  · rw [if_pos c]
    have cs : i / 10 < (nuG gd x P i).1 := by omega
    have hk := (nuG_key (gd := gd) hP (EV_n hx) i ((i / 10 : Nat) : Int)).1
    have hfP : ((nuG gd x P i).2.1 ((i / 10 : Nat) : Int)).toNat < P := by omega
    have hgr := hF.2.1.1 _ hfP
    obtain ⟨ch, c1, c2, c3⟩ := hg.2 _ hgr
    have hnE : nE gd x ch ((nuG gd x P i).2.1 ((i / 10 : Nat) : Int)).toNat := (hF.2.2 _ _ c2 hfP).mp c3
    rw [v3 (i / 10) cs, NG_row v1 (b := 311) (by decide), c1, NG_row v1 (b := 307) (by decide), (hg.1 ch c2).2, nE_gd hnE]
    have P2 := hx.2.1
    refine ⟨by omega, by omega, by omega, by omega, by omega, by omega, by omega, by omega, b2_r _, fun u13 e13 => ?_⟩
    have hoth : ∀ b : Nat, b ≠ 303 → u13.1 b = v.1 b := fun b hb => by rw [e13, wr_ne hb]
    have h0 := H u13 ch cs c2 hnE ⟨by rw [e13]; exact NG_3 (b2_r _) ⟨by omega, by omega⟩ v1, v2, by rw [hoth 313 (by decide)]; exact v3, by rw [hoth 312 (by decide)]; exact v4, by rw [hoth 302 (by decide)]; exact v5, fun t ht => ?_⟩
    · rw [hi] at h0
      exact h0
    · rw [e13, wr_uf]
      by_cases e : t = i / 10
      · rw [e, uf_eq]
      · rw [uf_ne (by omega)]
        exact v7 t (by omega)
  · rw [if_neg c]
    refine ⟨hm0, hm1, fun u17 e17 => ?_⟩
    have ei : i / 10 = (nuG gd x P i).1 := by omega
    have hE : nuE gd x P i := ⟨v2, by show i = 10 * (nuG gd x P i).1; omega⟩
    refine ⟨by rw [e17]; exact NG_1 v1, i, hE, nuM_ok hP (EV_n hx) hF hE, by rw [e17, wr_self]; rfl, fun s c' hs c0 c1 => ?_, fun s hs => ?_⟩
    · have hs1 := hs.1
      have hs2 : s < ((nuG gd x P i).1 : Nat) := hs.2
      rw [e17, wr_ne (by decide)]
      have := v5 (10 * s + c').toNat (by omega)
      rw [show (((10 * s + c').toNat : Nat) : Int) = 10 * s + c' by omega] at this
      rw [show 400 * m + 10 * s + c' = 400 * m + (10 * s + c') by omega]
      exact this
    · have hs1 := hs.1
      have hs2 : s < ((nuG gd x P i).1 : Nat) := hs.2
      have := v7 s.toNat (by omega)
      rw [e17, wr_ne (by decide)]
      show v.1 303 (40 * m + s) = b2 (decide (s.toNat < (nuG gd x P i).1) && gd ((nuG gd x P i).2.1 ((s.toNat : Nat) : Int)).toNat)
      rw [decide_eq_true (show s.toNat < (nuG gd x P i).1 by omega), Bool.true_and, ← this, show ((s.toNat : Nat) : Int) = s by omega]
set_option maxRecDepth 4000 in
theorem l_252 {d P n : Nat} {m : Int} {gd : Nat → Bool} {x : Int → Int} {gr : Nat → Nat} {u : uS} (hm0 : 0 ≤ m) (hm1 : m < 100) (hx : EV u P x) (hF : FPt gd x P gr n) (hg : CHF gd P gr n u) : ∀ (r i : Nat) (v : uS) (ch : Nat), i + r = 400 → i / 10 < (nuG gd x P i).1 → ch < P → nE gd x ch ((nuG gd x P i).2.1 ((i / 10 : Nat) : Int)).toNat → ZI gd x P gr m u v i (i / 10 + 1) → K_252 d 92 [.ref 271, iV m, .retAddr 0, iV ((nuG gd x P i).1 : Nat), iV ((i / 10 : Nat) : Int), iV (ch : Nat), iV ((i % 10 : Nat) : Int), .retAddr 0] [] v (ZR gd x P m u) := by
  have hP : 0 < P := by have := hx.1; omega
  have h40 := hF.1
  have hNle : ∀ i, (nuG gd x P i).1 ≤ n := nuG_le hP (EV_n hx) hF
  intro r
  induction r with
  | zero =>
    intro i v ch hi h1 h2 h3 hv
    have := hNle i
    omega
  | succ r ih =>
    intro i v sp hi h1 hspP s3 hv
    obtain ⟨v1, v2, v3, v4, v5, v7⟩ := id hv
    have P2 := hx.2.1
    have hc : i % 10 < 10 := by omega
    have e69 : v.1 306 (10 * (sp : Int) + ((i % 10 : Nat) : Int)) = (nxt x sp (i % 10) : Nat) := by
      rw [NG_row v1 (by decide)]
      exact EV_x hx hspP hc
    have npl := EV_n hx sp (i % 10) hspP hc
    have e73 : v.1 309 (nxt x sp (i % 10) : Nat) = (gr (nxt x sp (i % 10)) : Nat) := by
      rw [NG_row v1 (by decide)]
      exact (hg.1 _ npl).1
    have hgr := hF.2.1.1 _ npl
    have hkey : cnr gd x P (nxt x sp (i % 10)) = cnr gd x P (nxt x ((nuG gd x P i).2.1 ((i / 10 : Nat) : Int)).toNat (i % 10)) := cnr_eq (nE_go s3 hc)
    have hS : nuG gd x P (i + 1) = plS (fun a _ c => ((cnr gd x P (nxt x a.toNat c.toNat) : Nat), 0)) i (nuG gd x P i) := rfl
    unfold plS plA at hS
    simp only at hS
    rw [Int.toNat_natCast, ← hkey] at hS
    generalize hpl : nxt x sp (i % 10) = pl at *
    generalize hq : fdk (nuG gd x P i).2.1 (nuG gd x P i).2.2.1 (cnr gd x P pl : Nat) 0 (nuG gd x P i).1 = q at hS
    have hql : q ≤ (nuG gd x P i).1 := by rw [← hq]; exact fdk_le _ _ _ _ _
    have eN : (nuG gd x P (i + 1)).1 = max (nuG gd x P i).1 (q + 1) := by rw [hS]
    have eF : (nuG gd x P (i + 1)).2.1 = uf (nuG gd x P i).2.1 (q : Nat) (cnr gd x P pl : Nat) := by rw [hS]
    have eG : (nuG gd x P (i + 1)).2.2.1 = uf (nuG gd x P i).2.2.1 (q : Nat) 0 := by rw [hS]
    have eX : (nuG gd x P (i + 1)).2.2.2 = uf (nuG gd x P i).2.2.2 (i : Int) (q : Nat) := by rw [hS]
    have hN1 := hNle (i + 1)
    have hL : plL (fun a _ c => ((cnr gd x P (nxt x a.toNat c.toNat) : Nat), 0)) (cnr gd x P 0 : Nat) 0 (i + 1) := plL_s v2 h1 (by
      have h : (nuG gd x P (i + 1)).1 ≤ n := hN1
      exact Nat.le_trans h (by omega))
    have v4p := v4 pl npl
    rw [hq] at v4p
    have ej : 400 * m + 10 * ((i / 10 : Nat) : Int) + ((i % 10 : Nat) : Int) = 400 * m + (i : Int) := by omega
    have hkeep : ∀ t : Nat, t < (nuG gd x P i).1 → (nuG gd x P (i + 1)).2.1 t = (nuG gd x P i).2.1 t := fun t ht => (plS_keep (go := fun a _ c => ((cnr gd x P (nxt x a.toNat c.toNat) : Nat), 0)) i (nuG gd x P i) t ht).1
    have next : ∀ w : uS, ZI gd x P gr m u w (i + 1) (i / 10 + 1) → K_252 d 92 [.ref 271, iV m, .retAddr 0, iV ((nuG gd x P (i + 1)).1 : Nat), iV ((i / 10 : Nat) : Int), iV (sp : Nat), iV (((i % 10 : Nat) : Int) + 1), .retAddr 0] [] w (ZR gd x P m u) := by
      intro w hw
      by_cases c9 : i % 10 = 9
      · refine k_252_92 ⟨⟨by omega, by omega⟩, ?_⟩
        rw [if_neg (by omega)]
        have e1 : (i + 1) / 10 = i / 10 + 1 := by omega
        have hw' : ZI gd x P gr m u w (i + 1) ((i + 1) / 10) := by rw [e1]; exact hw
        have h0 := r_252 (d := d) hm0 hm1 hx hF hg (i := i + 1) (by omega) (fun v' ch' h1' h2' h3' h4' => ih (i + 1) v' ch' (by omega) h1' h2' h3' h4') hw' (by rw [eN]; omega)
        rw [e1] at h0
        exact h0
      · have e1 : (i + 1) / 10 = i / 10 := by omega
        have h0 := ih (i + 1) w sp (by omega) (by rw [eN]; omega) hspP (by rw [e1, hkeep _ h1]; exact s3) (by rw [e1]; exact hw)
        rw [e1, show (i + 1) % 10 = i % 10 + 1 by omega] at h0
        exact h0
    refine k_252_92 ⟨⟨by omega, by omega⟩, ?_⟩
    rw [if_pos (by omega), e69, e73, v4p, ej]
    refine ⟨by omega, by omega, by omega, by omega, by omega, by omega, by split <;> exact ⟨by omega, by omega⟩, ?_⟩
    by_cases cq : q < (nuG gd x P i).1
    · rw [if_pos cq, if_neg (by omega)]
      refine ⟨by omega, by omega, fun u27 e27 => ?_⟩
      have hhit := fdk_hit (f := (nuG gd x P i).2.1) (g := (nuG gd x P i).2.2.1) (a := (cnr gd x P pl : Nat)) (b := 0) (n := (nuG gd x P i).1) (by rw [hq]; exact cq)
      rw [hq] at hhit
      rw [uf_same hhit.1] at eF
      rw [uf_same hhit.2] at eG
      have eN' : (nuG gd x P (i + 1)).1 = (nuG gd x P i).1 := by rw [eN]; omega
      have hoth : ∀ b : Nat, b ≠ 302 → u27.1 b = v.1 b := fun b hb => by rw [e27, wr_ne hb]
      have h0 := next u27 ⟨by rw [e27]; exact NG_2 ⟨by omega, by omega⟩ v1, hL, ?_, ?_, fun j hj => ?_, ?_⟩
      · rw [eN'] at h0
        exact h0
      · rw [eN', eF, hoth 313 (by decide)]; exact v3
      · rw [eN', eF, eG, hoth 312 (by decide)]; exact v4
      · rw [e27, wr_uf, eX]
        by_cases e : j = i
        · rw [e, uf_eq, uf_eq]
        · rw [uf_ne (by omega), uf_ne (by omega)]; exact v5 j (by omega)
      · rw [eF, hoth 303 (by decide)]; exact v7
    · have eq : q = (nuG gd x P i).1 := by omega
      rw [if_neg cq, if_pos (by omega)]
      rw [eq] at eN eF eG eX
      have eN' : (nuG gd x P (i + 1)).1 = (nuG gd x P i).1 + 1 := by rw [eN]; omega
      intro u13 e13
      refine ⟨by omega, by omega, fun u17 e17 => ?_⟩
      have k76 : u17.1 312 (gr pl : Nat) = ((nuG gd x P i).1 : Nat) := by rw [e17, wr_ne (by decide), e13, wr_self]
      rw [k76]
      refine ⟨by omega, by omega, fun u23 e23 => ?_⟩
      have h76 : u23.1 312 = uf (v.1 312) (gr pl : Nat) ((nuG gd x P i).1 : Nat) := by rw [e23, wr_ne (by decide), e17, wr_ne (by decide), e13, wr_uf]
      have h77' : u23.1 313 = uf (v.1 313) ((nuG gd x P i).1 : Nat) (gr pl : Nat) := by rw [e23, wr_ne (by decide), e17, wr_uf, e13, wr_ne (by decide)]
      have hl1 : u23.1 303 = v.1 303 := by rw [e23, wr_ne (by decide), e17, wr_ne (by decide), e13, wr_ne (by decide)]
      have h0 := next u23 ⟨by rw [e23, e17, e13]; exact NG_2 ⟨by omega, by omega⟩ (NG_12 (Or.inr rfl) (NG_12 (Or.inl rfl) v1)), hL, fun s hs => ?_, fun p hp => ?_, fun j hj => ?_, fun t ht => ?_⟩
      · rw [eN'] at h0
        exact h0
      · rw [eF, h77']
        by_cases e : s = (nuG gd x P i).1
        · rw [e, uf_eq, uf_eq, Int.toNat_natCast]
          have hs := cnr_spec gd x npl
          rw [(hF.2.2 _ _ hs.1 npl).mpr hs.2]
        · rw [uf_ne (by omega), uf_ne (by omega)]
          exact v3 s (by omega)
      · rw [h76, eN', eF, eG]
        have hstep : fdk (uf (nuG gd x P i).2.1 ((nuG gd x P i).1 : Nat) (cnr gd x P pl : Nat)) (uf (nuG gd x P i).2.2.1 ((nuG gd x P i).1 : Nat) 0) (cnr gd x P p : Nat) 0 ((nuG gd x P i).1 + 1) = if fdk (nuG gd x P i).2.1 (nuG gd x P i).2.2.1 (cnr gd x P p : Nat) 0 (nuG gd x P i).1 < (nuG gd x P i).1 then fdk (nuG gd x P i).2.1 (nuG gd x P i).2.2.1 (cnr gd x P p : Nat) 0 (nuG gd x P i).1 else if cnr gd x P pl = cnr gd x P p then (nuG gd x P i).1 else (nuG gd x P i).1 + 1 := by
          simp only [fdk]
          rw [fdk_congr (f := (nuG gd x P i).2.1) (g := (nuG gd x P i).2.2.1) (fun q hq => ⟨uf_ne (by omega), uf_ne (by omega)⟩), uf_eq, uf_eq]
          split
          · rfl
          · by_cases ce : cnr gd x P pl = cnr gd x P p
            · rw [if_pos ce, if_pos ⟨by rw [ce], rfl⟩]
            · rw [if_neg ce, if_neg (fun hh => ce (by have := hh.1; omega))]
        rw [hstep]
        have v4p' := v4 p hp
        by_cases ce : cnr gd x P pl = cnr gd x P p
        · have eg : gr p = gr pl := (hF.2.2 p pl hp npl).mpr (nE_symm ((cnr_iff npl hp).mp ce))
          have hin : (if fdk (nuG gd x P i).2.1 (nuG gd x P i).2.2.1 (cnr gd x P p : Nat) 0 (nuG gd x P i).1 < (nuG gd x P i).1 then fdk (nuG gd x P i).2.1 (nuG gd x P i).2.2.1 (cnr gd x P p : Nat) 0 (nuG gd x P i).1 else if cnr gd x P pl = cnr gd x P p then (nuG gd x P i).1 else (nuG gd x P i).1 + 1) = (nuG gd x P i).1 := by
            rw [← ce, hq, eq, if_neg (Nat.lt_irrefl _), if_pos rfl]
          rw [hin, eg, uf_eq, if_pos (by omega)]
        · have eg : gr p ≠ gr pl := fun e => ce (cnr_eq (nE_symm ((hF.2.2 p pl hp npl).mp e)))
          rw [uf_ne (by omega), v4p', if_neg ce]
          split
          · rw [if_pos (by omega)]
          · rw [if_neg (by omega)]
      · rw [e23, wr_uf, eX]
        by_cases e : j = i
        · rw [e, uf_eq, uf_eq]
        · rw [uf_ne (by omega), uf_ne (by omega), e17, wr_ne (by decide), e13, wr_ne (by decide)]
          exact v5 j (by omega)
      · rw [hl1, hkeep t (by omega)]
        exact v7 t ht
set_option maxRecDepth 4000 in
theorem q_252 {d P n : Nat} {m : Int} {gd : Nat → Bool} {x : Int → Int} {gr : Nat → Nat} {u : uS} (hm0 : 0 ≤ m) (hm1 : m < 100) (hx : EV u P x) (hF : FPt gd x P gr n) (hg : CHF gd P gr n u) : cV (d + 1) 252 [.ref 271, iV m, iV (n : Nat)] u (ZR gd x P m u) := by
  have P1 := hx.1
  have h40 := hF.1
  have g0 := hF.2.1.1 0 (by omega)
  have hs := cnr_spec gd x (P := P) (p := 0) (by omega)
  have loop : ∀ (r k : Nat) (v : uS), k + r = n → NG m u v → (∀ y : Nat, y < k → v.1 312 y = -2) → K_252 d 2 [.ref 271, iV m, iV (n : Nat), iV (k : Nat), .retAddr 0, .retAddr 0, .retAddr 0, .retAddr 0] [] v (ZR gd x P m u) := by
    intro r
    induction r with
    | zero =>
      intro k v hk f1 f2
      refine k_252_2 ⟨⟨by omega, by omega⟩, ⟨by omega, by omega⟩, ?_⟩
      have e309 : v.1 309 0 = (gr 0 : Nat) := by rw [NG_row f1 (by decide)]; exact (hg.1 0 (by omega)).1
      rw [if_neg (by omega), e309]
      refine ⟨by omega, by omega, fun u10 e10 u12 e12 => ?_⟩
      have e309' : u10.1 309 0 = (gr 0 : Nat) := by rw [e10, wr_ne (by decide)]; exact e309
      rw [e309'] at e12
      have h312 : u12.1 312 = uf (v.1 312) (gr 0 : Nat) 0 := by rw [e12, wr_ne (by decide), e10, wr_uf]
      have h0 := r_252 (d := d) (i := 0) (v := u12) hm0 hm1 hx hF hg rfl (fun v' ch' a b c e => l_252 hm0 hm1 hx hF hg 400 0 v' ch' (by omega) a b c e) ⟨?_, plL_0, fun s hs' => ?_, fun p hp => ?_, fun j hj => absurd hj (Nat.not_lt_zero j), fun t ht => absurd ht (Nat.not_lt_zero t)⟩ (Nat.zero_le _)
      · exact h0
      · rw [e12, e10]
        exact NG_12 (Or.inr rfl) (NG_12 (Or.inl rfl) f1)
      · have hs' : s < 1 := hs'
        have e0 : s = 0 := by omega
        rw [e0]
        show u12.1 313 0 = (gr ((cnr gd x P 0 : Nat) : Int).toNat : Nat)
        rw [e12, wr_self, Int.toNat_natCast, (hF.2.2 _ _ hs.1 (by omega)).mpr hs.2]
      · rw [h312]
        show _ = if fdk (fun _ => ((cnr gd x P 0 : Nat) : Int)) (fun _ => 0) (cnr gd x P p : Nat) 0 1 < 1 then _ else _
        have hfd : fdk (fun _ => ((cnr gd x P 0 : Nat) : Int)) (fun _ => 0) (cnr gd x P p : Nat) 0 1 = if cnr gd x P 0 = cnr gd x P p then 0 else 1 := by
          simp only [fdk]
          by_cases ce : cnr gd x P 0 = cnr gd x P p
          · rw [if_neg (by omega), if_pos ce, if_pos ⟨by rw [ce], trivial⟩]
          · rw [if_neg (by omega), if_neg ce, if_neg (fun hh => ce (by have := hh.1; omega))]
        by_cases ce : cnr gd x P 0 = cnr gd x P p
        · have eg : gr p = gr 0 := (hF.2.2 p 0 hp (by omega)).mpr (nE_symm ((cnr_iff (by omega) hp).mp ce))
          rw [hfd, if_pos ce, if_pos (by omega), eg, uf_eq]
          show (0 : Int) = ((fdk (fun _ => ((cnr gd x P 0 : Nat) : Int)) (fun _ => 0) (cnr gd x P p : Nat) 0 1 : Nat) : Int)
          rw [hfd, if_pos ce]
          rfl
        · have eg : gr p ≠ gr 0 := fun e => ce (cnr_eq (nE_symm ((hF.2.2 p 0 hp (by omega)).mp e)))
          rw [hfd, if_neg ce, if_neg (by omega), uf_ne (by omega)]
          have := hF.2.1.1 p hp
          exact f2 _ (by omega)
    | succ r ih =>
      intro k v hk f1 f2
      refine k_252_2 ⟨⟨by omega, by omega⟩, ⟨by omega, by omega⟩, ?_⟩
      rw [if_pos (by omega)]
      refine ⟨by omega, by omega, fun u6 e6 => ih (k + 1) u6 (by omega) (by rw [e6]; exact NG_12 (Or.inl rfl) f1) (fun y hy => ?_)⟩
      rw [e6, wr_uf]
      by_cases e : y = k
      · rw [e, uf_eq]
      · rw [uf_ne (by omega)]; exact f2 y (by omega)
  exact e_252 (loop n 0 u (by omega) ⟨rfl, fun _ _ _ _ _ _ => rfl, fun h => h⟩ (fun y hy => absurd hy (Nat.not_lt_zero y)))
/-- what the making of the least machine leaves -/
def NF (m : Int) (u u' : uS) : Prop := u'.2 = u.2 ∧ (∀ (b : Nat) (j : Int), b ∉ [309, 310, 311, 312, 313] → (b = 301 → j ≠ m) → (b = 302 → ¬ (400 * m ≤ j ∧ j < 400 * m + 400)) → (b = 303 → ¬ (40 * m ≤ j ∧ j < 40 * m + 40)) → (b = 271 → j ≠ 43) → u'.1 b j = u.1 b j) ∧ (B3 u → B3 u')
def ML (gd : Nat → Bool) (x : Int → Int) (P : Nat) (m : Int) (u u' : uS) : Prop := NF m u u' ∧ ((u'.1 271 43 = 1 ∧ D41 gd x P) ∨ (u'.1 271 43 = 0 ∧ (∃ (gr : Nat → Nat) (n : Nat), FPt gd x P gr n) ∧ ∃ i : Nat, nuE gd x P i ∧ okM (nuM gd x P i) ∧ rMa u' m (nuM gd x P i)))
theorem EF_NF {m : Int} {u v w : uS} (h : EF u v) (h' : NG m v w) : NF m u w := ⟨h'.1.trans h.1, fun b j hb h1 h2 h3 _ => by
  simp only [List.mem_cons, List.not_mem_nil, or_false, not_or] at hb
  rw [h'.2.1 b j (by simp only [List.mem_cons, List.not_mem_nil, or_false, not_or]; omega) h1 h2 h3, h.2 b (by simp only [List.mem_cons, List.not_mem_nil, or_false, not_or]; omega)], fun hB => h'.2.2 (fun j => by rw [h.2 303 (by decide)]; exact hB j)⟩
set_option maxRecDepth 4000 in
theorem q_249 {d P : Nat} {m : Int} {gd : Nat → Bool} {x : Int → Int} {u : uS} (hm0 : 0 ≤ m) (hm1 : m < 100) (hx : EV u P x) (h43 : u.1 271 43 = 0) (hl : ∀ p : Nat, p < P → u.1 307 p = b2 (gd p)) : cV (d + 3) 249 [.ref 271, iV m] u (ML gd x P m u) := by
  have hnx := EV_n hx
  obtain ⟨P1, P2, P3, -⟩ := id hx
  have great : ∀ (v u8 : uS), EF u v → D41 gd x P → u8 = wr v 271 43 1 → ML gd x P m u u8 := by
    intro v u8 hv hD e8
    refine ⟨⟨by rw [e8, wr_2]; exact hv.1, fun b j hb h1 h2 h3 h4 => ?_, fun hB j => by rw [e8, wr_ne (by decide), hv.2 303 (by decide)]; exact hB j⟩, Or.inl ⟨by rw [e8, wr_self], hD⟩⟩
    simp only [List.mem_cons, List.not_mem_nil, or_false, not_or] at hb
    rw [e8, wr_1, if_neg (fun e => h4 e.1 e.2), hv.2 b (by simp only [List.mem_cons, List.not_mem_nil, or_false, not_or]; omega)]
  -- the rounds
  have rounds : ∀ (r hd n : Nat) (v : uS) (gr : Nat → Nat), 41 ≤ n + r → n ≤ 40 → EF u v → wayP gd x P gr → prt P gr n → (∀ p : Nat, p < P → v.1 309 p = gr p) → (∀ y : Nat, y < n → ∃ ch : Nat, v.1 311 y = ch ∧ ch < P ∧ gr ch = y) → (hd < n ∨ (hd = n ∧ ∀ c, c < 10 → ∀ p q, p < P → q < P → gr p = gr q → gr (nxt x p c) = gr (nxt x q c))) → K_249 (d + 2) 51 [.ref 271, iV m, iV (hd : Nat), iV (n : Nat)] [] v (ML gd x P m u) := by
    intro r
    induction r with
    | zero => intro hd n v gr h1 h2; omega
    | succ r ih =>
      intro hd n v gr h1 h2 f1 f2 f3 f4 f5 f6
      have hv := EV_EF hx f1
      refine k_249_51 ⟨⟨by omega, by omega⟩, ⟨by omega, by omega⟩, ?_⟩
      by_cases ch : (hd : Int) < (n : Nat)
      · rw [if_pos ch, if_pos (by omega)]
        refine (q_250 (d := d) hv f2 (fun p hp => ⟨f4 p hp, by have := f3.1 p hp; omega⟩)).mono (Nat.le_refl _) (fun r6 u5 h5 => ?_)
        obtain ⟨g1, g2⟩ := h5
        have g0 := EF_trans f1 g1
        rcases g2 with ⟨a1, a2⟩ | ⟨gr', n', a1, a2, a3, a4, a5, a6⟩
        · rw [a1]
          refine k_249_51 ⟨⟨by omega, by omega⟩, ⟨by omega, by omega⟩, ?_⟩
          rw [if_pos (by omega), if_neg (by omega), if_pos (by omega)]
          exact fun u8 e8 => great u5 u8 g0 a2 e8
        · rw [a1]
          have hle := prt_le f3 a3 (fun p q hp hq e => ((a4 p q hp hq).mp e).1)
          by_cases ce : n' = n
          · rw [ce] at a3 a6 ⊢
            have heq := prt_eq f3 a3 (fun p q hp hq e => ((a4 p q hp hq).mp e).1)
            have hst : ∀ c, c < 10 → ∀ p q, p < P → q < P → gr' p = gr' q → gr' (nxt x p c) = gr' (nxt x q c) := fun c hc p q hp hq e => heq _ _ (hnx p c hp hc) (hnx q c hq hc) (((a4 p q hp hq).mp e).2 c hc trivial)
            -- the last head: nothing is new
            have hF : FPt gd x P gr' n := wayP_end hnx (wayP_s hnx f2 a4) h2 a3 hst
            refine k_249_51 ⟨⟨by omega, by omega⟩, ⟨by omega, by omega⟩, ?_⟩
            rw [if_neg (by omega), if_neg (by omega)]
            have hC : CHF gd P gr' n u5 := ⟨fun p hp => ⟨a5 p hp, by rw [g0.2 307 (by decide)]; exact hl p hp⟩, a6⟩
            refine (q_252 (d := d + 1) hm0 hm1 (EV_EF hv g1) hF hC).mono (Nat.le_refl _) (fun u10 h10 => ?_)
            obtain ⟨b1, b2⟩ := h10
            refine ⟨EF_NF g0 b1, Or.inr ⟨?_, ⟨gr', n, hF⟩, b2⟩⟩
            rw [NG_row b1 (by decide), g0.2 271 (by decide)]
            exact h43
          · exact ih n n' u5 gr' (by omega) a2 g0 (wayP_s hnx f2 a4) a3 a5 a6 (Or.inl (by omega))
      · rw [if_neg ch, if_neg (by omega)]
        rcases f6 with f6 | ⟨e, f6⟩
        · omega
        · have hF : FPt gd x P gr n := wayP_end hnx f2 h2 f3 f6
          have hC : CHF gd P gr n v := ⟨fun p hp => ⟨f4 p hp, by rw [f1.2 307 (by decide)]; exact hl p hp⟩, f5⟩
          refine (q_252 (d := d + 1) hm0 hm1 hv hF hC).mono (Nat.le_refl _) (fun u10 h10 => ?_)
          obtain ⟨b1, b2⟩ := h10
          refine ⟨EF_NF f1 b1, Or.inr ⟨?_, ⟨gr, n, hF⟩, b2⟩⟩
          rw [NG_row b1 (by decide), f1.2 271 (by decide)]
          exact h43
  have first : ∀ (r k : Nat) (v : uS), k + r = P → EF u v → (∀ p : Nat, p < k → v.1 309 p = ((if gd p = true then 1 else 0 : Nat) : Int)) → K_249 (d + 2) 10 [.ref 271, iV m, iV (k : Nat), .retAddr 0] [] v (ML gd x P m u) := by
    intro r
    induction r with
    | zero =>
      intro k v hk f1 f2
      have ek : k = P := by omega
      rw [ek] at f2
      have hv := EV_EF hx f1
      have h44 := hv.2.2.1
      refine k_249_10 ⟨⟨by omega, by omega⟩, ⟨by omega, by omega⟩, ?_⟩
      rw [if_neg (by omega)]
      have hw : wayP gd x P (fun p => if gd p = true then 1 else 0) := by
        refine ⟨fun p q _ _ e => ?_, fun p q _ _ e => ?_⟩
        · show (if gd p = true then 1 else 0) = (if gd q = true then 1 else 0)
          rw [nE_gd e]
        · have e : (if gd p = true then 1 else 0) = (if gd q = true then 1 else 0) := e
          cases h1 : gd p <;> cases h2 : gd q <;> simp_all
      refine (q_250 (d := d) hv hw (fun p hp => ⟨f2 p hp, by show (if gd p = true then 1 else 0) ≤ 2000; split <;> omega⟩)).mono (Nat.le_refl _) (fun r6 u5 h5 => ?_)
      obtain ⟨g1, g2⟩ := h5
      have g0 := EF_trans f1 g1
      rcases g2 with ⟨a1, a2⟩ | ⟨gr', n', a1, a2, a3, a4, a5, a6⟩
      · rw [a1]
        refine k_249_51 ⟨⟨by omega, by omega⟩, ⟨by omega, by omega⟩, ?_⟩
        rw [if_pos (by omega), if_neg (by omega), if_pos (by omega)]
        exact fun u8 e8 => great u5 u8 g0 a2 e8
      · rw [a1]
        have hn1 := a3.1 0 (by omega)
        exact rounds (41 - n') 0 n' u5 gr' (by omega) a2 g0 (wayP_s hnx hw a4) a3 a5 a6 (Or.inl (by omega))
    | succ r ih =>
      intro k v hk f1 f2
      have hv := EV_EF hx f1
      have h44 := hv.2.2.1
      have e307 : v.1 307 k = b2 (gd k) := by rw [f1.2 307 (by decide)]; exact hl k (by omega)
      have hb := b2_r (gd k)
      refine k_249_10 ⟨⟨by omega, by omega⟩, ⟨by omega, by omega⟩, ?_⟩
      rw [if_pos (by omega), e307]
      refine ⟨by omega, by omega, ⟨by omega, by omega⟩, ?_⟩
      have go : ∀ (y : Int) (u8 : uS), y = ((if gd k = true then 1 else 0 : Nat) : Int) → u8 = wr v 309 k y → K_249 (d + 2) 10 [.ref 271, iV m, iV ((k : Int) + 1), .retAddr 0] [] u8 (ML gd x P m u) := by
        intro y u8 ey e8
        refine ih (k + 1) u8 (by omega) (by rw [e8]; exact EF_wr (by decide) f1) (fun p hp => ?_)
        rw [e8, wr_uf]
        by_cases e : p = k
        · rw [e, uf_eq]; exact ey
        · rw [uf_ne (by omega)]; exact f2 p (by omega)
      cases hgd : gd k with
      | false =>
        rw [if_pos b2f]
        exact fun u8 e8 => go 0 u8 (by rw [hgd]; rfl) e8
      | true =>
        rw [if_neg (by decide)]
        exact fun u8 e8 => go 1 u8 (by rw [hgd]; rfl) e8
  refine e_249 ⟨⟨by omega, by omega⟩, ?_⟩
  rw [if_pos h43]
  exact first P 0 u (by omega) (EF_refl u) (fun p hp => absurd hp (Nat.not_lt_zero p))
