/-! The other side's sets of states, its gathering -/
theorem bt_sshr (x : Int) {y : Nat} (h : y < 64) : bt (lshr x y) 0 = bt x y := by
  have e : BitVec.ofInt 64 (lshr x y) = (BitVec.ofInt 64 x).sshiftRight y := by
    unfold lshr
    rw [bv_l, Int64.toBitVec_shiftRight, sh63a ⟨y, h⟩]
    rw [BitVec.sshiftRight', BitVec.toNat_ofNat, Nat.mod_eq_of_lt (by omega)]
    rfl
  unfold bt
  rw [e, BitVec.getLsbD_sshiftRight]
  simp [h]
theorem bit_s {x s : Int} (h0 : 0 ≤ s) (h1 : s < 64) : land (lshr x s) 1 = if bt x s.toNat = true then 1 else 0 := by
  obtain ⟨k, rfl⟩ : ∃ k : Nat, s = (k : Int) := ⟨s.toNat, by omega⟩
  rw [land1, bt_sshr x (by omega)]
  rfl
theorem q_247 {d : Nat} {l X : Int} {m : Ma} {u : uS} (l0 : 0 ≤ l) (l1 : l < 100) (hm : okM m) (hu : rMa u l m) : cI (d + 1) 247 [.ref 271, iV l, lV X] u (fun r u' => u' = u ∧ r = b2 (hlA m X)) := by
  have h40 := hm.2.1
  have e301 := hu.1
  have loop : ∀ (r s : Nat), s + r = m.1 → hlr m X s = false → K_247 d 3 [.ref 271, iV l, lV X, .retAddr 0, iV (s : Nat)] [] u (fun r u' => u' = u ∧ r = b2 (hlA m X)) := by
    intro r
    induction r with
    | zero =>
      intro s hs h
      refine k_247_3 ⟨l0, l1, ⟨by omega, by omega⟩, ⟨by omega, by omega⟩, ?_⟩
      rw [if_neg (by omega)]
      refine ⟨rfl, ?_⟩
      unfold hlA
      rw [show m.1 = s by omega, h]
      rfl
    | succ r ih =>
      intro s hs h
      refine k_247_3 ⟨l0, l1, ⟨by omega, by omega⟩, ⟨by omega, by omega⟩, ?_⟩
      have e303 := hu.2.2 s ⟨by omega, by omega⟩
      rw [Int.toNat_natCast] at e303
      rw [if_pos (by omega), bit_s (by omega) (by omega), Int.toNat_natCast, e303]
      have hb := b2_r (m.2.2 s)
      by_cases cb : bt X s = true
      · rw [if_pos cb, if_pos rfl]
        refine ⟨by omega, by omega, ⟨by omega, by omega⟩, ?_⟩
        cases hl : m.2.2 s with
        | false =>
          rw [if_pos b2f]
          refine ih (s + 1) (by omega) ?_
          show (hlr m X s || (bt X s && m.2.2 s)) = false
          rw [h, hl, Bool.and_false]
          rfl
        | true =>
          rw [if_neg (by decide)]
          refine ⟨rfl, ?_⟩
          have : hlA m X = true := (hlr_iff m X m.1).mpr ⟨s, by omega, cb, hl⟩
          rw [this]
          rfl
      · rw [if_neg cb, if_neg (by decide)]
        refine ih (s + 1) (by omega) ?_
        have cb : bt X s = false := by
          cases hh : bt X s with
          | false => rfl
          | true => exact absurd hh cb
        show (hlr m X s || (bt X s && m.2.2 s)) = false
        rw [h, cb]
        rfl
  exact e_247 (loop m.1 0 (by omega) rfl)
theorem q_248 {d : Nat} {l X c : Int} {m : Ma} {u : uS} (l0 : 0 ≤ l) (l1 : l < 100) (hm : okM m) (hu : rMa u l m) (c0 : 0 ≤ c) (c1 : c < 10) : cL (d + 1) 248 [.ref 271, iV l, lV X, iV c] u (fun r u' => u' = u ∧ r = aft m X c) := by
  have h40 := hm.2.1
  have e301 := hu.1
  have loop : ∀ (r s : Nat), s + r = m.1 → K_248 d 6 [.ref 271, iV l, lV X, .retAddr 0, iV c, lV (ahd m X c s), .retAddr 0, iV (s : Nat)] [] u (fun r u' => u' = u ∧ r = aft m X c) := by
    intro r
    induction r with
    | zero =>
      intro s hs
      refine k_248_6 ⟨l0, l1, ⟨by omega, by omega⟩, ⟨by omega, by omega⟩, ?_⟩
      rw [if_neg (by omega)]
      refine ⟨rfl, ?_⟩
      unfold aft
      rw [show m.1 = s by omega]
    | succ r ih =>
      intro s hs
      refine k_248_6 ⟨l0, l1, ⟨by omega, by omega⟩, ⟨by omega, by omega⟩, ?_⟩
      rw [if_pos (by omega), bit_s (by omega) (by omega), Int.toNat_natCast, hu.2.1 s c ⟨by omega, by omega⟩ c0 c1]
      have h0 := ih (s + 1) (by omega)
      have ea : ahd m X c (s + 1) = lor (ahd m X c s) (if bt X s = true then lshl 1 (m.2.1 (s : Int) c) else 0) := rfl
      rw [ea] at h0
      by_cases cb : bt X s = true
      · rw [if_pos cb, if_pos rfl]
        rw [if_pos cb] at h0
        exact ⟨by omega, by omega, h0⟩
      · rw [if_neg cb, if_neg (by decide)]
        rw [if_neg cb] at h0
        exact h0
  exact e_248 (loop m.1 0 (by omega))
/-- all but the places stays -/
def GFm (u u' : uS) : Prop := u'.2 = u.2 ∧ ∀ (b : Nat) (j : Int), b ∉ [304, 305, 306, 307, 308] → (b = 271 → j ≠ 43 ∧ j ≠ 44) → u'.1 b j = u.1 b j
theorem GF_refl (u : uS) : GFm u u := ⟨rfl, fun _ _ _ _ => rfl⟩
theorem GF_trans {u v w : uS} (h : GFm u v) (h' : GFm v w) : GFm u w := ⟨h'.1.trans h.1, fun b j hb hj => (h'.2 b j hb hj).trans (h.2 b j hb hj)⟩
theorem GF_wr {u v : uS} {a : Nat} {i y : Int} (ha : a ∈ [304, 305, 306, 307, 308]) (h : GFm u v) : GFm u (wr v a i y) := ⟨h.1, fun b j hb hj => by
  rw [wr_ne (fun e => hb (by rw [e]; exact ha))]
  exact h.2 b j hb hj⟩
theorem GF_43 {u v : uS} {i y : Int} (hi : i = 43 ∨ i = 44) (h : GFm u v) : GFm u (wr v 271 i y) := ⟨h.1, fun b j hb hj => by
  rw [wr_1, if_neg (fun e => by have := hj e.1; omega)]
  exact h.2 b j hb hj⟩
theorem RPf_GF {u u' : uS} (h : RPf u u') : GFm u u' := ⟨h.1, fun b j hb hj => by
  simp only [List.mem_cons, List.not_mem_nil, or_false, not_or] at hb
  exact h.2 b j (by simp only [List.mem_cons, List.not_mem_nil, or_false, not_or]; omega) (fun e => (hj e).2)⟩
theorem GF_row {u v : uS} (h : GFm u v) {b : Nat} (hb : b ∉ [304, 305, 306, 307, 308, 271]) : v.1 b = u.1 b := funext (fun j => by
  simp only [List.mem_cons, List.not_mem_nil, or_false, not_or] at hb
  exact h.2 b j (by simp only [List.mem_cons, List.not_mem_nil, or_false, not_or]; omega) (fun e => by omega))
theorem rMa_of {u u' : uS} {k : Int} {m : Ma} (h : rMa u k m) (h1 : u'.1 301 k = u.1 301 k) (h2 : ∀ j : Int, 400 * k ≤ j → j < 400 * k + 400 → u'.1 302 j = u.1 302 j) (h3 : ∀ j : Int, 40 * k ≤ j → j < 40 * k + 40 → u'.1 303 j = u.1 303 j) (hm : okM m) : rMa u' k m := by
  have h40 := hm.2.1
  refine ⟨by rw [h1]; exact h.1, fun s c hs c0 c1 => ?_, fun s hs => ?_⟩
  · have s1 := hs.1
    have s2 := hs.2
    rw [h2 _ (by omega) (by omega)]
    exact h.2.1 s c hs c0 c1
  · have s1 := hs.1
    have s2 := hs.2
    rw [h3 _ (by omega) (by omega)]
    exact h.2.2 s hs
theorem rMa_GF {u v : uS} {k : Int} {m : Ma} (h : rMa u k m) (hm : okM m) (hf : GFm u v) : rMa v k m := rMa_of h (by rw [GF_row hf (by decide)]) (fun j _ _ => by rw [GF_row hf (by decide)]) (fun j _ _ => by rw [GF_row hf (by decide)]) hm
theorem RP_of {u u' : uS} {n : Nat} {f g : Int → Int} (h : RP u n f g) (h3 : u'.1 271 44 = u.1 271 44) (h67 : u'.1 304 = u.1 304) (h68 : u'.1 305 = u.1 305) (h70 : u'.1 308 = u.1 308) : RP u' n f g := by
  unfold RP at *
  rw [h3, h67, h68, h70]
  exact h
theorem RP_wr {u : uS} {n : Nat} {f g : Int → Int} {a : Nat} {i y : Int} (ha : a = 306 ∨ a = 307) (h : RP u n f g) : RP (wr u a i y) n f g := RP_of h (by rw [wr_ne (by omega)]) (wr_ne (by omega)) (wr_ne (by omega)) (wr_ne (by omega))
theorem RP_43 {u : uS} {n : Nat} {f g : Int → Int} {y : Int} (h : RP u n f g) : RP (wr u 271 43 y) n f g := RP_of h (by rw [wr_1, if_neg (by decide)]) (wr_ne (by decide)) (wr_ne (by decide)) (wr_ne (by decide))
def PR (u : uS) (n : Nat) (f g : Int → Int) (a b : Int) (r : Int) (u' : uS) : Prop := (fdk f g a b n = 2000 ∧ n = 2000 ∧ r = 0 ∧ u' = wr u 271 43 1) ∨ (fdk f g a b n < 2000 ∧ r = (fdk f g a b n : Nat) ∧ RP u' (max n (fdk f g a b n + 1)) (uf f (fdk f g a b n : Nat) a) (uf g (fdk f g a b n : Nat) b) ∧ RPf u u')
def GRm (k : Int) (A B : Ma) (u v : uS) : Prop := GFm u v ∧ ((v.1 271 43 = 0 ∧ ∃ i : Nat, pE 1 k A B i ∧ RP v (pG 1 k A B i).1 (pG 1 k A B i).2.1 (pG 1 k A B i).2.2.1 ∧ (∀ j : Nat, j < i → v.1 306 j = (pG 1 k A B i).2.2.2 j) ∧ ∀ p : Nat, p < (pG 1 k A B i).1 → v.1 307 p = b2 (gdK k A B ((pG 1 k A B i).2.1 p) ((pG 1 k A B i).2.2.1 p))) ∨ (v.1 271 43 = 1 ∧ ∃ i : Nat, plB (goK 1 k A B) (st1 k) (st2 1 k A) i))
/-- the gathering, whatever the heads are called -/
theorem gat_R {k : Int} {A B : Ma} {u : uS} {KR : Nat → uS → Prop} {KL : Nat → Int → Int → Nat → uS → Prop} (hA : okM A) (hB : okM B)
    (HL : ∀ (p c n : Nat) (f g : Int → Int) (a b : Int) (v : uS), GFm u v → RP v n f g → p < n → c < 10 → okK k A B a b → (∀ (r : Int) (u' w : uS), PR v n f g (goK 1 k A B a b c).1 (goK 1 k A B a b c).2 r u' → w = wr u' 306 (10 * (p : Int) + (c : Int)) r → KL p a b (c + 1) w) → KL p a b c v)
    (HE : ∀ (p : Nat) (a b : Int) (v : uS), KR (p + 1) v → KL p a b 10 v)
    (HR : ∀ (p n : Nat) (f g : Int → Int) (v : uS), GFm u v → RP v n f g → p < n → v.1 271 43 = 0 → okK k A B (f p) (g p) → (∀ w : uS, w = wr v 307 p (b2 (gdK k A B (f p) (g p))) → KL p (f p) (g p) 0 w) → KR p v)
    (HX : ∀ (p n : Nat) (f g : Int → Int) (v : uS), GFm u v → RP v n f g → p ≤ 2000 → (v.1 271 43 = 0 ∨ v.1 271 43 = 1) → (n ≤ p ∨ v.1 271 43 = 1) → GRm k A B u v → KR p v)
    {v0 : uS} (h0 : GFm u v0) (h1 : RP v0 1 (fun _ => st1 k) (fun _ => st2 1 k A)) (h2 : v0.1 271 43 = 0) : KR 0 v0 := by
  have hok := plG_good (P := okK k A B) (okK_st hA hB (Or.inr rfl)) (okK_go (as := 1) hA hB)
  have hok : ∀ (i : Nat) (q : Int), okK k A B ((pG 1 k A B i).2.1 q) ((pG 1 k A B i).2.2.1 q) := hok
  -- behind too many: the row is gone through, then all ends
  have tail : ∀ (i0 : Nat), plB (goK 1 k A B) (st1 k) (st2 1 k A) i0 → ∀ (m p c n : Nat) (f g : Int → Int) (a b : Int) (v : uS), c + m = 10 → GFm u v → RP v n f g → p < n → okK k A B a b → v.1 271 43 = 1 → KL p a b c v := by
    intro i0 hB0 m
    induction m with
    | zero =>
      intro p c n f g a b v hm f1 f2 f3 f4 f5
      have ec : c = 10 := by omega
      rw [ec]
      have n2 := f2.1
      exact HE p a b v (HX (p + 1) n f g v f1 f2 (by omega) (Or.inr f5) (Or.inr f5) ⟨f1, Or.inr ⟨f5, i0, hB0⟩⟩)
    | succ m ih =>
      intro p c n f g a b v hm f1 f2 f3 f4 f5
      refine HL p c n f g a b v f1 f2 f3 (by omega) f4 (fun r u' w hP ew => ?_)
      rcases hP with ⟨-, -, -, g4⟩ | ⟨g1, -, g3, g4⟩
      · refine ih p (c + 1) n f g a b w (by omega) ?_ ?_ f3 f4 ?_
        · rw [ew, g4]; exact GF_wr (by decide) (GF_43 (Or.inl rfl) f1)
        · rw [ew, g4]; exact RP_wr (Or.inl rfl) (RP_43 f2)
        · rw [ew, wr_ne (by decide), g4, wr_self]
      · refine ih p (c + 1) _ _ _ a b w (by omega) ?_ (by rw [ew]; exact RP_wr (Or.inl rfl) g3) (by omega) f4 ?_
        · rw [ew]; exact GF_wr (by decide) (GF_trans f1 (RPf_GF g4))
        · rw [ew, wr_ne (by decide), g4.2 271 43 (by decide) (fun _ => by decide)]
          exact f5
  have main : ∀ (m i : Nat) (v : uS), i + m = 20000 → i / 10 < (pG 1 k A B i).1 → plL (goK 1 k A B) (st1 k) (st2 1 k A) i → GFm u v → v.1 271 43 = 0 → RP v (pG 1 k A B i).1 (pG 1 k A B i).2.1 (pG 1 k A B i).2.2.1 → (∀ j : Nat, j < i → v.1 306 j = (pG 1 k A B i).2.2.2 j) → (∀ p : Nat, p ≤ i / 10 → v.1 307 p = b2 (gdK k A B ((pG 1 k A B i).2.1 p) ((pG 1 k A B i).2.2.1 p))) → KL (i / 10) ((pG 1 k A B i).2.1 ((i / 10 : Nat) : Int)) ((pG 1 k A B i).2.2.1 ((i / 10 : Nat) : Int)) (i % 10) v := by
    intro m
    induction m with
    | zero =>
      intro i v hi f1 f2 f3 f4 f5 f6 f7
      have := plL_le f2
      have : (pG 1 k A B i).1 ≤ 2000 := this
      omega
    | succ m ih =>
      intro i v hi f1 f2 f3 f4 f5 f6 f7
      have hn : (pG 1 k A B i).1 ≤ 2000 := plL_le f2
      refine HL (i / 10) (i % 10) _ _ _ _ _ v f3 f5 f1 (by omega) (hok i _) (fun r u' w hP ew => ?_)
      have ej : 10 * ((i / 10 : Nat) : Int) + ((i % 10 : Nat) : Int) = (i : Int) := by omega
      rw [ej] at ew
      have hS : pG 1 k A B (i + 1) = plS (goK 1 k A B) i (pG 1 k A B i) := rfl
      have hkeep := plS_keep (go := goK 1 k A B) i (pG 1 k A B i)
      rw [← hS] at hkeep
      unfold plS plA at hS
      simp only at hS
      have hkk := hok i ((i / 10 : Nat) : Int)
      generalize goK 1 k A B ((pG 1 k A B i).2.1 ((i / 10 : Nat) : Int)) ((pG 1 k A B i).2.2.1 ((i / 10 : Nat) : Int)) ((i % 10 : Nat) : Int) = kk at hS hP
      rcases hP with ⟨g1, g2, g3, g4⟩ | ⟨g1, g2, g3, g4⟩
      · have hBB : plB (goK 1 k A B) (st1 k) (st2 1 k A) i := by
          refine ⟨f2, f1, ?_⟩
          show (pG 1 k A B (i + 1)).1 = 2001
          rw [hS]
          show max (pG 1 k A B i).1 (fdk _ _ _ _ _ + 1) = 2001
          omega
        refine tail i hBB (10 - (i % 10 + 1)) (i / 10) (i % 10 + 1) _ _ _ _ _ w (by omega) ?_ (by rw [ew, g4]; exact RP_wr (Or.inl rfl) (RP_43 f5)) f1 hkk ?_
        · rw [ew, g4]; exact GF_wr (by decide) (GF_43 (Or.inl rfl) f3)
        · rw [ew, wr_ne (by decide), g4, wr_self]
      · generalize hq : fdk (pG 1 k A B i).2.1 (pG 1 k A B i).2.2.1 kk.1 kk.2 (pG 1 k A B i).1 = q at hS g1 g2 g3
        have eN : (pG 1 k A B (i + 1)).1 = max (pG 1 k A B i).1 (q + 1) := by rw [hS]
        have eF : (pG 1 k A B (i + 1)).2.1 = uf (pG 1 k A B i).2.1 (q : Nat) kk.1 := by rw [hS]
        have eG : (pG 1 k A B (i + 1)).2.2.1 = uf (pG 1 k A B i).2.2.1 (q : Nat) kk.2 := by rw [hS]
        have eX : (pG 1 k A B (i + 1)).2.2.2 = uf (pG 1 k A B i).2.2.2 (i : Int) (q : Nat) := by rw [hS]
        have hL : plL (goK 1 k A B) (st1 k) (st2 1 k A) (i + 1) := plL_s f2 f1 (by
          show (pG 1 k A B (i + 1)).1 ≤ 2000
          rw [eN]; omega)
        have wG : GFm u w := by rw [ew]; exact GF_wr (by decide) (GF_trans f3 (RPf_GF g4))
        have w43 : w.1 271 43 = 0 := by
          rw [ew, wr_ne (by decide), g4.2 271 43 (by decide) (fun _ => by decide)]
          exact f4
        have wR : RP w (pG 1 k A B (i + 1)).1 (pG 1 k A B (i + 1)).2.1 (pG 1 k A B (i + 1)).2.2.1 := by
          rw [ew, eN, eF, eG]
          exact RP_wr (Or.inl rfl) g3
        have wX : ∀ j : Nat, j < i + 1 → w.1 306 j = (pG 1 k A B (i + 1)).2.2.2 j := by
          intro j hj
          rw [ew, wr_uf, eX]
          by_cases e : j = i
          · rw [e, uf_eq, uf_eq]; exact g2
          · rw [uf_ne (by omega), uf_ne (by omega)]
            have : u'.1 306 = v.1 306 := funext (fun y => g4.2 306 y (by decide) (fun hh => absurd hh (by decide)))
            rw [this]
            exact f6 j (by omega)
        have w307 : w.1 307 = v.1 307 := by
          rw [ew, wr_ne (by decide)]
          exact funext (fun y => g4.2 307 y (by decide) (fun hh => absurd hh (by decide)))
        have wL : ∀ p : Nat, p ≤ i / 10 → w.1 307 p = b2 (gdK k A B ((pG 1 k A B (i + 1)).2.1 p) ((pG 1 k A B (i + 1)).2.2.1 p)) := by
          intro p hp
          have := hkeep p (by omega)
          rw [w307, this.1, this.2]
          exact f7 p hp
        have hk0 := hkeep (i / 10) f1
        have hmono : (pG 1 k A B i).1 ≤ (pG 1 k A B (i + 1)).1 := by rw [eN]; omega
        by_cases c9 : i % 10 = 9
        · rw [show i % 10 + 1 = 10 by omega]
          refine HE _ _ _ w ?_
          have e1 : i / 10 + 1 = (i + 1) / 10 := by omega
          rw [e1]
          by_cases cn : (i + 1) / 10 < (pG 1 k A B (i + 1)).1
          · refine HR _ _ _ _ w wG wR cn w43 (hok _ _) (fun w2 ew2 => ?_)
            have h0 := ih (i + 1) w2 (by omega) cn hL (by rw [ew2]; exact GF_wr (by decide) wG) (by rw [ew2, wr_ne (by decide)]; exact w43) (by rw [ew2]; exact RP_wr (Or.inr rfl) wR) (fun j hj => by rw [ew2, wr_ne (by decide)]; exact wX j hj) (fun p hp => ?_)
            · rw [show (i + 1) % 10 = 0 by omega] at h0
              exact h0
            · rw [ew2, wr_uf]
              by_cases e : p = (i + 1) / 10
              · rw [e, uf_eq]
              · rw [uf_ne (by omega)]
                exact wL p (by omega)
          · have hEnd : pE 1 k A B (i + 1) := ⟨hL, by show i + 1 = 10 * (pG 1 k A B (i + 1)).1; omega⟩
            refine HX _ _ _ _ w wG wR (by omega) (Or.inl w43) (Or.inl (by omega)) ⟨wG, Or.inl ⟨w43, i + 1, hEnd, wR, wX, fun p hp => wL p ?_⟩⟩
            omega
        · have h0 := ih (i + 1) w (by omega) (by omega) hL wG w43 wR wX (by rw [show (i + 1) / 10 = i / 10 by omega]; exact wL)
          rw [show (i + 1) / 10 = i / 10 by omega, show (i + 1) % 10 = i % 10 + 1 by omega, hk0.1, hk0.2] at h0
          exact h0
  refine HR 0 1 _ _ v0 h0 h1 (by omega) h2 (okK_st hA hB (Or.inr rfl)) (fun w ew => ?_)
  refine main 20000 0 w (by omega) (by show 0 < 1; omega) plL_0 (by rw [ew]; exact GF_wr (by decide) h0) (by rw [ew, wr_ne (by decide)]; exact h2) (by rw [ew]; exact RP_wr (Or.inr rfl) h1) (fun j hj => absurd hj (Nat.not_lt_zero j)) (fun p hp => ?_)
  have e : p = 0 := by omega
  rw [e, ew, wr_uf, uf_eq]
  rfl
