/-! Machines, sets of states, the five ways of going on; one side's gathering -/
theorem b2f : b2 false = 0 := rfl
/-- how many states, the steps, which are last -/
abbrev Ma := Nat × (Int → Int → Int) × (Nat → Bool)
def okM (m : Ma) : Prop := 1 ≤ m.1 ∧ m.1 ≤ 40 ∧ (∀ s c : Int, iR m.1 s → 0 ≤ c → c < 10 → iR m.1 (m.2.1 s c)) ∧ ∀ i : Nat, m.2.2 i = true → i < m.1
def cMa (u : uS) (p : Nat) (m : Ma) : Prop := u.1 p 0 = m.1 ∧ (∀ s c : Int, iR m.1 s → 0 ≤ c → c < 10 → u.1 (p + 1) (s * 10 + c) = m.2.1 s c) ∧ rL (u.1 p 1) ∧ ∀ i : Nat, bt (u.1 p 1) i = m.2.2 i
def rMa (u : uS) (k : Int) (m : Ma) : Prop := u.1 301 k = m.1 ∧ (∀ s c : Int, iR m.1 s → 0 ≤ c → c < 10 → u.1 302 (400 * k + 10 * s + c) = m.2.1 s c) ∧ ∀ s : Int, iR m.1 s → u.1 303 (40 * k + s) = b2 (m.2.2 s.toNat)
/-- a set of states -/
def sX (m : Ma) (X : Int) : Prop := rL X ∧ ∀ i : Nat, bt X i = true → i < m.1
def ahd (m : Ma) (X c : Int) : Nat → Int
  | 0 => 0
  | s + 1 => lor (ahd m X c s) (if bt X s = true then lshl 1 (m.2.1 (s : Int) c) else 0)
def aft (m : Ma) (X c : Int) : Int := ahd m X c m.1
theorem ahd_r (m : Ma) (X c : Int) : ∀ s : Nat, rL (ahd m X c s)
  | 0 => ⟨by show (_ : Int) ≤ 0; omega, by show (0 : Int) < _; omega⟩
  | _ + 1 => rl_lor _ _
theorem ahd_bt {m : Ma} (hm : okM m) {X c : Int} (hc : 0 ≤ c ∧ c < 10) : ∀ (s : Nat), s ≤ m.1 → ∀ i : Nat, (bt (ahd m X c s) i = true ↔ ∃ o : Nat, o < s ∧ bt X o = true ∧ m.2.1 (o : Int) c = (i : Int))
  | 0, _, i => by
    show bt 0 i = true ↔ _
    rw [bt_0]
    constructor
    · intro h; cases h
    · rintro ⟨o, ho, -⟩; omega
  | s + 1, hs, i => by
    show bt (lor _ _) i = true ↔ _
    rw [bt_lor, Bool.or_eq_true, ahd_bt hm hc s (by omega) i]
    have hr := hm.2.2.1 s c ⟨by omega, by omega⟩ hc.1 hc.2
    have h40 := hm.2.1
    by_cases hb : bt X s = true
    · rw [if_pos hb, bt_bit hr.1 (by have := hr.2; omega), decide_eq_true_eq]
      constructor
      · rintro (⟨o, o1, o2, o3⟩ | h)
        · exact ⟨o, by omega, o2, o3⟩
        · exact ⟨s, by omega, hb, by have := hr.1; omega⟩
      · rintro ⟨o, o1, o2, o3⟩
        by_cases e : o = s
        · rw [e] at o3
          exact Or.inr (by omega)
        · exact Or.inl ⟨o, by omega, o2, o3⟩
    · rw [if_neg hb, bt_0]
      constructor
      · rintro (⟨o, o1, o2, o3⟩ | h)
        · exact ⟨o, by omega, o2, o3⟩
        · cases h
      · rintro ⟨o, o1, o2, o3⟩
        by_cases e : o = s
        · rw [e] at o2
          exact absurd o2 hb
        · exact Or.inl ⟨o, by omega, o2, o3⟩
theorem aft_sX {m : Ma} (hm : okM m) {X c : Int} (hc : 0 ≤ c ∧ c < 10) : sX m (aft m X c) := by
  refine ⟨ahd_r m X c _, fun i hi => ?_⟩
  obtain ⟨o, o1, -, o3⟩ := (ahd_bt hm hc m.1 (Nat.le_refl _) i).mp hi
  have := hm.2.2.1 o c ⟨by omega, by omega⟩ hc.1 hc.2
  have := this.2
  omega
def hlr (m : Ma) (X : Int) : Nat → Bool
  | 0 => false
  | s + 1 => hlr m X s || (bt X s && m.2.2 s)
def hlA (m : Ma) (X : Int) : Bool := hlr m X m.1
theorem hlr_iff (m : Ma) (X : Int) : ∀ s : Nat, (hlr m X s = true ↔ ∃ o : Nat, o < s ∧ bt X o = true ∧ m.2.2 o = true)
  | 0 => by
    constructor
    · intro h; cases h
    · rintro ⟨o, ho, -⟩; omega
  | s + 1 => by
    show (hlr m X s || (bt X s && m.2.2 s)) = true ↔ _
    rw [Bool.or_eq_true, hlr_iff m X s, Bool.and_eq_true]
    constructor
    · rintro (⟨o, o1, o2⟩ | h)
      · exact ⟨o, by omega, o2⟩
      · exact ⟨s, by omega, h⟩
    · rintro ⟨o, o1, o2⟩
      by_cases e : o = s
      · rw [e] at o2
        exact Or.inr o2
      · exact Or.inl ⟨o, by omega, o2⟩
theorem land_hl {m : Ma} (hm : okM m) {X L : Int} (hL : ∀ i : Nat, bt L i = m.2.2 i) : land X L = 0 ↔ hlA m X = false := by
  constructor
  · intro h
    cases hh : hlA m X with
    | false => rfl
    | true =>
      obtain ⟨o, o1, o2, o3⟩ := (hlr_iff m X m.1).mp hh
      exact (land_z h o o2 (by rw [hL]; exact o3)).elim
  · intro h
    refine bt_ext (rl_land _ _) ⟨by omega, by omega⟩ (fun i _ => ?_)
    rw [bt_0, bt_land, hL]
    cases hb : (bt X i && m.2.2 i) with
    | false => rfl
    | true =>
      rw [Bool.and_eq_true] at hb
      have : hlA m X = true := (hlr_iff m X m.1).mpr ⟨i, hm.2.2.2 i hb.2, hb.1, hb.2⟩
      rw [h] at this
      cases this
/-- going on: of one side (as: 0), of the other (as: 1) -/
def goX (as : Int) (A : Ma) (a b : Int) : Int := if as = 0 ∧ a = 1 then 1 else b
def goK (as k : Int) (A B : Ma) (a b c : Int) : Int × Int := if k = 0 ∨ k = 1 then (A.2.1 a c, B.2.1 b c) else if k = 2 then (A.2.1 a c, lor (aft B b c) (b2 (A.2.2 (A.2.1 a c).toNat))) else (0, lor (aft A (goX as A a b) c) (b2 (hlA A (aft A (goX as A a b) c))))
def gdK (k : Int) (A B : Ma) (a b : Int) : Bool := if k = 0 then A.2.2 a.toNat || B.2.2 b.toNat else if k = 1 then A.2.2 a.toNat && B.2.2 b.toNat else if k = 2 then hlA B b else decide (a = 1) || hlA A b
def st1 (k : Int) : Int := if k = 4 then 1 else 0
def st2 (as k : Int) (A : Ma) : Int := if k = 2 then b2 (A.2.2 0) else if k = 3 then 1 else if k = 4 then as else 0
/-- keys that may come -/
def okK (k : Int) (A B : Ma) (a b : Int) : Prop := if k = 0 ∨ k = 1 then iR A.1 a ∧ iR B.1 b else if k = 2 then iR A.1 a ∧ sX B b else (a = 0 ∨ a = 1) ∧ sX A b
theorem sX_0 (m : Ma) : sX m 0 := ⟨⟨by omega, by omega⟩, fun i h => by rw [bt_0] at h; cases h⟩
theorem sX_1 {m : Ma} (hm : okM m) : sX m 1 := ⟨⟨by omega, by omega⟩, fun i h => by
  rw [bt_1, decide_eq_true_eq] at h
  have := hm.1
  omega⟩
theorem sX_b {m : Ma} (hm : okM m) (b : Bool) : sX m (b2 b) := by
  cases b with
  | false => exact sX_0 m
  | true => exact sX_1 hm
theorem sX_or {m : Ma} {X Y : Int} (h1 : sX m X) (h2 : sX m Y) : sX m (lor X Y) := ⟨rl_lor _ _, fun i h => by
  rw [bt_lor, Bool.or_eq_true] at h
  rcases h with h | h
  · exact h1.2 i h
  · exact h2.2 i h⟩
theorem okK_st {as k : Int} {A B : Ma} (hA : okM A) (hB : okM B) (has : as = 0 ∨ as = 1) : okK k A B (st1 k) (st2 as k A) := by
  have a1 := hA.1
  have b1 := hB.1
  unfold okK st1 st2
  by_cases c0 : k = 0 ∨ k = 1
  · rw [if_pos c0, if_neg (by omega), if_neg (by omega), if_neg (by omega), if_neg (by omega)]
    exact ⟨⟨by omega, by omega⟩, by omega, by omega⟩
  · rw [if_neg c0]
    by_cases c2 : k = 2
    · rw [if_pos c2, if_pos c2, if_neg (by omega)]
      exact ⟨⟨by omega, by omega⟩, sX_b hB _⟩
    · rw [if_neg c2, if_neg c2]
      by_cases c3 : k = 3
      · rw [if_pos c3, if_neg (by omega)]
        exact ⟨Or.inl rfl, sX_1 hA⟩
      · rw [if_neg c3]
        by_cases c4 : k = 4
        · rw [if_pos c4, if_pos c4]
          refine ⟨Or.inr rfl, ?_⟩
          rcases has with h | h
          · rw [h]; exact sX_0 A
          · rw [h]; exact sX_1 hA
        · rw [if_neg c4, if_neg c4]
          exact ⟨Or.inl rfl, sX_0 A⟩
theorem okK_go {as k : Int} {A B : Ma} (hA : okM A) (hB : okM B) (a b c : Int) (h : okK k A B a b) (c0 : 0 ≤ c) (c1 : c < 10) : okK k A B (goK as k A B a b c).1 (goK as k A B a b c).2 := by
  unfold okK goK at *
  by_cases k0 : k = 0 ∨ k = 1
  · rw [if_pos k0] at h ⊢
    rw [if_pos k0]
    exact ⟨hA.2.2.1 a c h.1 c0 c1, hB.2.2.1 b c h.2 c0 c1⟩
  · rw [if_neg k0] at h ⊢
    rw [if_neg k0]
    by_cases k2 : k = 2
    · rw [if_pos k2] at h ⊢
      rw [if_pos k2]
      exact ⟨hA.2.2.1 a c h.1 c0 c1, sX_or (aft_sX hB ⟨c0, c1⟩) (sX_b hB _)⟩
    · rw [if_neg k2] at h ⊢
      rw [if_neg k2]
      exact ⟨Or.inl rfl, sX_or (aft_sX hA ⟨c0, c1⟩) (sX_b hA _)⟩
theorem okK_r {k : Int} {A B : Ma} {a b : Int} (hA : okM A) (hB : okM B) (h : okK k A B a b) : rI a ∧ rL b := by
  have a2 := hA.2.1
  have b2 := hB.2.1
  unfold okK at h
  by_cases k0 : k = 0 ∨ k = 1
  · rw [if_pos k0] at h
    obtain ⟨⟨h1, h2⟩, h3, h4⟩ := h
    exact ⟨⟨by omega, by omega⟩, by omega, by omega⟩
  · rw [if_neg k0] at h
    by_cases k2 : k = 2
    · rw [if_pos k2] at h
      obtain ⟨⟨h1, h2⟩, h3⟩ := h
      exact ⟨⟨by omega, by omega⟩, h3.1⟩
    · rw [if_neg k2] at h
      refine ⟨?_, h.2.1⟩
      have := h.1
      exact ⟨by omega, by omega⟩
/-- a set's followers, on one side -/
theorem q_76 {d mk : Nat} {u : uS} {m : Ma} {c X : Int} (hO : isO mk 5) (hm : okM m) (hu : cMa u mk m) (hc : 0 ≤ c ∧ c < 10) (hX : sX m X) : cL (d + 3) 76 [.ref mk, lV X, iV c] u (fun r u' => u' = u ∧ r = aft m X c) := by
  refine (p_76 (d := d) (n := m.1) (S := fun s => bt X s.toNat = true) hO hm.2.1 hc (fun s hs => ?_) ⟨hX.1, fun i => ?_⟩).mono (Nat.le_refl _) (fun r u' h => ⟨h.1, ?_⟩)
  · rw [hu.2.1 s c hs hc.1 hc.2]
    exact hm.2.2.1 s c hs hc.1 hc.2
  · show bt X i = true ↔ ((i : Int) < m.1 ∧ bt X ((i : Int).toNat) = true)
    rw [Int.toNat_natCast]
    constructor
    · intro hh
      have := hX.2 i hh
      exact ⟨by omega, hh⟩
    · exact fun hh => hh.2
  · refine bt_ext h.2.1 (ahd_r m X c _) (fun i _ => ?_)
    have h1 := h.2.2 i
    have h2 := ahd_bt hm (X := X) hc m.1 (Nat.le_refl _) i
    have h3 : bt r i = true ↔ bt (aft m X c) i = true := by
      rw [h1]
      refine Iff.trans ?_ h2.symm
      constructor
      · rintro ⟨i1, o, o1, o2, o3⟩
        have e : ((o.toNat : Nat) : Int) = o := by have := o1.1; omega
        rw [hu.2.1 o c o1 hc.1 hc.2] at o3
        exact ⟨o.toNat, by have := o1.1; have := o1.2; omega, o2, by rw [e]; exact o3⟩
      · rintro ⟨o, o1, o2, o3⟩
        have hr := hm.2.2.1 o c ⟨by omega, by omega⟩ hc.1 hc.2
        rw [o3] at hr
        refine ⟨hr.2, (o : Int), ⟨by omega, by omega⟩, by rw [Int.toNat_natCast]; exact o2, ?_⟩
        rw [hu.2.1 o c ⟨by omega, by omega⟩ hc.1 hc.2]
        exact o3
    cases hb : bt (aft m X c) i with
    | true => exact h3.mpr hb
    | false =>
      cases hb2 : bt r i with
      | false => rfl
      | true =>
        rw [h3.mp hb2] at hb
        cases hb
theorem last_if {m : Ma} {u : uS} {p : Nat} {s : Int} (hm : okM m) (hu : cMa u p m) (hs : iR m.1 s) : land (lushr (u.1 p 1) s) 1 = b2 (m.2.2 s.toNat) := by
  have := hm.2.1
  have := hs.2
  rw [bit_l hs.1 (by omega), hu.2.2.2]
  rfl
/-- what the maker works on -/
def mkH (u : uS) (k : Int) (A B : Ma) : Prop := ∃ lp rp : Nat, isO lp 5 ∧ isO rp 5 ∧ 77 < lp ∧ 77 < rp ∧ u.1 64 0 = k ∧ 0 ≤ k ∧ k ≤ 4 ∧ u.2 64 1 = lp ∧ u.2 64 2 = rp ∧ cMa u lp A ∧ cMa u rp B ∧ okM A ∧ okM B
def PP (u : uS) (n : Nat) (f g : Int → Int) (a b : Int) (r : Int) (u' : uS) : Prop := (fdk f g a b n = 2000 ∧ n = 2000 ∧ r = 0 ∧ u' = wr u 64 4 1) ∨ (fdk f g a b n < 2000 ∧ r = (fdk f g a b n : Nat) ∧ CP u' (max n (fdk f g a b n + 1)) (uf f (fdk f g a b n : Nat) a) (uf g (fdk f g a b n : Nat) b) ∧ CPf u u')
set_option maxRecDepth 4000 in
theorem p_74 {d n : Nat} {u : uS} {f g : Int → Int} {k a b c : Int} {A B : Ma} (hH : mkH u k A B) (hc : CP u n f g) (hk : okK k A B a b) (c0 : 0 ≤ c) (c1 : c < 10) : cI (d + 4) 74 [.ref 64, iV a, lV b, iV c] u (fun r u' => PP u n f g (goK 0 k A B a b c).1 (goK 0 k A B a b c).2 r u') := by
  obtain ⟨lp, rp, ol, or, l77, r77, k0, k1, k2, e1, e2, mA, mB, hA, hB⟩ := hH
  have hgo := okK_r hA hB (okK_go (as := 0) hA hB a b c hk c0 c1)
  have call : ∀ x y : Int, (x, y) = goK 0 k A B a b c → cI (d + 3) 72 [.ref 64, iV x, lV y] u (fun r u' => PP u n f g (goK 0 k A B a b c).1 (goK 0 k A B a b c).2 r u') := by
    intro x y e
    rw [← e] at hgo ⊢
    exact p_72 (d := d + 1) hc hgo.1 hgo.2
  have a40 := hA.2.1
  have b40 := hB.2.1
  refine e_74 (d := d + 2) ⟨⟨by omega, by omega⟩, ?_⟩
  rw [k0]
  unfold okK at hk
  have steps : iR A.1 a ∧ iR B.1 b → goK 0 k A B a b c = (A.2.1 a c, B.2.1 b c) → (isO (u.2 64 1) 5) ∧ ((0 ≤ (a * 10) + c) ∧ (((a * 10) + c < 400) ∧ ((isO (u.2 64 2) 5) ∧ ((0 ≤ ((wI b) * 10) + c) ∧ ((((wI b) * 10) + c < 400) ∧ ((rI (u.1 ((u.2 64 2) + 1) (((wI b) * 10) + c))) ∧ (cI (d + 3) 72 [.ref 64, iV (u.1 ((u.2 64 1) + 1) ((a * 10) + c)), lV (u.1 ((u.2 64 2) + 1) (((wI b) * 10) + c))] u (fun r u' => PP u n f g (goK 0 k A B a b c).1 (goK 0 k A B a b c).2 r u')))))))) := by
    intro hk e
    obtain ⟨⟨h1, h2⟩, h3, h4⟩ := hk
    have hr := hB.2.2.1 b c ⟨h3, h4⟩ c0 c1
    have hr1 := hr.1
    have hr2 := hr.2
    rw [e1, e2, wI_eq ⟨by omega, by omega⟩, mB.2.1 b c ⟨h3, h4⟩ c0 c1, mA.2.1 a c ⟨h1, h2⟩ c0 c1]
    exact ⟨ol, by omega, by omega, or, by omega, by omega, ⟨by omega, by omega⟩, call _ _ e.symm⟩
  by_cases d0 : k = 0
  · rw [if_pos d0]
    rw [if_pos (Or.inl d0)] at hk
    exact steps hk (by unfold goK; rw [if_pos (Or.inl d0)])
  · rw [if_neg d0]
    by_cases d1 : k = 1
    · rw [if_pos d1]
      rw [if_pos (Or.inr d1)] at hk
      exact steps hk (by unfold goK; rw [if_pos (Or.inr d1)])
    · rw [if_neg d1]
      rw [if_neg (by omega)] at hk
      by_cases d2 : k = 2
      · rw [if_pos d2]
        rw [if_pos d2] at hk
        obtain ⟨⟨h1, h2⟩, h3⟩ := hk
        have eg : goK 0 k A B a b c = (A.2.1 a c, lor (aft B b c) (b2 (A.2.2 (A.2.1 a c).toNat))) := by
          unfold goK
          rw [if_neg (by omega), if_pos d2]
        have hr := hA.2.2.1 a c ⟨h1, h2⟩ c0 c1
        rw [e1, mA.2.1 a c ⟨h1, h2⟩ c0 c1, last_if hA mA hr, e2]
        refine ⟨ol, by omega, by omega, ?_⟩
        cases hb : A.2.2 (A.2.1 a c).toNat with
        | false =>
          rw [if_pos b2f]
          refine (q_76 (d := d) or hB mB ⟨c0, c1⟩ h3).mono (Nat.le_refl _) (fun r u' h => ?_)
          rw [h.1, h.2]
          exact call _ _ (by rw [eg, hb]; rfl)
        | true =>
          rw [if_neg (by decide)]
          refine (q_76 (d := d) or hB mB ⟨c0, c1⟩ h3).mono (Nat.le_refl _) (fun r u' h => ?_)
          rw [h.1, h.2]
          exact call _ _ (by rw [eg, hb]; rfl)
      · rw [if_neg d2]
        rw [if_neg d2] at hk
        obtain ⟨h1, h3⟩ := hk
        have eg : goK 0 k A B a b c = (0, lor (aft A (goX 0 A a b) c) (b2 (hlA A (aft A (goX 0 A a b) c)))) := by
          unfold goK
          rw [if_neg (by omega), if_neg d2]
        have fin : ∀ X : Int, X = goX 0 A a b → sX A X → cL (d + 3) 76 [.ref (u.2 64 1), lV X, iV c] u (fun r38 u37 => (isO (u37.2 64 1) 5) ∧ (if land r38 (u37.1 (u37.2 64 1) 1) = 0 then (cI (d + 3) 72 [.ref 64, iV 0, lV (lor r38 0)] u37 (fun r42 u41 => PP u n f g (goK 0 k A B a b c).1 (goK 0 k A B a b c).2 r42 u41)) else (cI (d + 3) 72 [.ref 64, iV 0, lV (lor r38 1)] u37 (fun r42 u41 => PP u n f g (goK 0 k A B a b c).1 (goK 0 k A B a b c).2 r42 u41)))) := by
          intro X eX hX
          rw [e1]
          refine (q_76 (d := d) ol hA mA ⟨c0, c1⟩ hX).mono (Nat.le_refl _) (fun r u' h => ?_)
          rw [h.1, h.2, e1]
          refine ⟨ol, ?_⟩
          have hl := land_hl hA (X := aft A X c) mA.2.2.2
          cases hb : hlA A (aft A X c) with
          | false =>
            rw [if_pos (hl.mpr hb)]
            exact call _ _ (by rw [eg, ← eX, hb]; rfl)
          | true =>
            rw [if_neg (fun hh => by rw [hl.mp hh] at hb; cases hb)]
            exact call _ _ (by rw [eg, ← eX, hb]; rfl)
        refine ⟨⟨by omega, by omega⟩, ?_⟩
        by_cases da : a = 1
        · rw [if_pos da]
          exact fin 1 (by unfold goX; rw [if_pos ⟨rfl, da⟩]) (sX_1 hA)
        · rw [if_neg da]
          exact fin b (by unfold goX; rw [if_neg (fun hh => da hh.2)]) h3
set_option maxRecDepth 4000 in
theorem p_80 {d : Nat} {u : uS} {k p a b : Int} {A B : Ma} (hH : mkH u k A B) (p0 : 0 ≤ p) (p1 : p < 2000) (ha : u.1 67 p = a) (hb : u.1 68 p = b) (hk : okK k A B a b) : cI (d + 2) 80 [.ref 64, iV p] u (fun r u' => u' = u ∧ r = b2 (gdK k A B a b)) := by
  obtain ⟨lp, rp, ol, or, l77, r77, k0, k1, k2, e1, e2, mA, mB, hA, hB⟩ := hH
  have hr := okK_r hA hB hk
  have a40 := hA.2.1
  have b40 := hB.2.1
  refine e_80 ⟨p0, p1, ⟨by omega, by omega⟩, ?_⟩
  rw [k0, e1, e2, ha, hb]
  unfold okK at hk
  unfold gdK
  by_cases d0 : k = 0
  · rw [if_pos d0]
    rw [if_pos (Or.inl d0)] at hk
    have h3 := hk.2.1
    have h4 := hk.2.2
    rw [wI_eq ⟨by omega, by omega⟩, last_if hA mA hk.1, last_if hB mB hk.2, if_pos d0]
    refine ⟨ol, ?_⟩
    cases A.2.2 a.toNat with
    | true => rw [if_neg (by decide)]; exact ⟨rfl, rfl⟩
    | false =>
      rw [if_pos b2f]
      refine ⟨or, ?_⟩
      cases B.2.2 b.toNat with
      | true => rw [if_neg (by decide)]; exact ⟨rfl, rfl⟩
      | false => rw [if_pos b2f]; exact ⟨rfl, rfl⟩
  · rw [if_neg d0, if_neg d0]
    by_cases d1 : k = 1
    · rw [if_pos d1]
      rw [if_pos (Or.inr d1)] at hk
      have h3 := hk.2.1
      have h4 := hk.2.2
      rw [wI_eq ⟨by omega, by omega⟩, last_if hA mA hk.1, last_if hB mB hk.2, if_pos d1]
      refine ⟨ol, ?_⟩
      cases A.2.2 a.toNat with
      | false => rw [if_pos b2f]; exact ⟨rfl, rfl⟩
      | true =>
        rw [if_neg (by decide)]
        refine ⟨or, ?_⟩
        cases B.2.2 b.toNat with
        | true => rw [if_neg (by decide)]; exact ⟨rfl, rfl⟩
        | false => rw [if_pos b2f]; exact ⟨rfl, rfl⟩
    · rw [if_neg d1, if_neg d1]
      by_cases d2 : k = 2
      · rw [if_pos d2, if_pos d2]
        refine ⟨or, ?_⟩
        have hl := land_hl hB (X := b) mB.2.2.2
        cases hb2 : hlA B b with
        | false => rw [if_pos (hl.mpr hb2)]; exact ⟨rfl, rfl⟩
        | true => rw [if_neg (fun hh => by rw [hl.mp hh] at hb2; cases hb2)]; exact ⟨rfl, rfl⟩
      · rw [if_neg d2, if_neg d2]
        refine ⟨hr.1, ?_⟩
        by_cases da : a = 1
        · rw [if_pos da, decide_eq_true da]
          exact ⟨rfl, rfl⟩
        · rw [if_neg da, decide_eq_false da]
          refine ⟨ol, ?_⟩
          have hl := land_hl hA (X := b) mA.2.2.2
          cases hb2 : hlA A b with
          | false => rw [if_pos (hl.mpr hb2)]; exact ⟨rfl, rfl⟩
          | true => rw [if_neg (fun hh => by rw [hl.mp hh] at hb2; cases hb2)]; exact ⟨rfl, rfl⟩
