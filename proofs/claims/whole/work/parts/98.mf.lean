/-! Places that no word tells apart -/
theorem ph_inj (m N : Nat) (f : Nat → Nat) (hr : ∀ i, i < m → f i < N) (hi : ∀ i j, i < j → j < m → f i ≠ f j) : m ≤ N := by
  have hinv : ∀ i : Nat, ∃ a : Nat, (∃ b, b < m ∧ f b = i) → a < m ∧ f a = i := by
    intro i
    by_cases h : ∃ b, b < m ∧ f b = i
    · obtain ⟨b, hb⟩ := h
      exact ⟨b, fun _ => hb⟩
    · exact ⟨0, fun hh => absurd hh h⟩
  obtain ⟨inv, hinv⟩ := Classical.axiomOfChoice hinv
  have := ct_onto N m (fun _ => true) inv (fun a ha _ => ⟨f a, hr a ha, by
    obtain ⟨h1, h2⟩ := hinv (f a) ⟨a, ha, rfl⟩
    by_cases c : inv (f a) < a
    · exact absurd h2 (hi _ _ c ha)
    · by_cases c2 : a < inv (f a)
      · exact absurd h2.symm (hi _ _ c2 h1)
      · omega⟩)
  rw [ct_all m (fun _ _ => rfl)] at this
  exact this
theorem ph_le (m N : Nat) (f : Nat → Nat) (ho : ∀ a, a < N → ∃ i, i < m ∧ f i = a) : N ≤ m := by
  have := ct_onto m N (fun _ => true) f (fun a ha _ => ho a ha)
  rw [ct_all N (fun _ _ => rfl)] at this
  exact this
theorem ph_onto (m N : Nat) (f : Nat → Nat) (ho : ∀ a, a < N → ∃ i, i < m ∧ f i = a) (hm : m ≤ N) : ∀ i j, i < j → j < m → f i ≠ f j := by
  intro i j h1 h2 e
  have := ph_le (m - 1) N (fun x => if x < j then f x else f (x + 1)) (fun a ha => by
    obtain ⟨y, y1, y2⟩ := ho a ha
    by_cases c : y < j
    · exact ⟨y, by omega, by show (if y < j then f y else f (y + 1)) = a; rw [if_pos c]; exact y2⟩
    · by_cases c2 : y = j
      · refine ⟨i, by omega, ?_⟩
        show (if i < j then f i else f (i + 1)) = a
        rw [if_pos h1, e, ← c2]
        exact y2
      · refine ⟨y - 1, by omega, ?_⟩
        show (if y - 1 < j then f (y - 1) else f (y - 1 + 1)) = a
        rw [if_neg (by omega), show y - 1 + 1 = y by omega]
        exact y2)
  omega
def nxt (x : Int → Int) (p c : Nat) : Nat := (x ((10 * p + c : Nat) : Int)).toNat
def bis (gd : Nat → Bool) (x : Int → Int) (R : Nat → Nat → Prop) : Prop := ∀ p q, R p q → gd p = gd q ∧ ∀ c, c < 10 → R (nxt x p c) (nxt x q c)
def nE (gd : Nat → Bool) (x : Int → Int) (p q : Nat) : Prop := ∃ R, bis gd x R ∧ R p q
section
variable {gd : Nat → Bool} {x : Int → Int}
theorem nE_refl (p : Nat) : nE gd x p p := ⟨fun a b => a = b, fun _ _ e => ⟨by rw [e], fun c _ => by rw [e]⟩, rfl⟩
theorem nE_symm {p q : Nat} (h : nE gd x p q) : nE gd x q p := by
  obtain ⟨R, h1, h2⟩ := h
  exact ⟨fun a b => R b a, fun a b e => ⟨(h1 b a e).1.symm, (h1 b a e).2⟩, h2⟩
theorem nE_trans {p q r : Nat} (h : nE gd x p q) (h' : nE gd x q r) : nE gd x p r := by
  obtain ⟨R, h1, h2⟩ := h
  obtain ⟨R', h1', h2'⟩ := h'
  exact ⟨fun a b => ∃ o, R a o ∧ R' o b, fun a b ⟨o, e1, e2⟩ => ⟨(h1 a o e1).1.trans (h1' o b e2).1, fun c hc => ⟨_, (h1 a o e1).2 c hc, (h1' o b e2).2 c hc⟩⟩, q, h2, h2'⟩
theorem nE_gd {p q : Nat} (h : nE gd x p q) : gd p = gd q := by
  obtain ⟨R, h1, h2⟩ := h
  exact (h1 p q h2).1
theorem nE_go {p q c : Nat} (h : nE gd x p q) (hc : c < 10) : nE gd x (nxt x p c) (nxt x q c) := by
  obtain ⟨R, h1, h2⟩ := h
  exact ⟨R, h1, (h1 p q h2).2 c hc⟩
end
/-- a division of P places into n groups -/
def prt (P : Nat) (gr : Nat → Nat) (n : Nat) : Prop := (∀ p, p < P → gr p < n) ∧ ∀ k, k < n → ∃ p, p < P ∧ gr p = k
theorem prt_map {P n n' : Nat} {gr gr' : Nat → Nat} (h : prt P gr n) (h' : prt P gr' n') (hf : ∀ p q, p < P → q < P → gr' p = gr' q → gr p = gr q) : ∃ f : Nat → Nat, (∀ p, p < P → f (gr' p) = gr p) ∧ ∀ a, a < n → ∃ i, i < n' ∧ f i = a := by
  have : ∀ k : Nat, ∃ y : Nat, ∀ p, p < P → gr' p = k → gr p = y := by
    intro k
    by_cases c : ∃ p, p < P ∧ gr' p = k
    · obtain ⟨p, p1, p2⟩ := c
      exact ⟨gr p, fun q q1 q2 => hf q p q1 p1 (q2.trans p2.symm)⟩
    · exact ⟨0, fun q q1 q2 => absurd ⟨q, q1, q2⟩ c⟩
  obtain ⟨f, hff⟩ := Classical.axiomOfChoice this
  refine ⟨f, fun p hp => (hff (gr' p) p hp rfl).symm, fun a ha => ?_⟩
  obtain ⟨p, p1, p2⟩ := h.2 a ha
  exact ⟨gr' p, h'.1 p p1, by rw [← hff (gr' p) p p1 rfl]; exact p2⟩
theorem prt_le {P n n' : Nat} {gr gr' : Nat → Nat} (h : prt P gr n) (h' : prt P gr' n') (hf : ∀ p q, p < P → q < P → gr' p = gr' q → gr p = gr q) : n ≤ n' := by
  obtain ⟨f, -, h2⟩ := prt_map h h' hf
  exact ph_le n' n f h2
theorem prt_eq {P n : Nat} {gr gr' : Nat → Nat} (h : prt P gr n) (h' : prt P gr' n) (hf : ∀ p q, p < P → q < P → gr' p = gr' q → gr p = gr q) : ∀ p q, p < P → q < P → gr p = gr q → gr' p = gr' q := by
  obtain ⟨f, h1, h2⟩ := prt_map h h' hf
  have hi := ph_onto n n f h2 (Nat.le_refl _)
  intro p q hp hq e
  rw [← h1 p hp, ← h1 q hq] at e
  have a1 := h'.1 p hp
  have a2 := h'.1 q hq
  by_cases c : gr' p < gr' q
  · exact absurd e (hi _ _ c a2)
  · by_cases c2 : gr' q < gr' p
    · exact absurd e.symm (hi _ _ c2 a1)
    · omega
/-- more than forty places that some word tells apart -/
def D41 (gd : Nat → Bool) (x : Int → Int) (P : Nat) : Prop := ∃ ch : Nat → Nat, (∀ i, i < 41 → ch i < P) ∧ ∀ i j, i < j → j < 41 → ¬ nE gd x (ch i) (ch j)
/-- the last division -/
def FPt (gd : Nat → Bool) (x : Int → Int) (P : Nat) (gr : Nat → Nat) (n : Nat) : Prop := n ≤ 40 ∧ prt P gr n ∧ ∀ p q, p < P → q < P → (gr p = gr q ↔ nE gd x p q)
theorem FPt_41 {gd : Nat → Bool} {x : Int → Int} {P n : Nat} {gr : Nat → Nat} (h : FPt gd x P gr n) : ¬ D41 gd x P := by
  rintro ⟨ch, h1, h2⟩
  have := ph_inj 41 n (fun i => gr (ch i)) (fun i hi => h.2.1.1 _ (h1 i hi)) (fun i j hij hj e => h2 i j hij hj ((h.2.2 _ _ (h1 i (by omega)) (h1 j hj)).mp e))
  have := h.1
  omega
/-- one round by one letter -/
def rnd (x : Int → Int) (P : Nat) (gr gr' : Nat → Nat) (C : Nat → Prop) : Prop := ∀ p q, p < P → q < P → (gr' p = gr' q ↔ gr p = gr q ∧ ∀ c, c < 10 → C c → gr (nxt x p c) = gr (nxt x q c))
/-- divisions on the way: no finer than the last, and not too coarse -/
def wayP (gd : Nat → Bool) (x : Int → Int) (P : Nat) (gr : Nat → Nat) : Prop := (∀ p q, p < P → q < P → nE gd x p q → gr p = gr q) ∧ ∀ p q, p < P → q < P → gr p = gr q → gd p = gd q
theorem wayP_s {gd : Nat → Bool} {x : Int → Int} {P : Nat} {gr gr' : Nat → Nat} {C : Nat → Prop} (hx : ∀ p c, p < P → c < 10 → nxt x p c < P) (h : wayP gd x P gr) (hr : rnd x P gr gr' C) : wayP gd x P gr' := ⟨fun p q hp hq e => (hr p q hp hq).mpr ⟨h.1 p q hp hq e, fun c hc _ => h.1 _ _ (hx p c hp hc) (hx q c hq hc) (nE_go e hc)⟩, fun p q hp hq e => h.2 p q hp hq ((hr p q hp hq).mp e).1⟩
theorem wayP_end {gd : Nat → Bool} {x : Int → Int} {P n : Nat} {gr : Nat → Nat} (hx : ∀ p c, p < P → c < 10 → nxt x p c < P) (h : wayP gd x P gr) (hn : n ≤ 40) (hp : prt P gr n) (hs : ∀ c, c < 10 → ∀ p q, p < P → q < P → gr p = gr q → gr (nxt x p c) = gr (nxt x q c)) : FPt gd x P gr n := by
  refine ⟨hn, hp, fun p q h1 h2 => ⟨fun e => ?_, h.1 p q h1 h2⟩⟩
  exact ⟨fun a b => a < P ∧ b < P ∧ gr a = gr b, fun a b ⟨a1, a2, a3⟩ => ⟨h.2 a b a1 a2 a3, fun c hc => ⟨hx a c a1 hc, hx b c a2 hc, hs c hc a b a1 a2 a3⟩⟩, h1, h2, e⟩
/-- the first of the places that no word tells from p -/
noncomputable def cnr (gd : Nat → Bool) (x : Int → Int) (P p : Nat) : Nat := by
  classical
  exact fdk (fun q => if nE gd x q.toNat p then 1 else 0) (fun _ => 0) 1 0 P
theorem cnr_spec (gd : Nat → Bool) (x : Int → Int) {P p : Nat} (hp : p < P) : cnr gd x P p < P ∧ nE gd x (cnr gd x P p) p := by
  classical
  have hlt : cnr gd x P p < P := by
    have h0 := fdk_le (fun q => if nE gd x q.toNat p then (1 : Int) else 0) (fun _ => 0) 1 0 P
    by_cases c : cnr gd x P p < P
    · exact c
    · unfold cnr at c
      have := fdk_no (f := fun q => if nE gd x q.toNat p then (1 : Int) else 0) (g := fun _ => 0) (a := 1) (b := 0) (n := P) (q := p) (by omega)
      exact absurd ⟨if_pos (nE_refl p), rfl⟩ this
  refine ⟨hlt, ?_⟩
  have := (fdk_hit (f := fun q => if nE gd x q.toNat p then (1 : Int) else 0) (g := fun _ => 0) (a := 1) (b := 0) (n := P) hlt).1
  by_cases c : nE gd x (cnr gd x P p) p
  · exact c
  · unfold cnr at c
    simp only [Int.toNat_natCast] at this
    rw [if_neg c] at this
    omega
theorem cnr_eq {gd : Nat → Bool} {x : Int → Int} {P p q : Nat} (h : nE gd x p q) : cnr gd x P p = cnr gd x P q := by
  unfold cnr
  refine fdk_congr (fun r _ => ⟨?_, rfl⟩)
  by_cases c : nE gd x ((r : Int).toNat) p
  · exact (if_pos c).trans (if_pos (nE_trans c h)).symm
  · exact (if_neg c).trans (if_neg (fun hh => c (nE_trans hh (nE_symm h)))).symm
theorem cnr_iff {gd : Nat → Bool} {x : Int → Int} {P p q : Nat} (hp : p < P) (hq : q < P) : cnr gd x P p = cnr gd x P q ↔ nE gd x p q := ⟨fun e => nE_trans (nE_symm (cnr_spec gd x hp).2) (by rw [e]; exact (cnr_spec gd x hq).2), cnr_eq⟩
/-- the numbering of the groups, as letters come to them -/
noncomputable def nuG (gd : Nat → Bool) (x : Int → Int) (P : Nat) : Nat → Pt := plG (fun a _ c => ((cnr gd x P (nxt x a.toNat c.toNat) : Nat), 0)) (cnr gd x P 0 : Nat) 0
def nuE (gd : Nat → Bool) (x : Int → Int) (P i : Nat) : Prop := plE (fun a _ c => ((cnr gd x P (nxt x a.toNat c.toNat) : Nat), 0)) (cnr gd x P 0 : Nat) 0 i
noncomputable def nuM (gd : Nat → Bool) (x : Int → Int) (P i : Nat) : Nat × (Int → Int → Int) × (Nat → Bool) := ((nuG gd x P i).1, fun s c => (nuG gd x P i).2.2.2 (10 * s + c), fun s => decide (s < (nuG gd x P i).1) && gd ((nuG gd x P i).2.1 (s : Nat)).toNat)
theorem nuE_uniq {gd : Nat → Bool} {x : Int → Int} {P i j : Nat} (hi : nuE gd x P i) (hj : nuE gd x P j) : i = j := plE_uniq hi hj
/-- all that a numbering comes to are chosen places -/
theorem nuG_key {gd : Nat → Bool} {x : Int → Int} {P : Nat} (hP : 0 < P) (hx : ∀ p c, p < P → c < 10 → nxt x p c < P) (i : Nat) (q : Int) : (0 ≤ (nuG gd x P i).2.1 q ∧ (nuG gd x P i).2.1 q < P ∧ cnr gd x P ((nuG gd x P i).2.1 q).toNat = ((nuG gd x P i).2.1 q).toNat) ∧ (nuG gd x P i).2.2.1 q = 0 := by
  have hcn : ∀ p, p < P → cnr gd x P (cnr gd x P p) = cnr gd x P p := fun p hp => cnr_eq (cnr_spec gd x hp).2
  refine plG_good (P := fun a b => (0 ≤ a ∧ a < P ∧ cnr gd x P a.toNat = a.toNat) ∧ b = 0) ⟨⟨by omega, ?_, ?_⟩, rfl⟩ (fun a b c h c0 c1 => ?_) i q
  · have := (cnr_spec gd x hP).1
    omega
  · rw [Int.toNat_natCast]
    exact hcn 0 hP
  · have h1 : nxt x a.toNat c.toNat < P := hx _ _ (by omega) (by omega)
    have := (cnr_spec gd x h1).1
    refine ⟨⟨by simp only; omega, by simp only; omega, ?_⟩, rfl⟩
    simp only
    rw [Int.toNat_natCast]
    exact hcn _ h1
/-- there are no more numbers than groups -/
theorem nuG_le {gd : Nat → Bool} {x : Int → Int} {P n : Nat} {gr : Nat → Nat} (hP : 0 < P) (hx : ∀ p c, p < P → c < 10 → nxt x p c < P) (hF : FPt gd x P gr n) (i : Nat) : (nuG gd x P i).1 ≤ n := by
  refine ph_inj _ n (fun s => gr ((nuG gd x P i).2.1 (s : Nat)).toNat) (fun s _ => hF.2.1.1 _ ?_) (fun s t h1 h2 e => ?_)
  · have := (nuG_key (gd := gd) hP hx i s).1
    omega
  · have k1 := nuG_key (gd := gd) hP hx i s
    have k2 := nuG_key (gd := gd) hP hx i t
    have e2 := (hF.2.2 _ _ (by omega) (by omega)).mp e
    have e3 := cnr_eq (P := P) e2
    rw [k1.1.2.2, k2.1.2.2] at e3
    refine plG_diff i h1 h2 ⟨?_, ?_⟩
    · show (nuG gd x P i).2.1 s = (nuG gd x P i).2.1 t
      omega
    · show (nuG gd x P i).2.2.1 s = (nuG gd x P i).2.2.1 t
      rw [k1.2, k2.2]
