/-! Ways through a rule: the least length, the least height among the shortest, the least height of all -/
def cB (c : Int) : Prop := 0 ≤ c ∧ c ≤ 4000000000000000000
def hR (g : Int) : Prop := 0 ≤ g ∧ g ≤ 1000000
def lR (c : Int) : Prop := cB c ∨ c = 6000000000000000000
def sq (a b : Int) : Int := min 4000000000000000000 (a + b)
theorem sq_R {a b : Int} (ha : cB a) (hb : cB b) : cB (sq a b) := by
  unfold cB at *
  unfold sq
  omega
theorem pl_sq {a b : Int} (ha : cB a) (hb : cB b) : pl 5000000000000000000 a b = sq a b := by
  unfold cB at *
  unfold pl sq
  rw [if_neg (by omega)]
theorem cB_cn {a : Int} (ha : cB a) : cn 5000000000000000000 a := Or.inr ha
theorem lR_c {a : Int} (h : lR a) (hn : a ≠ 6000000000000000000) : cB a := by
  rcases h with q | q
  · exact q
  · exact absurd q hn
theorem lR_L {a : Int} (h : lR a) : rL a := by
  rcases h with q | q
  · unfold cB at q
    exact ⟨by omega, by omega⟩
  · rw [q]
    exact ⟨by omega, by omega⟩
theorem hR_I {a : Int} (h : hR a) : rI a := by
  unfold hR at h
  exact ⟨by omega, by omega⟩
def Bst (W : Int → Int → Prop) (l h lo : Int) : Prop :=
  (∀ c g, W c g → cB c ∧ hR g) ∧ lR l ∧ hR h ∧ hR lo ∧ (∀ c g, W c g → l ≤ c) ∧ (l = 6000000000000000000 ∨ ∃ g, W l g) ∧ (l < 4000000000000000000 → W l h ∧ ∀ g, W l g → h ≤ g) ∧ (∀ c g, W c g → lo ≤ g) ∧ (lo = 1000000 ∨ ∃ c, W c lo)
theorem bst_congr {W W' : Int → Int → Prop} {l h lo : Int} (b : Bst W l h lo) (e : ∀ c g, W c g ↔ W' c g) : Bst W' l h lo := by
  have : W = W' := by
    funext c g
    exact propext (e c g)
  rw [← this]
  exact b
theorem bst_emp : Bst (fun _ _ => False) 6000000000000000000 0 1000000 :=
  ⟨fun _ _ h => h.elim, Or.inr rfl, ⟨by omega, by omega⟩, ⟨by omega, by omega⟩, fun _ _ h => h.elim, Or.inl rfl, fun h => by omega, fun _ _ h => h.elim, Or.inl rfl⟩
theorem bst_one : Bst (fun c g => c = 0 ∧ g = 0) 0 0 0 := by
  refine ⟨fun c g h => ?_, Or.inl ⟨by omega, by omega⟩, ⟨by omega, by omega⟩, ⟨by omega, by omega⟩, fun c g h => by omega, Or.inr ⟨0, rfl, rfl⟩, fun _ => ⟨⟨rfl, rfl⟩, fun g h => by omega⟩, fun c g h => by omega, Or.inr ⟨0, rfl, rfl⟩⟩
  rw [h.1, h.2]
  exact ⟨⟨by omega, by omega⟩, ⟨by omega, by omega⟩⟩
theorem bst_step {W : Int → Int → Prop} {l h lo c1 g1 : Int} (b : Bst W l h lo) (hl : l ≠ 6000000000000000000) (hc : cB c1) (hg : hR g1) : Bst (fun c g => ∃ c' g', W c' g' ∧ c = sq c' c1 ∧ g = max g' g1) (sq l c1) (max h g1) (max lo g1) := by
  obtain ⟨b1, b2, b3, b4, b5, b6, b7, b8, b9⟩ := b
  have hlc := lR_c b2 hl
  have hsl := sq_R hlc hc
  obtain ⟨g0, hg0⟩ : ∃ g, W l g := by
    rcases b6 with q | q
    · exact absurd q hl
    · exact q
  unfold hR at b3 b4 hg
  refine ⟨?_, Or.inl hsl, ⟨by omega, by omega⟩, ⟨by omega, by omega⟩, ?_, Or.inr ⟨max g0 g1, l, g0, hg0, rfl, rfl⟩, ?_, ?_, ?_⟩
  · rintro c g ⟨c', g', w, e1, e2⟩
    have h2 := (b1 c' g' w).2
    unfold hR at h2
    rw [e1, e2]
    exact ⟨sq_R (b1 c' g' w).1 hc, by omega, by omega⟩
  · rintro c g ⟨c', g', w, e1, e2⟩
    have := b5 c' g' w
    rw [e1]
    unfold sq
    omega
  · intro hm
    have hlt : l < 4000000000000000000 := by unfold sq at hm; unfold cB at hc; omega
    obtain ⟨w1, w2⟩ := b7 hlt
    refine ⟨⟨l, h, w1, rfl, rfl⟩, ?_⟩
    rintro g ⟨c', g', w, e1, e2⟩
    have h1 := (b1 c' g' w).1
    have e : c' = l := by
      unfold sq at hm e1
      unfold cB at h1 hlc hc
      omega
    rw [e] at w
    have := w2 g' w
    omega
  · rintro c g ⟨c', g', w, e1, e2⟩
    have := b8 c' g' w
    omega
  · refine Or.inr ?_
    rcases b9 with q | ⟨c, q⟩
    · have h1 := b8 l g0 hg0
      have h2 := (b1 l g0 hg0).2
      unfold hR at h2
      exact ⟨sq l c1, l, g0, hg0, rfl, by omega⟩
    · exact ⟨sq c c1, c, lo, q, rfl, rfl⟩
theorem bst_join {W1 W2 : Int → Int → Prop} {l1 h1 o1 l2 h2 o2 l h o : Int} (b1 : Bst W1 l1 h1 o1) (b2 : Bst W2 l2 h2 o2) (hn : l2 ≠ 6000000000000000000) (ho : o = min o2 o1) (hy : (l2 < l1 ∨ l2 = l1 ∧ h2 < h1) → l = l2 ∧ h = h2) (hx : ¬ (l2 < l1 ∨ l2 = l1 ∧ h2 < h1) → l = l1 ∧ h = h1) : Bst (fun c g => W1 c g ∨ W2 c g) l h o := by
  obtain ⟨a1, a2, a3, a4, a5, a6, a7, a8, a9⟩ := b1
  obtain ⟨c1, c2, c3, c4, c5, c6, c7, c8, c9⟩ := b2
  have hc := lR_c c2 hn
  unfold hR at a4 c4
  unfold cB at hc
  have hoR : hR o := ⟨by omega, by omega⟩
  have hrg : ∀ c g, W1 c g ∨ W2 c g → cB c ∧ hR g := by
    rintro c g (w | w)
    · exact a1 c g w
    · exact c1 c g w
  have hol : ∀ c g, W1 c g ∨ W2 c g → o ≤ g := by
    rintro c g (w | w)
    · have := a8 c g w; omega
    · have := c8 c g w; omega
  have hoa : o = 1000000 ∨ ∃ c, W1 c o ∨ W2 c o := by
    rcases Int.le_total o1 o2 with q | q
    · have e : o = o1 := by omega
      rw [e]
      rcases a9 with z | ⟨c, z⟩
      · exact Or.inl z
      · exact Or.inr ⟨c, Or.inl z⟩
    · have e : o = o2 := by omega
      rw [e]
      rcases c9 with z | ⟨c, z⟩
      · exact Or.inl z
      · exact Or.inr ⟨c, Or.inr z⟩
  by_cases hk : l2 < l1 ∨ l2 = l1 ∧ h2 < h1
  · obtain ⟨e1, e2⟩ := hy hk
    rw [e1, e2]
    refine ⟨hrg, c2, c3, hoR, ?_, ?_, ?_, hol, hoa⟩
    · rintro c g (w | w)
      · have := a5 c g w; omega
      · exact c5 c g w
    · rcases c6 with z | ⟨g, z⟩
      · exact Or.inl z
      · exact Or.inr ⟨g, Or.inr z⟩
    · intro hm
      obtain ⟨w1, w2⟩ := c7 hm
      refine ⟨Or.inr w1, ?_⟩
      rintro g (w | w)
      · have h3 := a5 _ _ w
        have e3 : l1 = l2 := by omega
        have h4 := (a7 (by omega)).2 g (by rw [e3]; exact w)
        omega
      · exact w2 g w
  · obtain ⟨e1, e2⟩ := hx hk
    rw [e1, e2]
    refine ⟨hrg, a2, a3, hoR, ?_, ?_, ?_, hol, hoa⟩
    · rintro c g (w | w)
      · exact a5 c g w
      · have := c5 c g w; omega
    · rcases a6 with z | ⟨g, z⟩
      · exact Or.inl z
      · exact Or.inr ⟨g, Or.inl z⟩
    · intro hm
      obtain ⟨w1, w2⟩ := a7 hm
      refine ⟨Or.inl w1, ?_⟩
      rintro g (w | w)
      · exact w2 g w
      · have h3 := c5 _ _ w
        have e3 : l2 = l1 := by omega
        have h4 := (c7 (by omega)).2 g (by rw [e3]; exact w)
        omega
def viaW (W : Int → Int → Int → Prop) (St : Int → Int → Int → Int → Prop) (o q c g : Int) : Prop := ∃ c' g' c1 g1, W o c' g' ∧ St o q c1 g1 ∧ c = sq c' c1 ∧ g = max g' g1
def uptoW (W : Int → Int → Int → Prop) (St : Int → Int → Int → Int → Prop) (m q c g : Int) : Prop := ∃ o, 0 ≤ o ∧ o < m ∧ viaW W St o q c g
def tix (o x q : Int) : Int := (10 * o + x) * 40 + q
def stT (L H : Int → Int) (dl : Int → Int → Int) (s o q c g : Int) : Prop := if s < 100 then q = dl o s ∧ c = 1 ∧ g = 0 else L (tix o (s - 100) q) ≠ 6000000000000000000 ∧ c = L (tix o (s - 100) q) ∧ g = H (tix o (s - 100) q)
/-- ways through the first k symbols: where one stands, how long, how high -/
def wy (L H : Int → Int) (dl : Int → Int → Int) (l : Int → Int) (n : Nat) (p : Int) : Nat → Int → Int → Int → Prop
  | 0 => fun q c g => q = p ∧ c = 0 ∧ g = 0
  | k + 1 => uptoW (wy L H dl l n p k) (stT L H dl (l k)) n
theorem uptoW_succ {W : Int → Int → Int → Prop} {St : Int → Int → Int → Int → Prop} {m q c g : Int} (hm : 0 ≤ m) : uptoW W St (m + 1) q c g ↔ uptoW W St m q c g ∨ viaW W St m q c g := by
  constructor
  · rintro ⟨o, o0, o1, h⟩
    by_cases e : o = m
    · rw [e] at h; exact Or.inr h
    · exact Or.inl ⟨o, o0, by omega, h⟩
  · rintro (⟨o, o0, o1, h⟩ | h)
    · exact ⟨o, o0, by omega, h⟩
    · exact ⟨m, hm, by omega, h⟩
theorem uptoW_0 {W : Int → Int → Int → Prop} {St : Int → Int → Int → Int → Prop} {q c g : Int} : uptoW W St 0 q c g ↔ False := by
  constructor
  · rintro ⟨o, o0, o1, h⟩
    omega
  · exact fun h => h.elim
def okL (L H : Int → Int) : Prop := ∀ j : Int, 0 ≤ j → j < 16000 → lR (L j) ∧ hR (H j)
theorem tix_R {o x q : Int} (ho : 0 ≤ o ∧ o < 40) (hx : 0 ≤ x ∧ x < 10) (hq : 0 ≤ q ∧ q < 40) : 0 ≤ tix o x q ∧ tix o x q < 16000 := by
  unfold tix
  omega
theorem tix_inj {o x q o' x' q' : Int} (hx : 0 ≤ x ∧ x < 10) (hq : 0 ≤ q ∧ q < 40) (hx' : 0 ≤ x' ∧ x' < 10) (hq' : 0 ≤ q' ∧ q' < 40) (h : tix o x q = tix o' x' q') : o = o' ∧ x = x' ∧ q = q' := by
  unfold tix at h
  omega
/-- what a step adds is within bounds -/
theorem stT_R {L H : Int → Int} {dl : Int → Int → Int} {s o q c g : Int} (hk : okL L H) (hs : symR 10 s) (ho : 0 ≤ o ∧ o < 40) (hq : 0 ≤ q ∧ q < 40) (h : stT L H dl s o q c g) : cB c ∧ hR g := by
  unfold stT at h
  split at h
  · rw [h.2.1, h.2.2]
    exact ⟨⟨by omega, by omega⟩, ⟨by omega, by omega⟩⟩
  · next h2 =>
    have hx : 0 ≤ s - 100 ∧ s - 100 < 10 := by
      rcases hs with z | z <;> omega
    have ht := tix_R ho hx hq
    obtain ⟨k1, k2⟩ := hk _ ht.1 ht.2
    rw [h.2.1, h.2.2]
    exact ⟨lR_c k1 h.1, k2⟩
theorem wy_R {L H : Int → Int} {dl : Int → Int → Int} {l : Int → Int} {n : Nat} {p : Int} (hk : okL L H) (hn : n ≤ 40) : ∀ (k : Nat), (∀ i : Nat, i < k → symR 10 (l i)) → ∀ q c g, iR n q → wy L H dl l n p k q c g → cB c ∧ hR g
  | 0, _, q, c, g, _, h => by
    obtain ⟨-, e1, e2⟩ := h
    rw [e1, e2]
    exact ⟨⟨by omega, by omega⟩, ⟨by omega, by omega⟩⟩
  | k + 1, hl, q, c, g, hq, h => by
    obtain ⟨o, o0, o1, c', g', c1, g1, w, s, e1, e2⟩ := h
    have hq2 := hq.2
    obtain ⟨r1, r2⟩ := wy_R hk hn k (fun i hi => hl i (by omega)) o c' g' ⟨o0, o1⟩ w
    obtain ⟨r3, r4⟩ := stT_R hk (hl k (by omega)) ⟨o0, by omega⟩ ⟨hq.1, by omega⟩ s
    rw [e1, e2]
    unfold hR at r2 r4
    exact ⟨sq_R r1 r3, by omega, by omega⟩
