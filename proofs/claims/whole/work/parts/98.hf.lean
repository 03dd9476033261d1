/-! goOver: until nothing is new -/
def stS (S : Int → Int → Int → Int → Prop) (dl : Int → Int → Int) (s o q c : Int) : Prop := if s < 100 then q = dl o s ∧ c = 1 else S o (s - 100) q c
def wyS (S : Int → Int → Int → Int → Prop) (dl : Int → Int → Int) (l : Int → Int) (n : Nat) (p : Int) : Nat → Int → Int → Prop
  | 0 => fun q c => q = p ∧ c = 0
  | k + 1 => fun q c => ∃ o c' c1 : Int, 0 ≤ o ∧ o < n ∧ wyS S dl l n p k o c' ∧ stS S dl (l k) o q c1 ∧ c = sq c' c1
def clR (u : uS) (nr n : Nat) (m : Int) (S : Int → Int → Int → Int → Prop) : Prop := ∀ r p q c : Int, 0 ≤ r → r < nr → iR n p → iR n q → wyS S (dlR u m) (rwR u r) n p (u.1 276 r).toNat q c → S p (u.1 275 r) q c
/-- a tree of this length can be made -/
def dr (u : uS) (nr n : Nat) (m p x q c : Int) : Prop := ∀ S, clR u nr n m S → S p x q c
theorem wyS_mono {S S' : Int → Int → Int → Int → Prop} {dl : Int → Int → Int} {l : Int → Int} {n : Nat} {p : Int} (h : ∀ o x q c, S o x q c → S' o x q c) : ∀ (k : Nat) (q c : Int), wyS S dl l n p k q c → wyS S' dl l n p k q c
  | 0, _, _, w => w
  | k + 1, q, c, ⟨o, c', c1, o0, o1, w, s, e⟩ => by
    refine ⟨o, c', c1, o0, o1, wyS_mono h k o c' w, ?_, e⟩
    unfold stS at s ⊢
    split
    · next z => rw [if_pos z] at s; exact s
    · next z => rw [if_neg z] at s; exact h _ _ _ _ s
theorem dr_cl {u : uS} {nr n : Nat} {m : Int} : clR u nr n m (dr u nr n m) := fun r p q c r0 r1 hp hq w S hS => hS r p q c r0 r1 hp hq (wyS_mono (fun _ _ _ _ h => h S hS) _ _ _ w)
theorem wy_wyS {L H : Int → Int} {dl : Int → Int → Int} {l : Int → Int} {n nv : Nat} {p : Int} {S : Int → Int → Int → Int → Prop} (hS : ∀ o x q, iR n o → iR nv x → iR n q → L (tix o x q) ≠ 6000000000000000000 → S o x q (L (tix o x q))) : ∀ (k : Nat), (∀ i : Nat, i < k → symR nv (l i)) → ∀ q c g, iR n q → wy L H dl l n p k q c g → wyS S dl l n p k q c
  | 0, _, q, c, g, _, h => ⟨h.1, h.2.1⟩
  | k + 1, hl, q, c, g, hq, h => by
    obtain ⟨o, o0, o1, c', g', c1, g1, w, s, e1, e2⟩ := h
    refine ⟨o, c', c1, o0, o1, wy_wyS hS k (fun i hi => hl i (by omega)) o c' g' ⟨o0, o1⟩ w, ?_, e1⟩
    unfold stT at s
    unfold stS
    split
    · next z => rw [if_pos z] at s; exact ⟨s.1, s.2.1⟩
    · next z =>
      rw [if_neg z] at s
      rw [s.2.1]
      have := hl k (by omega)
      exact hS o _ q ⟨o0, o1⟩ (by rcases this with y | y <;> exact ⟨by omega, by omega⟩) hq s.1
theorem wy_le {L H H' : Int → Int} {dl : Int → Int → Int} {l : Int → Int} {n : Nat} {p : Int} (hn : n ≤ 40) (hH : ∀ j : Int, 0 ≤ j → j < 16000 → H' j ≤ H j) : ∀ (k : Nat), (∀ i : Nat, i < k → symR 10 (l i)) → ∀ q c g, iR n q → wy L H dl l n p k q c g → ∃ g', g' ≤ g ∧ wy L H' dl l n p k q c g'
  | 0, _, q, c, g, _, h => ⟨g, Int.le_refl _, h⟩
  | k + 1, hl, q, c, g, hq, h => by
    obtain ⟨o, o0, o1, c', g', c1, g1, w, s, e1, e2⟩ := h
    obtain ⟨g2, h2, w2⟩ := wy_le hn hH k (fun i hi => hl i (by omega)) o c' g' ⟨o0, o1⟩ w
    have hs := hl k (by omega)
    have hq2 := hq.2
    unfold stT at s
    by_cases z : l k < 100
    · rw [if_pos z] at s
      refine ⟨max g2 g1, by omega, o, o0, o1, c', g2, c1, g1, w2, ?_, e1, rfl⟩
      unfold stT
      rw [if_pos z]
      exact s
    · rw [if_neg z] at s
      have hx : 0 ≤ l k - 100 ∧ l k - 100 < 10 := by rcases hs with y | y <;> exact ⟨by omega, by omega⟩
      have ht := tix_R (o := o) (x := l k - 100) (q := q) ⟨o0, by omega⟩ hx ⟨hq.1, by omega⟩
      have := hH _ ht.1 ht.2
      refine ⟨max g2 (H' (tix o (l k - 100) q)), by omega, o, o0, o1, c', g2, c1, _, w2, ?_, e1, rfl⟩
      unfold stT
      rw [if_neg z]
      exact ⟨s.1, s.2.1, rfl⟩
theorem wy_any {L H H' : Int → Int} {dl : Int → Int → Int} {l : Int → Int} {n : Nat} {p : Int} : ∀ (k : Nat) (q c g : Int), wy L H dl l n p k q c g → ∃ g', wy L H' dl l n p k q c g'
  | 0, q, c, g, h => ⟨g, h⟩
  | k + 1, q, c, g, h => by
    obtain ⟨o, o0, o1, c', g', c1, g1, w, s, e1, e2⟩ := h
    obtain ⟨g2, w2⟩ := wy_any (H' := H') k o c' g' w
    unfold stT at s
    by_cases z : l k < 100
    · rw [if_pos z] at s
      refine ⟨max g2 g1, o, o0, o1, c', g2, c1, g1, w2, ?_, e1, rfl⟩
      unfold stT
      rw [if_pos z]
      exact s
    · rw [if_neg z] at s
      refine ⟨max g2 (H' (tix o (l k - 100) q)), o, o0, o1, c', g2, c1, _, w2, ?_, e1, rfl⟩
      unfold stT
      rw [if_neg z]
      exact ⟨s.1, s.2.1, rfl⟩
/-- no rule makes a length less -/
def clL (u : uS) (nr n : Nat) (m : Int) (L H : Int → Int) : Prop := ∀ r p q c g : Int, 0 ≤ r → r < nr → iR n p → iR n q → wy L H (dlR u m) (rwR u r) n p (u.1 276 r).toNat q c g → L (tix p (u.1 275 r) q) ≤ c
/-- no rule makes a height less -/
def clH (u : uS) (nr n : Nat) (m : Int) (L H : Int → Int) : Prop := ∀ r p q g : Int, 0 ≤ r → r < nr → iR n p → iR n q → wy L H (dlR u m) (rwR u r) n p (u.1 276 r).toNat q (L (tix p (u.1 275 r) q)) g → g + 1 ≤ 1000000 → H (tix p (u.1 275 r) q) ≤ g + 1
def atH (u : uS) (nv nr n : Nat) (m : Int) (L H : Int → Int) : Prop := ∀ p x q : Int, iR n p → iR nv x → iR n q → H (tix p x q) = 1000000 ∨ ∃ r g : Int, 0 ≤ r ∧ r < nr ∧ u.1 275 r = x ∧ L (tix p x q) ≠ 6000000000000000000 ∧ wy L H (dlR u m) (rwR u r) n p (u.1 276 r).toNat q (L (tix p x q)) g ∧ g + 1 ≤ H (tix p x q)
def drL (u : uS) (nv nr n : Nat) (m : Int) (L : Int → Int) : Prop := ∀ j : Int, 0 ≤ j → j < 16000 → L j ≠ 6000000000000000000 → ∃ p x q, iR n p ∧ iR nv x ∧ iR n q ∧ j = tix p x q ∧ dr u nr n m p x q (L j)
def Jv (u : uS) (nv nr n : Nat) (m hh : Int) (L H : Int → Int) : Prop := okL L H ∧ drL u nv nr n m L ∧ (hh = 1 → clL u nr n m L H ∧ atH u nv nr n m L H)
def muT (L H : Int → Int) : Nat := sm (fun i => (L (i : Int)).toNat + (H (i : Int)).toNat) 16000
theorem muT_le {L H L' H' : Int → Int} (h : ∀ j : Int, 0 ≤ j → j < 16000 → L' j ≤ L j ∧ H' j ≤ H j) : muT L' H' ≤ muT L H := sm_le _ (fun i hi => by
  have := h i (by omega) (by omega)
  show (L' (i : Int)).toNat + (H' (i : Int)).toNat ≤ (L (i : Int)).toNat + (H (i : Int)).toNat
  omega)
theorem muT_lt {L H L' H' : Int → Int} (h : ∀ j : Int, 0 ≤ j → j < 16000 → L' j ≤ L j ∧ H' j ≤ H j ∧ 0 ≤ L' j ∧ 0 ≤ H' j) (hx : ∃ j : Int, 0 ≤ j ∧ j < 16000 ∧ (L' j < L j ∨ H' j < H j)) : muT L' H' < muT L H := by
  obtain ⟨j, j0, j1, hj⟩ := hx
  refine sm_lt _ (fun i hi => ?_) ⟨j.toNat, by omega, ?_⟩
  · have := h i (by omega) (by omega)
    show (L' (i : Int)).toNat + (H' (i : Int)).toNat ≤ (L (i : Int)).toNat + (H (i : Int)).toNat
    omega
  · have e : ((j.toNat : Nat) : Int) = j := by omega
    have := h j j0 j1
    show (L' ((j.toNat : Nat) : Int)).toNat + (H' ((j.toNat : Nat) : Int)).toNat < (L ((j.toNat : Nat) : Int)).toNat + (H ((j.toNat : Nat) : Int)).toNat
    rw [e]
    omega
theorem okL_nn {L H : Int → Int} (h : okL L H) {j : Int} (j0 : 0 ≤ j) (j1 : j < 16000) : 0 ≤ L j ∧ L j ≤ 6000000000000000000 ∧ 0 ≤ H j ∧ H j ≤ 1000000 := by
  obtain ⟨a, b⟩ := h j j0 j1
  unfold hR at b
  rcases a with z | z
  · unfold cB at z; omega
  · omega
/-- what one rule from one state on does -/
theorem one_Jv {u : uS} {nv nr n : Nat} {m hh r p : Int} {L H L' H' : Int → Int} {wl hq hw lo : Int → Int} (hG : RGc u nv nr n m) (hr0 : 0 ≤ r) (hr1 : r < nr) (hp : iR n p) (hJ : Jv u nv nr n m hh L H) (hB : ∀ q, iR n q → Bst (wy L H (dlR u m) (rwR u r) n p (u.1 276 r).toNat q) (wl q) (hw q) (lo q)) (ehq : ∀ q, hq q = (if wl q = 4000000000000000000 then lo q else hw q) + 1) (hT : TRq L H L' H' p (u.1 275 r) hh wl hq n) : Jv u nv nr n m hh L' H' ∧ ∀ j : Int, 0 ≤ j → j < 16000 → L' j ≤ L j ∧ H' j ≤ H j ∧ 0 ≤ L' j ∧ 0 ≤ H' j := by
  obtain ⟨g1, g2, g3, g4, g5, g6, g7, g8, g9⟩ := id hG
  obtain ⟨x1, x2, x3, x4⟩ := g4 r hr0 hr1
  obtain ⟨j1, j2, j3⟩ := hJ
  have hsz : (((u.1 276 r).toNat : Nat) : Int) = u.1 276 r := by omega
  have hsy : ∀ i : Nat, i < (u.1 276 r).toNat → symR nv (rwR u r i) := fun i hi => x4 i (by omega) (by omega)
  have hrg : ∀ q, iR n q → lR (wl q) ∧ 1 ≤ hq q := fun q hqR => by
    obtain ⟨b1, b2, b3, b4, -⟩ := hB q hqR
    unfold hR at b3 b4
    refine ⟨b2, ?_⟩
    rw [ehq]
    split <;> omega
  have hdr : ∀ o x q, iR n o → iR nv x → iR n q → L (tix o x q) ≠ 6000000000000000000 → dr u nr n m o x q (L (tix o x q)) := fun o x q ho hx hq' hne => by
    have h1 := ho.1
    have h2 := ho.2
    have h3 := hx.1
    have h4 := hx.2
    have h5 := hq'.1
    have h6 := hq'.2
    have ht := tix_R (o := o) (x := x) (q := q) ⟨h1, by omega⟩ ⟨h3, by omega⟩ ⟨h5, by omega⟩
    obtain ⟨p', x', q', a1, a2, a3, a4, a5⟩ := j2 _ ht.1 ht.2 hne
    have b1 := a2.1
    have b2 := a2.2
    have b3 := a3.1
    have b4 := a3.2
    obtain ⟨e1, e2, e3⟩ := tix_inj ⟨h3, by omega⟩ ⟨h5, by omega⟩ ⟨b1, by omega⟩ ⟨b3, by omega⟩ a4
    rw [e1, e2, e3] at a5 ⊢
    exact a5
  have hok : ∀ j : Int, 0 ≤ j → j < 16000 → (lR (L' j) ∧ hR (H' j)) ∧ L' j ≤ L j ∧ H' j ≤ H j := fun j j0 j1' => by
    obtain ⟨k1, k2⟩ := j1 j j0 j1'
    rcases hT j with ⟨z1, z2⟩ | ⟨q, q0, q1, e, ⟨-, z1, z2, z3⟩ | ⟨-, z1, z2, z3, z4, z5, z6⟩⟩
    · rw [z1, z2]; exact ⟨⟨k1, k2⟩, Int.le_refl _, Int.le_refl _⟩
    · rw [z1, z3]; exact ⟨⟨(hrg q ⟨q0, q1⟩).1, k2⟩, by omega, Int.le_refl _⟩
    · have := (hrg q ⟨q0, q1⟩).2
      rw [z1, z4]; exact ⟨⟨k1, by omega, by omega⟩, Int.le_refl _, by omega⟩
  have hok2 : okL L' H' := fun j j0 j1' => (hok j j0 j1').1
  refine ⟨⟨hok2, ?_, ?_⟩, fun j j0 j1' => ?_⟩
  · intro j j0 j1' hne
    rcases hT j with ⟨z1, z2⟩ | ⟨q, q0, q1, e, ⟨-, z1, z2, z3⟩ | ⟨-, z1, z2, z3, z4, z5, z6⟩⟩
    · rw [z1] at hne ⊢
      exact j2 j j0 j1' hne
    · obtain ⟨b1, b2, b3, b4, b5, b6, -⟩ := hB q ⟨q0, q1⟩
      refine ⟨p, u.1 275 r, q, hp, x1, ⟨q0, q1⟩, e, ?_⟩
      rw [z1] at hne ⊢
      rcases b6 with y | ⟨g, y⟩
      · exact absurd y hne
      · exact dr_cl r p q (wl q) hr0 hr1 hp ⟨q0, q1⟩ (wy_wyS hdr _ hsy q (wl q) g ⟨q0, q1⟩ y)
    · rw [z1] at hne ⊢
      exact j2 j j0 j1' hne
  · intro h1
    obtain ⟨k1, k2⟩ := j3 h1
    have hLL : L' = L := by
      funext j
      rcases hT j with ⟨z1, z2⟩ | ⟨q, q0, q1, e, ⟨y, z1, z2, z3⟩ | ⟨-, z1, z2, z3, z4, z5, z6⟩⟩
      · exact z1
      · omega
      · exact z1
    have hsy10 : ∀ r : Int, 0 ≤ r → r < nr → ∀ i : Nat, i < (u.1 276 r).toNat → symR 10 (rwR u r i) := fun r r0 r1 i hi => by
      obtain ⟨y1, y2, y3, y4⟩ := g4 r r0 r1
      exact symR10 g1 (y4 i (by omega) (by omega))
    have hHle : ∀ j : Int, 0 ≤ j → j < 16000 → H' j ≤ H j := fun j j0 j1' => (hok j j0 j1').2.2
    rw [hLL]
    refine ⟨fun r' p' q' c g a b hp' hq' w => ?_, fun p' x' q' hp' hx' hq' => ?_⟩
    · obtain ⟨g', w'⟩ := wy_any (H' := H) _ _ _ _ w
      exact k1 r' p' q' c g' a b hp' hq' w'
    · have conv : ∀ (r'' g : Int), 0 ≤ r'' → r'' < nr → u.1 275 r'' = x' → L (tix p' x' q') ≠ 6000000000000000000 → wy L H (dlR u m) (rwR u r'') n p' (u.1 276 r'').toNat q' (L (tix p' x' q')) g → g + 1 ≤ H' (tix p' x' q') → H' (tix p' x' q') = 1000000 ∨ ∃ r g : Int, 0 ≤ r ∧ r < nr ∧ u.1 275 r = x' ∧ L (tix p' x' q') ≠ 6000000000000000000 ∧ wy L H' (dlR u m) (rwR u r) n p' (u.1 276 r).toNat q' (L (tix p' x' q')) g ∧ g + 1 ≤ H' (tix p' x' q') := by
        intro r'' g a b e hne w hle
        obtain ⟨g', y1, y2⟩ := wy_le g6 hHle _ (hsy10 r'' a b) q' _ g hq' w
        exact Or.inr ⟨r'', g', a, b, e, hne, y2, by omega⟩
      rcases hT (tix p' x' q') with ⟨z1, z2⟩ | ⟨q, q0, q1, e, ⟨y, z1, z2, z3⟩ | ⟨-, z1, z2, z3, z4, z5, z6⟩⟩
      · rcases k2 p' x' q' hp' hx' hq' with y | ⟨r'', g, a, b, e, hne, w, hle⟩
        · exact Or.inl (by rw [z2]; exact y)
        · exact conv r'' g a b e hne w (by rw [z2]; exact hle)
      · omega
      · have h3 := hx'.1
        have h4 := hx'.2
        have h5 := hq'.1
        have h6 := hq'.2
        have h7 := x1.1
        have h8 := x1.2
        obtain ⟨e1, e2, e3⟩ := tix_inj ⟨h3, by omega⟩ ⟨h5, by omega⟩ ⟨h7, by omega⟩ ⟨q0, by omega⟩ e
        obtain ⟨b1, b2, b3, b4, b5, b6, b7, b8, b9⟩ := hB q ⟨q0, q1⟩
        have hc := lR_c b2 z2
        have eh := ehq q
        have way : ∃ g, wy L H (dlR u m) (rwR u r) n p (u.1 276 r).toNat q (wl q) g ∧ g + 1 = hq q := by
          by_cases hm : wl q = 4000000000000000000
          · rw [if_pos hm] at eh
            rcases b9 with y | ⟨c, y⟩
            · omega
            · have c1 := b5 c _ y
              have c2 := (b1 c _ y).1.2
              have ec : c = wl q := by omega
              rw [ec] at y
              exact ⟨lo q, y, by omega⟩
          · rw [if_neg hm] at eh
            have := hc.2
            exact ⟨hw q, (b7 (by omega)).1, by omega⟩
        obtain ⟨g, w, eg⟩ := way
        rw [z3] at w
        rw [← e1, ← e3] at w
        exact conv r g hr0 hr1 e2.symm (by rw [← z3]; exact z2) w (by omega)
  · obtain ⟨y1, y2, y3⟩ := hok j j0 j1'
    have := okL_nn hok2 j0 j1'
    exact ⟨y2, y3, this.1, this.2.2.1⟩
