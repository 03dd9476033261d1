/-! Triples that stand in trees: the rows and the queue of the first side -/
def suf (F : Int → Int → Int → Prop) (dl : Int → Int → Int) (l : Int → Int) (n : Nat) (q sz : Int) : Nat → Int → Prop
  | 0 => fun o => o = q
  | j + 1 => fun o => ∃ o', iR n o' ∧ suf F dl l n q sz j o' ∧ (if l (sz - ((j : Int) + 1)) < 100 then dl o (l (sz - ((j : Int) + 1))) = o' else F (l (sz - ((j : Int) + 1)) - 100) o o')
theorem ct_upd {p p' : Nat → Bool} {j : Nat} : ∀ n : Nat, j < n → (∀ i, i < n → i ≠ j → p' i = p i) → p j = false → p' j = true → ct p' n = ct p n + 1
  | 0, h, _, _, _ => absurd h (Nat.not_lt_zero _)
  | n + 1, h, he, h0, h1 => by
    simp only [ct]
    by_cases e : j = n
    · have : ct p' n = ct p n := ct_ext n (fun i hi => by rw [he i (by omega) (by omega)])
      rw [← e, h0, h1]
      rw [← e] at this
      rw [this]
      simp
    · rw [ct_upd n (by omega) (fun i hi hne => he i (by omega) hne) h0 h1, he n (by omega) (by omega)]
      omega
def flg (v : uS) (a : Nat) : Nat → Bool := fun i => decide (v.1 (a + 16) (i : Int) ≠ 0)
def QI (v : uS) (a nv n : Nat) : Prop := (0 ≤ v.1 a 8 ∧ v.1 a 8 < 400) ∧ v.1 a 9 = (ct (flg v a) 400 : Nat) ∧ (∀ j : Int, 0 ≤ j → j < 400 → v.1 (a + 16) j = 0 ∨ v.1 (a + 16) j = 1) ∧ (∀ j : Int, 0 ≤ j → j < 400 → v.1 (a + 16) j = 1 → ∃ x o, iR nv x ∧ iR n o ∧ j = x * 40 + o) ∧ (∀ i : Int, 0 ≤ i → i < v.1 a 9 → 0 ≤ v.1 (a + 15) ((v.1 a 8 + i) % 400) ∧ v.1 (a + 15) ((v.1 a 8 + i) % 400) < 400 ∧ v.1 (a + 16) (v.1 (a + 15) ((v.1 a 8 + i) % 400)) = 1) ∧ (∀ i j : Int, 0 ≤ i → i < j → j < v.1 a 9 → v.1 (a + 15) ((v.1 a 8 + i) % 400) ≠ v.1 (a + 15) ((v.1 a 8 + j) % 400)) ∧ okF nv n (v.1 (a + 14))
abbrev Fs (v : uS) (a nv n : Nat) : Int → Int → Int → Prop := Fg nv n (v.1 (a + 14))
def GRw (v w : uS) (a nv n : Nat) : Prop := w.2 = v.2 ∧ sb1 v w [a, a + 13, a + 14, a + 15, a + 16] ∧ (∀ i : Int, i ≠ 9 → w.1 a i = v.1 a i) ∧ QI w a nv n ∧ (∀ (j : Int) (i : Nat), bt (v.1 (a + 14) j) i = true → bt (w.1 (a + 14) j) i = true) ∧ (∀ j : Int, w.1 (a + 16) j = 0 → v.1 (a + 16) j = 0 ∧ w.1 (a + 14) j = v.1 (a + 14) j) ∧ (ctG (v.1 (a + 14)) : Int) + w.1 a 9 ≤ (ctG (w.1 (a + 14)) : Int) + v.1 a 9
theorem GRw_refl {v : uS} {a nv n : Nat} (h : QI v a nv n) : GRw v v a nv n := ⟨rfl, sb1_refl _ _, fun _ _ => rfl, h, fun _ _ h => h, fun _ h => ⟨h, rfl⟩, Int.le_refl _⟩
theorem GRw_trans {v w z : uS} {a nv n : Nat} (h : GRw v w a nv n) (h' : GRw w z a nv n) : GRw v z a nv n := by
  obtain ⟨a1, a2, a3, a4, a5, a6, a7⟩ := h
  obtain ⟨b1, b2, b3, b4, b5, b6, b7⟩ := h'
  refine ⟨b1.trans a1, fun b hb => (b2 b hb).trans (a2 b hb), fun i hi => (b3 i hi).trans (a3 i hi), b4, fun j i q => b5 j i (a5 j i q), fun j q => ?_, by omega⟩
  obtain ⟨c1, c2⟩ := b6 j q
  obtain ⟨c3, c4⟩ := a6 j c1
  exact ⟨c3, c2.trans c4⟩
theorem GRw_Fs {v w : uS} {a nv n : Nat} (h : GRw v w a nv n) {x o q : Int} (hf : Fs v a nv n x o q) : Fs w a nv n x o q := ⟨hf.1, hf.2.1, hf.2.2.1, h.2.2.2.2.1 _ _ hf.2.2.2⟩
theorem p_193 {d a nv n : Nat} {v : uS} {x o X : Int} {E : Int → Prop} (hO : isO a 9) (ha : a = 193 ∨ a = 212) (hv : nv ≤ 10) (hn : n ≤ 40) (hQ : QI v a nv n) (hx : iR nv x) (ho : iR n o) (hX : stB n X E) : cV (d + 1) 193 [.ref a, iV (x * 40 + o), lV X] v (fun w => GRw v w a nv n ∧ w.1 (a + 13) = v.1 (a + 13) ∧ (∀ q, iR n q → E q → Fs w a nv n x o q) ∧ (∀ y b q, Fs w a nv n y b q → Fs v a nv n y b q ∨ (y = x ∧ b = o ∧ E q))) := by
  obtain ⟨q1, q2, q3, q4, q5, q6, q7⟩ := id hQ
  obtain ⟨x0, x1⟩ := id hx
  obtain ⟨o0, o1⟩ := id ho
  have hold := stB_F q7 hx ho
  generalize hrow : x * 40 + o = row at hold
  have hrR : 0 ≤ row ∧ row < 400 := by omega
  have hinj : ∀ y b, iR nv y → iR n b → y * 40 + b = row → y = x ∧ b = o := fun y b hy hb e => by
    have := hy.1
    have := hb.1
    have := hb.2
    omega
  refine e_193 (d := d) hO ⟨hrR.1, hrR.2, ?_⟩
  by_cases hz : land X (lxor (v.1 (a + 14) row) (-1)) = 0
  · rw [if_pos hz]
    refine ⟨GRw_refl hQ, rfl, fun q hq hE => ?_, fun y b q h => Or.inl h⟩
    have eq : ((q.toNat : Nat) : Int) = q := by have := hq.1; omega
    have hqn := hq.2
    refine ⟨hx, ho, hq, ?_⟩
    rw [hrow]
    have hbX := (hX.2 q.toNat).mpr (by rw [eq]; exact ⟨hqn, hE⟩)
    cases hb : bt (v.1 (a + 14) row) q.toNat with
    | true => rfl
    | false =>
      refine (land_z hz q.toNat hbX ?_).elim
      rw [bt_lxor, hb, bt_m1 (by omega)]
      rfl
  · rw [if_neg hz]
    intro w ew
    have hnew := stB_or hold hX
    have w14 : w.1 (a + 14) = uf (v.1 (a + 14)) row (lor (v.1 (a + 14) row) X) := by rw [ew, wr_uf]
    have w15 : w.1 (a + 15) = v.1 (a + 15) := by rw [ew, wr_ne (by omega)]
    have w16 : w.1 (a + 16) = v.1 (a + 16) := by rw [ew, wr_ne (by omega)]
    have wa : w.1 a = v.1 a := by rw [ew, wr_ne (by omega)]
    have hok : okF nv n (w.1 (a + 14)) := fun y b hy hb => by
      rw [w14]
      by_cases e : y * 40 + b = row
      · rw [e, uf_eq]
        exact ⟨hnew.1, fun i h => ((hnew.2 i).mp h).1⟩
      · rw [uf_ne e]
        exact q7 y b hy hb
    have hmono : ∀ (j : Int) (i : Nat), bt (v.1 (a + 14) j) i = true → bt (w.1 (a + 14) j) i = true := fun j i h => by
      rw [w14]
      by_cases e : j = row
      · rw [e, uf_eq, bt_lor]
        rw [e] at h
        rw [h]; rfl
      · rw [uf_ne e]; exact h
    have hin : ∀ q, iR n q → E q → Fs w a nv n x o q := fun q hq hE => by
      have eq : ((q.toNat : Nat) : Int) = q := by have := hq.1; omega
      refine ⟨hx, ho, hq, ?_⟩
      rw [hrow, w14, uf_eq]
      exact (hnew.2 q.toNat).mpr (by rw [eq]; exact ⟨hq.2, Or.inr hE⟩)
    have hout : ∀ y b q, Fs w a nv n y b q → Fs v a nv n y b q ∨ (y = x ∧ b = o ∧ E q) := fun y b q ⟨hy, hb, hq, h⟩ => by
      rw [w14] at h
      by_cases e : y * 40 + b = row
      · rw [e, uf_eq] at h
        obtain ⟨z1, z2⟩ := hinj y b hy hb e
        have eq : ((q.toNat : Nat) : Int) = q := by have := hq.1; omega
        obtain ⟨-, z3⟩ := (hnew.2 q.toNat).mp h
        rw [eq] at z3
        rcases z3 with z3 | z3
        · rw [z1, z2]; exact Or.inl z3
        · exact Or.inr ⟨z1, z2, z3⟩
      · rw [uf_ne e] at h
        exact Or.inl ⟨hy, hb, hq, h⟩
    have hct : ctG (v.1 (a + 14)) < ctG (w.1 (a + 14)) := by
      obtain ⟨i, i1, i2, i3⟩ := land_ne hz
      have hi := ((hX.2 i).mp i2).1
      refine ctG_lt hmono hrR.1 hrR.2 (i := i) (by omega) ?_ ?_
      · rw [bt_lxor, bt_m1 i1] at i3
        cases hb : bt (v.1 (a + 14) row) i with
        | false => rfl
        | true => rw [hb] at i3; cases i3
      · rw [w14, uf_eq, bt_lor, i2, Bool.or_true]
    have ew2 : w.2 = v.2 := by rw [ew]; rfl
    have ews : sb1 v w [a, a + 13, a + 14, a + 15, a + 16] := by rw [ew]; exact sb1_wr (sb1_refl _ _) (by simp)
    have e13 : w.1 (a + 13) = v.1 (a + 13) := by rw [ew, wr_ne (by omega)]
    rw [w16, wa]
    rcases q3 row hrR.1 hrR.2 with hf | hf
    · -- not queued
      rw [if_pos hf]
      have hflg : flg v a row.toNat = false := by
        unfold flg
        have : ((row.toNat : Nat) : Int) = row := by omega
        rw [this, hf]
        decide
      have hc400 : ct (flg v a) 400 < 400 := by
        have := ct_upd (p := flg v a) (p' := fun i => if i = row.toNat then true else flg v a i) (j := row.toNat) 400 (by omega) (fun i _ hne => if_neg hne) hflg (if_pos rfl)
        have h2 := ct_le (fun i => if i = row.toNat then true else flg v a i) 400
        omega
      refine ⟨by rw [hf]; decide, ⟨by omega, by omega⟩, ?_⟩
      rw [if_pos (by omega)]
      intro w10 e10
      have y9 : w10.1 a = v.1 a := by rw [e10, wr_ne (by omega), wa]
      rw [y9]
      have hnn : 0 ≤ v.1 a 8 + v.1 a 9 := by omega
      rw [Int.tmod_eq_emod_of_nonneg hnn]
      refine ⟨⟨by omega, by omega⟩, by omega, by omega, fun w15' e15 w17 e17 => ?_⟩
      have f14 : w17.1 (a + 14) = w.1 (a + 14) := by rw [e17, wr_ne (by omega), e15, wr_ne (by omega), e10, wr_ne (by omega)]
      have f13 : w17.1 (a + 13) = v.1 (a + 13) := by rw [e17, wr_ne (by omega), e15, wr_ne (by omega), e10, wr_ne (by omega), e13]
      have f16 : w17.1 (a + 16) = uf (v.1 (a + 16)) row 1 := by rw [e17, wr_ne (by omega), e15, wr_ne (by omega), e10, wr_uf, w16]
      have f15 : w17.1 (a + 15) = uf (v.1 (a + 15)) ((v.1 a 8 + v.1 a 9) % 400) row := by rw [e17, wr_ne (by omega), e15, wr_uf, e10, wr_ne (by omega), w15]
      have g15 : w15'.1 a = v.1 a := by rw [e15, wr_ne (by omega), y9]
      have fa : w17.1 a = uf (v.1 a) 9 (v.1 a 9 + 1) := by rw [e17, wr_uf, g15]
      have fa8 : w17.1 a 8 = v.1 a 8 := by rw [fa, uf_ne (by omega)]
      have fa9 : w17.1 a 9 = v.1 a 9 + 1 := by rw [fa, uf_eq]
      have f2 : w17.2 = v.2 := by rw [e17, wr_2, e15, wr_2, e10, wr_2, ew2]
      have fs : sb1 v w17 [a, a + 13, a + 14, a + 15, a + 16] := by
        rw [e17]
        refine sb1_wr ?_ (by simp)
        rw [e15]
        refine sb1_wr ?_ (by simp)
        rw [e10]
        exact sb1_wr ews (by simp)
      have hFs : Fs w17 a nv n = Fs w a nv n := by unfold Fs; rw [f14]
      refine ⟨⟨f2, fs, fun i hi => by rw [fa, uf_ne hi], ⟨?_, ?_, ?_, ?_, ?_, ?_, ?_⟩, fun j i h => by rw [f14]; exact hmono j i h, fun j h => ?_, ?_⟩, f13, fun q hq hE => by rw [hFs]; exact hin q hq hE, fun y b q h => by rw [hFs] at h; exact hout y b q h⟩
      · rw [fa8]; exact q1
      · rw [fa9, q2]
        have hup := ct_upd (p := flg v a) (p' := flg w17 a) (j := row.toNat) 400 (by omega) (fun i hi hne => by
          unfold flg
          rw [f16, uf_ne (by omega)]) hflg (by
          unfold flg
          have : ((row.toNat : Nat) : Int) = row := by omega
          rw [this, f16, uf_eq]
          decide)
        omega
      · intro j j0 j1
        rw [f16]
        by_cases e : j = row
        · rw [e, uf_eq]; exact Or.inr rfl
        · rw [uf_ne e]; exact q3 j j0 j1
      · intro j j0 j1 hj
        rw [f16] at hj
        by_cases e : j = row
        · rw [e]; exact ⟨x, o, hx, ho, hrow.symm⟩
        · rw [uf_ne e] at hj
          exact q4 j j0 j1 hj
      · intro i i0 i1
        rw [fa9] at i1
        rw [fa8, f15]
        by_cases e : i = v.1 a 9
        · rw [e, uf_eq, f16, uf_eq]
          exact ⟨hrR.1, hrR.2, rfl⟩
        · have hne : (v.1 a 8 + i) % 400 ≠ (v.1 a 8 + v.1 a 9) % 400 := by omega
          rw [uf_ne hne]
          obtain ⟨z1, z2, z3⟩ := q5 i i0 (by omega)
          refine ⟨z1, z2, ?_⟩
          rw [f16]
          by_cases e2 : v.1 (a + 15) ((v.1 a 8 + i) % 400) = row
          · rw [e2, uf_eq]
          · rw [uf_ne e2]; exact z3
      · intro i j i0 hij hj
        rw [fa9] at hj
        rw [fa8, f15]
        have hne1 : (v.1 a 8 + i) % 400 ≠ (v.1 a 8 + v.1 a 9) % 400 := by omega
        rw [uf_ne hne1]
        by_cases e : j = v.1 a 9
        · rw [e, uf_eq]
          intro hh
          have := (q5 i i0 (by omega)).2.2
          rw [hh, hf] at this
          exact absurd this (by decide)
        · have hne2 : (v.1 a 8 + j) % 400 ≠ (v.1 a 8 + v.1 a 9) % 400 := by omega
          rw [uf_ne hne2]
          exact q6 i j i0 hij (by omega)
      · rw [f14]; exact hok
      · rw [f16] at h
        by_cases e : j = row
        · rw [e, uf_eq] at h
          exact absurd h (by decide)
        · rw [uf_ne e] at h
          refine ⟨h, ?_⟩
          rw [f14, w14, uf_ne e]
      · rw [f14, fa9]
        omega
    · -- queued before
      rw [if_neg (by rw [hf]; decide)]
      refine ⟨by rw [hf]; decide, ⟨ew2, ews, fun i _ => by rw [wa], ⟨by rw [wa]; exact q1, ?_, by rw [w16]; exact q3, by rw [w16]; exact q4, by rw [wa, w15, w16]; exact q5, by rw [wa, w15]; exact q6, hok⟩, hmono, fun j h => ?_, by rw [wa]; omega⟩, e13, hin, hout⟩
      · rw [wa, q2]
        have : flg w a = flg v a := by unfold flg; rw [w16]
        rw [this]
      · rw [w16] at h
        refine ⟨h, ?_⟩
        rw [w14, uf_ne]
        intro e
        rw [e, hf] at h
        exact absurd h (by decide)
/-- a symbol leads from a state into a set -/
def stC (F : Int → Int → Int → Prop) (dl : Int → Int → Int) (s o b : Int) : Prop := if s < 100 then dl o s = b else F (s - 100) o b
theorem q_195 {d a nv n mk : Nat} {v : uS} {s o X : Int} {B : Int → Prop} (hO : isO a 9) (ha : a = 193 ∨ a = 212) (hM : isO mk 5) (hmk : mk = 59 ∨ mk = 61) (hv : nv ≤ 10) (hn : n ≤ 40) (e3 : v.2 a 3 = mk) (hs : symR nv s) (ho : iR n o) (hd : ∀ s c, iR n s → 0 ≤ c → c < 10 → iR n (v.1 (mk + 1) (s * 10 + c))) (hF : okF nv n (v.1 (a + 1))) (hQ : QI v a nv n) (hX : stB n X B) : cI (d + 2) 195 [.ref a, iV s, iV o, lV X] v (fun c w => (c = 0 ∨ c = 1) ∧ GRw v w a nv n ∧ w.1 (a + 13) = v.1 (a + 13) ∧ (c = 1 ↔ ∃ b, iR n b ∧ B b ∧ stC (Fg nv n (v.1 (a + 1))) (dlt v mk) s o b) ∧ (100 ≤ s → ∀ b, iR n b → B b → Fg nv n (v.1 (a + 1)) (s - 100) o b → Fs w a nv n (s - 100) o b) ∧ (∀ y z q, Fs w a nv n y z q → Fs v a nv n y z q ∨ (100 ≤ s ∧ y = s - 100 ∧ z = o ∧ B q ∧ Fg nv n (v.1 (a + 1)) (s - 100) o q))) := by
  obtain ⟨o0, o1⟩ := id ho
  refine e_195 (d := d) hO ⟨by rcases hs with z | z <;> exact ⟨by omega, by omega⟩, ?_⟩
  by_cases hs100 : s < 100
  · rw [if_pos hs100, e3]
    have hs10 : 0 ≤ s ∧ s < 10 := by rcases hs with z | z <;> omega
    have hdq := hd o s ho hs10.1 hs10.2
    obtain ⟨d0, d1⟩ := id hdq
    refine ⟨hM, by omega, by omega, ?_⟩
    rw [bit_l d0 (by omega)]
    have eq : (((v.1 (mk + 1) (o * 10 + s)).toNat : Nat) : Int) = v.1 (mk + 1) (o * 10 + s) := by omega
    have hbit := hX.2 (v.1 (mk + 1) (o * 10 + s)).toNat
    rw [eq] at hbit
    cases hb : bt X (v.1 (mk + 1) (o * 10 + s)).toNat with
    | true =>
      rw [if_pos rfl, if_neg (by decide)]
      refine ⟨Or.inr rfl, GRw_refl hQ, rfl, ⟨fun _ => ⟨_, hdq, (hbit.mp hb).2, ?_⟩, fun _ => rfl⟩, fun h => absurd h (by omega), fun y z q h => Or.inl h⟩
      unfold stC
      rw [if_pos hs100]
    | false =>
      rw [if_pos (by decide)]
      refine ⟨Or.inl rfl, GRw_refl hQ, rfl, ⟨fun h => absurd h (by decide), ?_⟩, fun h => absurd h (by omega), fun y z q h => Or.inl h⟩
      rintro ⟨b, hbR, hB, hst⟩
      unfold stC at hst
      rw [if_pos hs100] at hst
      have hst' : v.1 (mk + 1) (o * 10 + s) = b := hst
      rw [← hst'] at hB
      have := hbit.mpr ⟨d1, hB⟩
      rw [hb] at this
      cases this
  · rw [if_neg hs100]
    have hx : iR nv (s - 100) := by rcases hs with z | z <;> exact ⟨by omega, by omega⟩
    obtain ⟨x0, x1⟩ := id hx
    have hrow := stB_F hF hx ho
    have hE : stB n (land (v.1 (a + 1) ((s - 100) * 40 + o)) X) (fun q => Fg nv n (v.1 (a + 1)) (s - 100) o q ∧ B q) := ⟨rl_land _ _, fun i => by
      rw [bt_land, Bool.and_eq_true, hrow.2 i, hX.2 i]
      constructor
      · rintro ⟨⟨z1, z2⟩, -, z3⟩; exact ⟨z1, z2, z3⟩
      · rintro ⟨z1, z2, z3⟩; exact ⟨⟨z1, z2⟩, z1, z3⟩⟩
    refine ⟨by omega, by omega, cV.mono (p_193 (d := d) hO ha hv hn hQ hx ho hE) (Nat.le_refl _) (fun w ⟨z1, z2, z3, z4⟩ => ?_)⟩
    have sound : ∀ y z q, Fs w a nv n y z q → Fs v a nv n y z q ∨ (100 ≤ s ∧ y = s - 100 ∧ z = o ∧ B q ∧ Fg nv n (v.1 (a + 1)) (s - 100) o q) := fun y z q h => by
      rcases z4 y z q h with k | ⟨k1, k2, k3⟩
      · exact Or.inl k
      · exact Or.inr ⟨by omega, k1, k2, k3.2, k3.1⟩
    have compl : 100 ≤ s → ∀ b, iR n b → B b → Fg nv n (v.1 (a + 1)) (s - 100) o b → Fs w a nv n (s - 100) o b := fun _ b hb hB hf => z3 b hb ⟨hf, hB⟩
    by_cases hz : land (v.1 (a + 1) ((s - 100) * 40 + o)) X = 0
    · rw [if_pos hz]
      refine ⟨Or.inl rfl, z1, z2, ⟨fun h => absurd h (by decide), ?_⟩, compl, sound⟩
      rintro ⟨b, hbR, hB, hst⟩
      unfold stC at hst
      rw [if_neg hs100] at hst
      have eq : ((b.toNat : Nat) : Int) = b := by have := hbR.1; omega
      have := (hE.2 b.toNat).mpr (by rw [eq]; exact ⟨hbR.2, hst, hB⟩)
      rw [hz, bt_0] at this
      cases this
    · rw [if_neg hz]
      refine ⟨Or.inr rfl, z1, z2, ⟨fun _ => ?_, fun _ => rfl⟩, compl, sound⟩
      obtain ⟨i, i1, i2, i3⟩ := land_ne hz
      obtain ⟨k1, k2, k3⟩ := (hE.2 i).mp (by rw [bt_land, i2, i3]; rfl)
      refine ⟨i, ⟨by omega, k1⟩, k3, ?_⟩
      unfold stC
      rw [if_neg hs100]
      exact k2
