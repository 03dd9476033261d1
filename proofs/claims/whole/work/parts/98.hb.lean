/-! Fertile triples: the least set closed under the rules -/
def okF (nv n : Nat) (g : Int → Int) : Prop := ∀ x o, iR nv x → iR n o → rL (g (x * 40 + o)) ∧ ∀ i : Nat, bt (g (x * 40 + o)) i = true → (i : Int) < n
def Fg (nv n : Nat) (g : Int → Int) (x o q : Int) : Prop := iR nv x ∧ iR n o ∧ iR n q ∧ bt (g (x * 40 + o)) q.toNat = true
theorem stB_F {nv n : Nat} {g : Int → Int} (h : okF nv n g) {x o : Int} (hx : iR nv x) (ho : iR n o) : stB n (g (x * 40 + o)) (Fg nv n g x o) := ⟨(h x o hx ho).1, fun i => by
  have e : ((i : Int)).toNat = i := by omega
  constructor
  · intro b
    have := (h x o hx ho).2 i b
    exact ⟨this, hx, ho, ⟨by omega, this⟩, by rw [e]; exact b⟩
  · rintro ⟨-, -, -, -, b⟩
    rw [e] at b
    exact b⟩
def ctG (g : Int → Int) : Nat := ct (fun i => bt (g ((i / 40 : Nat) : Int)) (i % 40)) 16000
theorem ctG_le {g g' : Int → Int} (h : ∀ (j : Int) (i : Nat), bt (g j) i = true → bt (g' j) i = true) : ctG g ≤ ctG g' := ct_mono _ (fun i _ b => h _ _ b)
theorem ctG_lt {g g' : Int → Int} (h : ∀ (j : Int) (i : Nat), bt (g j) i = true → bt (g' j) i = true) {j : Int} {i : Nat} (j0 : 0 ≤ j) (j1 : j < 400) (hi : i < 40) (h1 : bt (g j) i = false) (h2 : bt (g' j) i = true) : ctG g < ctG g' := by
  have e1 : (j.toNat * 40 + i) / 40 = j.toNat := by omega
  have e2 : (j.toNat * 40 + i) % 40 = i := by omega
  have e3 : ((j.toNat : Nat) : Int) = j := by omega
  refine ct_lt _ (fun i _ b => h _ _ b) ⟨j.toNat * 40 + i, by omega, ?_, ?_⟩
  · rw [e1, e2, e3]; exact h1
  · rw [e1, e2, e3]; exact h2
/-- the grammar at 6 and the machine at mk -/
def GMc (u : uS) (nv nr n mk : Nat) : Prop := nv ≤ 10 ∧ nr ≤ 30 ∧ u.1 6 0 = nv ∧ u.1 6 1 = nr ∧ (∀ r : Int, 0 ≤ r → r < nr → iR nv (u.1 8 r) ∧ 0 ≤ u.1 9 r ∧ u.1 9 r ≤ 6 ∧ ∀ k, 0 ≤ k → k < u.1 9 r → symR nv (u.1 10 (r * 6 + k))) ∧ 1 ≤ n ∧ n ≤ 40 ∧ u.1 mk 0 = n ∧ (∀ s c, iR n s → 0 ≤ c → c < 10 → iR n (u.1 (mk + 1) (s * 10 + c)))
theorem GMc_of {u u' : uS} {nv nr n mk : Nat} (h : GMc u nv nr n mk) (h6 : u'.1 6 0 = u.1 6 0) (h61 : u'.1 6 1 = u.1 6 1) (h8 : u'.1 8 = u.1 8) (h9 : u'.1 9 = u.1 9) (h10 : u'.1 10 = u.1 10) (hm : u'.1 mk 0 = u.1 mk 0) (hm1 : u'.1 (mk + 1) = u.1 (mk + 1)) : GMc u' nv nr n mk := by
  unfold GMc at h ⊢
  rw [h6, h61, h8, h9, h10, hm, hm1]
  exact h
abbrev dlt (u : uS) (mk : Nat) : Int → Int → Int := fun s c => u.1 (mk + 1) (s * 10 + c)
abbrev lrw (u : uS) (r : Int) : Int → Int := fun k => u.1 10 (r * 6 + k)
def clS (u : uS) (nr n mk : Nat) (S : Int → Int → Int → Prop) : Prop := ∀ r p q : Int, 0 ≤ r → r < nr → iR n p → iR n q → fol S (dlt u mk) (lrw u r) n p (u.1 9 r).toNat q → S (u.1 8 r) p q
theorem ior_00 : ior 0 0 = 0 := by decide
theorem ior_01 : ior 0 1 = 1 := by decide
theorem ior_10 : ior 1 0 = 1 := by decide
theorem ior_11 : ior 1 1 = 1 := by decide
theorem q_140 {d a nv nr n mk : Nat} {u : uS} {r : Int} (ha : a = 193 ∨ a = 212) (hmk : mk = 59 ∨ mk = 61) (hO : isO a 9) (hM : isO mk 5) (hG : GMc u nv nr n mk) (e2 : u.2 a 2 = 6) (e3 : u.2 a 3 = mk) (hr0 : 0 ≤ r) (hr1 : r < nr) (hk : okF nv n (u.1 (a + 1))) : cI (d + 6) 140 [.ref a, iV r] u (fun c u' => (c = 0 ∨ c = 1) ∧ sb1 u u' [a + 1, a + 13] ∧ u'.2 = u.2 ∧ okF nv n (u'.1 (a + 1)) ∧ (∀ (j : Int) (i : Nat), bt (u.1 (a + 1) j) i = true → bt (u'.1 (a + 1) j) i = true) ∧ (∀ S, clS u nr n mk S → (∀ x o q, Fg nv n (u.1 (a + 1)) x o q → S x o q) → ∀ x o q, Fg nv n (u'.1 (a + 1)) x o q → S x o q) ∧ (c = 0 → u'.1 (a + 1) = u.1 (a + 1) ∧ ∀ p q, iR n p → iR n q → fol (Fg nv n (u.1 (a + 1))) (dlt u mk) (lrw u r) n p (u.1 9 r).toNat q → Fg nv n (u.1 (a + 1)) (u.1 8 r) p q) ∧ (c = 1 → ctG (u.1 (a + 1)) < ctG (u'.1 (a + 1)))) := by
  obtain ⟨g1, g2, g3, g4, g5, g6, g7, g8, g9⟩ := id hG
  obtain ⟨x1, x2, x3, x4⟩ := g5 r hr0 hr1
  have loop : ∀ (m : Nat) (p c : Int) (v : uS), 0 ≤ p → p + m = n → sb1 u v [a + 1, a + 13] → v.2 = u.2 → okF nv n (v.1 (a + 1)) → (∀ (j : Int) (i : Nat), bt (u.1 (a + 1) j) i = true → bt (v.1 (a + 1) j) i = true) → (∀ S, clS u nr n mk S → (∀ x o q, Fg nv n (u.1 (a + 1)) x o q → S x o q) → ∀ x o q, Fg nv n (v.1 (a + 1)) x o q → S x o q) → ((c = 0 ∧ v.1 (a + 1) = u.1 (a + 1) ∧ ∀ p' q, 0 ≤ p' → p' < p → iR n q → fol (Fg nv n (u.1 (a + 1))) (dlt u mk) (lrw u r) n p' (u.1 9 r).toNat q → Fg nv n (u.1 (a + 1)) (u.1 8 r) p' q) ∨ (c = 1 ∧ ctG (u.1 (a + 1)) < ctG (v.1 (a + 1)))) → K_140 (d + 5) 4 [.ref a, iV r, iV c, iV p, .retAddr 0, .retAddr 0, .retAddr 0] [] v (fun c u' => (c = 0 ∨ c = 1) ∧ sb1 u u' [a + 1, a + 13] ∧ u'.2 = u.2 ∧ okF nv n (u'.1 (a + 1)) ∧ (∀ (j : Int) (i : Nat), bt (u.1 (a + 1) j) i = true → bt (u'.1 (a + 1) j) i = true) ∧ (∀ S, clS u nr n mk S → (∀ x o q, Fg nv n (u.1 (a + 1)) x o q → S x o q) → ∀ x o q, Fg nv n (u'.1 (a + 1)) x o q → S x o q) ∧ (c = 0 → u'.1 (a + 1) = u.1 (a + 1) ∧ ∀ p q, iR n p → iR n q → fol (Fg nv n (u.1 (a + 1))) (dlt u mk) (lrw u r) n p (u.1 9 r).toNat q → Fg nv n (u.1 (a + 1)) (u.1 8 r) p q) ∧ (c = 1 → ctG (u.1 (a + 1)) < ctG (u'.1 (a + 1)))) := by
    intro m
    induction m with
    | zero =>
      intro p c v hp he hs h2 hok hmono hsnd hc
      have v2 : v.2 a 2 = 6 := by rw [h2]; exact e2
      have v3 : v.2 a 3 = mk := by rw [h2]; exact e3
      have vm : v.1 mk = u.1 mk := hs mk (by simp; omega)
      refine k_140_4 hO ?_
      rw [v3, vm, g8]
      refine ⟨hM, ⟨by omega, by omega⟩, ⟨by omega, by omega⟩, ?_⟩
      rw [if_neg (by omega)]
      have hc01 : c = 0 ∨ c = 1 := by
        rcases hc with q | q
        · exact Or.inl q.1
        · exact Or.inr q.1
      refine ⟨hc01, hc01, hs, h2, hok, hmono, hsnd, fun q => ?_, fun q => ?_⟩
      · rcases hc with z | z
        · exact ⟨z.2.1, fun p' q' hp' hq' => z.2.2 p' q' hp'.1 (by have := hp'.2; omega) hq'⟩
        · omega
      · rcases hc with z | z
        · omega
        · exact z.2
    | succ m ih =>
      intro p c v hp he hs h2 hok hmono hsnd hc
      have hpR : iR n p := ⟨hp, by omega⟩
      have v2 : v.2 a 2 = 6 := by rw [h2]; exact e2
      have v3 : v.2 a 3 = mk := by rw [h2]; exact e3
      have vm : v.1 mk = u.1 mk := hs mk (by simp; omega)
      have vm1 : v.1 (mk + 1) = u.1 (mk + 1) := hs _ (by simp; omega)
      have v8 : v.1 8 = u.1 8 := hs 8 (by simp; omega)
      have v9 : v.1 9 = u.1 9 := hs 9 (by simp; omega)
      have v10 : v.1 10 = u.1 10 := hs 10 (by simp; omega)
      refine k_140_4 hO ?_
      rw [v3, vm, g8]
      refine ⟨hM, ⟨by omega, by omega⟩, ⟨by omega, by omega⟩, ?_⟩
      rw [if_pos (by omega), v2]
      refine ⟨sx_6, hr0, by omega, ?_⟩
      have e9 : v.1 (6 + 3) = u.1 9 := v9
      have e10 : v.1 (6 + 4) = u.1 10 := v10
      have hq := p_142 (d := d) (n := n) (nv := nv) (l0 := 6) (mk := mk) (l2 := a + 1) (l5 := a + 13) (u := v) (r := r) (p := p) (F := Fg nv n (v.1 (a + 1))) sx_6 hM (sa_9_1 hO) (sa_9_4 hO) rfl rfl g7 g1 (by omega) ⟨hr0, by omega⟩ (by rw [e9]; exact ⟨x2, x3⟩) (by rw [e9, e10]; exact x4) (by rw [vm1]; exact g9) (fun x o hx ho => stB_F hok hx ho) hpR
      refine cV.mono hq (Nat.le_refl _) (fun u8 h8 => ?_)
      obtain ⟨s8, r8, f8⟩ := h8
      rw [e9, e10, vm1] at f8
      have w1 : u8.1 (a + 1) = v.1 (a + 1) := s8 _ (by simp)
      have w9 : u8.1 (6 + 3) = u.1 9 := by rw [s8 (6 + 3) (by simp only [List.mem_singleton]; omega)]; exact v9
      have w2 : u8.2 a 2 = 6 := by rw [r8]; exact v2
      have e8 : v.1 (6 + 2) = u.1 8 := v8
      have hfin := f8 (u.1 9 r).toNat (by omega)
      have hl9 : (((u.1 9 r).toNat : Nat) : Int) = u.1 9 r := by omega
      rw [hl9] at hfin
      rw [e8, w2, w9, w1]
      obtain ⟨y1, y2⟩ := id x1
      have hold := stB_F hok x1 hpR
      have hnew := stB_or hold hfin
      refine ⟨by omega, by omega, sx_6, by omega, by omega, hold.1, ?_⟩
      generalize hidx : u.1 8 r * 40 + p = idx at hold hnew ⊢
      have idx0 : 0 ≤ idx ∧ idx < 400 := by omega
      have hinj : ∀ x o, iR nv x → iR n o → x * 40 + o = idx → x = u.1 8 r ∧ o = p := fun x o hx ho q => by
        have := hx.1
        have := ho.1
        have := ho.2
        omega
      have hokN : ∀ y : Int, stB n y (fun q => Fg nv n (v.1 (a + 1)) (u.1 8 r) p q ∨ fol (Fg nv n (v.1 (a + 1))) (dlt u mk) (lrw u r) n p (u.1 9 r).toNat q) → okF nv n (uf (v.1 (a + 1)) idx y) := fun y hy x o hx ho => by
        by_cases q : x * 40 + o = idx
        · rw [q, uf_eq]
          exact ⟨hy.1, fun i b => ((hy.2 i).mp b).1⟩
        · rw [uf_ne q]
          exact hok x o hx ho
      have hFN : ∀ y : Int, stB n y (fun q => Fg nv n (v.1 (a + 1)) (u.1 8 r) p q ∨ fol (Fg nv n (v.1 (a + 1))) (dlt u mk) (lrw u r) n p (u.1 9 r).toNat q) → ∀ x o q, Fg nv n (uf (v.1 (a + 1)) idx y) x o q → Fg nv n (v.1 (a + 1)) x o q ∨ (x = u.1 8 r ∧ o = p ∧ iR n q ∧ fol (Fg nv n (v.1 (a + 1))) (dlt u mk) (lrw u r) n p (u.1 9 r).toNat q) := fun y hy x o q ⟨hx, ho, hq', hb⟩ => by
        by_cases e : x * 40 + o = idx
        · rw [e, uf_eq] at hb
          obtain ⟨z1, z2⟩ := hinj x o hx ho e
          have eq : ((q.toNat : Nat) : Int) = q := by have := hq'.1; omega
          obtain ⟨-, z3⟩ := (hy.2 q.toNat).mp hb
          rw [eq] at z3
          rcases z3 with z3 | z3
          · rw [z1, z2]; exact Or.inl z3
          · exact Or.inr ⟨z1, z2, hq', z3⟩
        · rw [uf_ne e] at hb
          exact Or.inl ⟨hx, ho, hq', hb⟩
      have hmonoN : ∀ (j : Int) (i : Nat), bt (v.1 (a + 1) j) i = true → bt (uf (v.1 (a + 1)) idx (lor (v.1 (a + 1) idx) (u8.1 (a + 13) (u.1 9 r))) j) i = true := fun j i b => by
        by_cases e : j = idx
        · rw [e, uf_eq, bt_lor]
          rw [e] at b
          rw [b]; rfl
        · rw [uf_ne e]; exact b
      have hsndN : ∀ S, clS u nr n mk S → (∀ x o q, Fg nv n (u.1 (a + 1)) x o q → S x o q) → ∀ x o q, Fg nv n (uf (v.1 (a + 1)) idx (lor (v.1 (a + 1) idx) (u8.1 (a + 13) (u.1 9 r)))) x o q → S x o q := fun S hS hb x o q h => by
        rcases hFN _ hnew x o q h with z | ⟨z1, z2, z3, z4⟩
        · exact hsnd S hS hb x o q z
        · rw [z1, z2]
          exact hS r p q hr0 hr1 hpR z3 (fol_mono (hsnd S hS hb) _ _ z4)
      have hsb : ∀ (u16 : uS), u16 = wr u8 (a + 1) idx (lor (v.1 (a + 1) idx) (u8.1 (a + 13) (u.1 9 r))) → sb1 u u16 [a + 1, a + 13] ∧ u16.2 = u.2 ∧ u16.1 (a + 1) = uf (v.1 (a + 1)) idx (lor (v.1 (a + 1) idx) (u8.1 (a + 13) (u.1 9 r))) := fun u16 e16 => by
        rw [e16]
        refine ⟨sb1_wr (fun b hb => ?_) (by simp), by rw [wr_2, r8, h2], by rw [wr_uf, w1]⟩
        rw [s8 b (by simp at hb ⊢; exact hb.2)]
        exact hs b hb
      by_cases hsame : lor (v.1 (a + 1) idx) (u8.1 (a + 13) (u.1 9 r)) = v.1 (a + 1) idx
      · rw [if_pos hsame]
        intro u16 e16
        obtain ⟨q1, q2, q3⟩ := hsb u16 e16
        rw [hsame, uf_same rfl] at q3
        have hc' : ior c 0 = c := by
          rcases hc with z | z
          · rw [z.1]; exact ior_00
          · rw [z.1]; exact ior_10
        rw [hc']
        refine ih (p + 1) c u16 (by omega) (by omega) q1 q2 (by rw [q3]; exact hok) (by rw [q3]; exact hmono) (by rw [q3]; exact hsnd) ?_
        rw [q3]
        rcases hc with ⟨z1, z2, z3⟩ | z
        · refine Or.inl ⟨z1, z2, fun p' q hp' hp1 hq' hf => ?_⟩
          by_cases e : p' = p
          · rw [e] at hf ⊢
            rw [z2] at hnew hsame
            have : stB n (u.1 (a + 1) idx) (fun q => Fg nv n (u.1 (a + 1)) (u.1 8 r) p q ∨ fol (Fg nv n (u.1 (a + 1))) (dlt u mk) (lrw u r) n p (u.1 9 r).toNat q) := by
              rw [hsame] at hnew
              exact hnew
            have eq : ((q.toNat : Nat) : Int) = q := by have := hq'.1; omega
            have hb := (this.2 q.toNat).mpr (by rw [eq]; exact ⟨hq'.2, Or.inr hf⟩)
            exact ⟨x1, hpR, hq', by rw [hidx]; exact hb⟩
          · exact z3 p' q hp' (by omega) hq' hf
        · exact Or.inr z
      · rw [if_neg hsame]
        intro u18 e18
        obtain ⟨q1, q2, q3⟩ := hsb u18 e18
        have hc' : ior c 1 = 1 := by
          rcases hc with z | z
          · rw [z.1]; exact ior_01
          · rw [z.1]; exact ior_11
        rw [hc']
        refine ih (p + 1) 1 u18 (by omega) (by omega) q1 q2 (by rw [q3]; exact hokN _ hnew) (by rw [q3]; exact fun j i b => hmonoN j i (hmono j i b)) (by rw [q3]; exact hsndN) (Or.inr ⟨rfl, ?_⟩)
        rw [q3]
        -- a member is new
        have hex : ∃ i : Nat, bt (v.1 (a + 1) idx) i = false ∧ bt (lor (v.1 (a + 1) idx) (u8.1 (a + 13) (u.1 9 r))) i = true := by
          refine Classical.byContradiction (fun hne => hsame (bt_ext hnew.1 hold.1 (fun i _ => ?_)))
          cases h1 : bt (v.1 (a + 1) idx) i with
          | true => rw [bt_lor, h1]; rfl
          | false =>
            cases h2 : bt (lor (v.1 (a + 1) idx) (u8.1 (a + 13) (u.1 9 r))) i with
            | false => rfl
            | true => exact absurd ⟨i, h1, h2⟩ hne
        obtain ⟨i, i1, i2⟩ := hex
        have hi40 := ((hnew.2 i).mp i2).1
        have hlt := ctG_lt hmonoN idx0.1 idx0.2 (i := i) (by omega) i1 (by rw [uf_eq]; exact i2)
        have hle : ctG (u.1 (a + 1)) ≤ ctG (v.1 (a + 1)) := ctG_le hmono
        omega
  exact e_140 hO (loop n 0 0 u (Int.le_refl 0) (by omega) (sb1_refl _ _) rfl hk (fun _ _ b => b) (fun S _ h => h) (Or.inl ⟨rfl, rfl, fun p' q p0 p1 => by omega⟩))
/-- the fertile triples are at hand -/
def ferP (u : uS) (a mk nv nr n : Nat) : Prop := okF nv n (u.1 (a + 1)) ∧ clS u nr n mk (Fg nv n (u.1 (a + 1))) ∧ ∀ S, clS u nr n mk S → ∀ x o q, Fg nv n (u.1 (a + 1)) x o q → S x o q
theorem q_139 {d a nv nr n mk : Nat} {u : uS} (ha : a = 193 ∨ a = 212) (hmk : mk = 59 ∨ mk = 61) (hO : isO a 9) (hM : isO mk 5) (hG : GMc u nv nr n mk) (h01 : u.1 a 0 = 0 ∨ u.1 a 0 = 1) (hf : u.1 a 0 = 1 → ferP u a mk nv nr n ∧ u.2 a 2 = 6 ∧ u.2 a 3 = mk) : cV (d + 8) 139 [.ref a, .ref 6, .ref mk] u (fun u' => sb1 u u' [a, a + 1, a + 13] ∧ (∀ i : Int, i ≠ 0 → u'.1 a i = u.1 a i) ∧ (∀ b, b ≠ a → u'.2 b = u.2 b) ∧ (∀ i : Int, i ≠ 2 → i ≠ 3 → u'.2 a i = u.2 a i) ∧ u'.1 a 0 = 1 ∧ ferP u' a mk nv nr n ∧ u'.2 a 2 = 6 ∧ u'.2 a 3 = mk) := by
  obtain ⟨g1, g2, g3, g4, g5, g6, g7, g8, g9⟩ := id hG
  refine e_139 (d := d + 6) hO sx_6 hM ⟨by rcases h01 with q | q <;> rw [q] <;> decide, ?_⟩
  by_cases h0 : u.1 a 0 = 0
  · rw [if_pos h0]
    intro u3 e3 u5 e5 u7 e7
    have r2 : u7.2 a 2 = 6 := by rw [e7, fil_2, e5, wq_2, if_neg (by omega), e3, wq_2, if_pos ⟨rfl, rfl⟩]
    have r3 : u7.2 a 3 = mk := by rw [e7, fil_2, e5, wq_2, if_pos ⟨rfl, rfl⟩]
    have rb : ∀ b, b ≠ a → u7.2 b = u.2 b := fun b hb => by rw [e7, fil_2, e5, wq_ne hb, e3, wq_ne hb]
    have ri : ∀ i : Int, i ≠ 2 → i ≠ 3 → u7.2 a i = u.2 a i := fun i i2 i3 => by rw [e7, fil_2, e5, wq_2, if_neg (by omega), e3, wq_2, if_neg (by omega)]
    have s7 : sb1 u u7 [a + 1, a + 13] := fun b hb => by
      rw [e7, fil_ne (fun q => hb (by rw [q]; simp)), e5, wq_1, e3, wq_1]
    have z7 : ∀ j : Int, 0 ≤ j → j < 400 → u7.1 (a + 1) j = 0 := fun j j0 j1 => by
      rw [e7, fil_1, if_pos ⟨rfl, j0, j1⟩]
    have hGv : ∀ v : uS, sb1 u v [a + 1, a + 13] → GMc v nv nr n mk := fun v hs => GMc_of hG (by rw [hs 6 (by simp; omega)]) (by rw [hs 6 (by simp; omega)]) (hs 8 (by simp; omega)) (hs 9 (by simp; omega)) (hs 10 (by simp; omega)) (by rw [hs mk (by simp; omega)]) (hs _ (by simp; omega))
    have hcl : ∀ v : uS, sb1 u v [a + 1, a + 13] → ∀ S, clS v nr n mk S ↔ clS u nr n mk S := fun v hs S => by
      unfold clS dlt lrw
      rw [hs 8 (by simp; omega), hs 9 (by simp; omega), hs 10 (by simp; omega), hs (mk + 1) (by simp; omega)]
    have fin : ∀ v : uS, sb1 u v [a + 1, a + 13] → v.2 = u7.2 → okF nv n (v.1 (a + 1)) → (∀ S, clS u nr n mk S → ∀ x o q, Fg nv n (v.1 (a + 1)) x o q → S x o q) → clS u nr n mk (Fg nv n (v.1 (a + 1))) → ∀ w : uS, w = wr v a 0 1 → (sb1 u w [a, a + 1, a + 13] ∧ (∀ i : Int, i ≠ 0 → w.1 a i = u.1 a i) ∧ (∀ b, b ≠ a → w.2 b = u.2 b) ∧ (∀ i : Int, i ≠ 2 → i ≠ 3 → w.2 a i = u.2 a i) ∧ w.1 a 0 = 1 ∧ ferP w a mk nv nr n ∧ w.2 a 2 = 6 ∧ w.2 a 3 = mk) := by
      intro v hs h2 hok hsnd hc w ew
      have wa : w.1 (a + 1) = v.1 (a + 1) := by rw [ew, wr_ne (by omega)]
      have hsw : sb1 v w [a] := by rw [ew]; exact sb1_wr (sb1_refl _ _) (by simp)
      have hcw : ∀ S, clS w nr n mk S ↔ clS u nr n mk S := fun S => by
        rw [← hcl v hs S]
        unfold clS dlt lrw
        rw [hsw 8 (by simp; omega), hsw 9 (by simp; omega), hsw 10 (by simp; omega), hsw (mk + 1) (by simp; omega)]
      refine ⟨fun b hb => ?_, fun i hi => ?_, fun b hb => ?_, fun i i2 i3 => ?_, by rw [ew, wr_self], ⟨by rw [wa]; exact hok, ?_, fun S hS => ?_⟩, ?_, ?_⟩
      · simp only [List.mem_cons, List.not_mem_nil, or_false, not_or] at hb
        rw [ew, wr_ne hb.1]
        exact hs b (by simp; omega)
      · rw [ew, wr_1, if_neg (by omega), hs a (by simp)]
      · rw [ew, wr_2, h2]; exact rb b hb
      · rw [ew, wr_2, h2]; exact ri i i2 i3
      · rw [wa, hcw]; exact hc
      · rw [wa]; exact hsnd S ((hcw S).mp hS)
      · rw [ew, wr_2, h2]; exact r2
      · rw [ew, wr_2, h2]; exact r3
    have main : ∀ (m : Nat) (k : Int) (v : uS), 0 ≤ k → k + m = 16001 → k ≤ ctG (v.1 (a + 1)) → sb1 u v [a + 1, a + 13] → v.2 = u7.2 → okF nv n (v.1 (a + 1)) → (∀ S, clS u nr n mk S → ∀ x o q, Fg nv n (v.1 (a + 1)) x o q → S x o q) → K_139 (d + 7) 31 [.ref a, .retAddr 0, .retAddr 0, iV 1, iV k, .retAddr 0] [] v (fun u' => sb1 u u' [a, a + 1, a + 13] ∧ (∀ i : Int, i ≠ 0 → u'.1 a i = u.1 a i) ∧ (∀ b, b ≠ a → u'.2 b = u.2 b) ∧ (∀ i : Int, i ≠ 2 → i ≠ 3 → u'.2 a i = u.2 a i) ∧ u'.1 a 0 = 1 ∧ ferP u' a mk nv nr n ∧ u'.2 a 2 = 6 ∧ u'.2 a 3 = mk) := by
      intro m
      induction m with
      | zero =>
        intro k v hk he hct hs h2 hok hsnd
        have := ct_le (fun i => bt (v.1 (a + 1) ((i / 40 : Nat) : Int)) (i % 40)) 16000
        have h3 : ctG (v.1 (a + 1)) ≤ 16000 := this
        omega
      | succ m ih =>
        intro k v hk he hct hs h2 hok hsnd
        have v2 : v.2 a 2 = 6 := by rw [h2]; exact r2
        have v3 : v.2 a 3 = mk := by rw [h2]; exact r3
        have v61 : v.1 6 1 = nr := by rw [hs 6 (by simp; omega)]; exact g4
        refine k_139_31 hO ⟨by decide, ?_⟩
        rw [if_neg (by decide)]
        refine ⟨⟨by omega, by omega⟩, ?_⟩
        rw [if_neg (by omega)]
        have rules : ∀ (m' : Nat) (r c : Int) (w : uS), 0 ≤ r → r + m' = nr → sb1 u w [a + 1, a + 13] → w.2 = u7.2 → okF nv n (w.1 (a + 1)) → (∀ S, clS u nr n mk S → ∀ x o q, Fg nv n (w.1 (a + 1)) x o q → S x o q) → ((c = 0 ∧ k ≤ ctG (w.1 (a + 1)) ∧ ∀ r' p q, 0 ≤ r' → r' < r → iR n p → iR n q → fol (Fg nv n (w.1 (a + 1))) (dlt u mk) (lrw u r') n p (u.1 9 r').toNat q → Fg nv n (w.1 (a + 1)) (u.1 8 r') p q) ∨ (c = 1 ∧ k < ctG (w.1 (a + 1)))) → K_139 (d + 7) 48 [.ref a, .retAddr 0, .retAddr 0, iV c, iV k, iV r] [] w (fun u' => sb1 u u' [a, a + 1, a + 13] ∧ (∀ i : Int, i ≠ 0 → u'.1 a i = u.1 a i) ∧ (∀ b, b ≠ a → u'.2 b = u.2 b) ∧ (∀ i : Int, i ≠ 2 → i ≠ 3 → u'.2 a i = u.2 a i) ∧ u'.1 a 0 = 1 ∧ ferP u' a mk nv nr n ∧ u'.2 a 2 = 6 ∧ u'.2 a 3 = mk) := by
          intro m'
          induction m' with
          | zero =>
            intro r c w hr hre hsw h2w hokw hsndw hcw
            have w2 : w.2 a 2 = 6 := by rw [h2w]; exact r2
            have w61 : w.1 6 1 = nr := by rw [hsw 6 (by simp; omega)]; exact g4
            refine k_139_48 hO ?_
            rw [w2, w61]
            refine ⟨sx_6, ⟨by omega, by omega⟩, ⟨by omega, by omega⟩, ?_⟩
            rw [if_neg (by omega)]
            rcases hcw with ⟨z1, z2, z3⟩ | ⟨z1, z2⟩
            · rw [z1]
              refine k_139_31 hO ⟨by decide, ?_⟩
              rw [if_pos rfl]
              exact fin w hsw h2w hokw hsndw (fun r' p q r0 r1 hp hq hf => z3 r' p q r0 (by omega) hp hq hf)
            · rw [z1]
              exact ih (k + 1) w (by omega) (by omega) (by omega) hsw h2w hokw hsndw
          | succ m' ih' =>
            intro r c w hr hre hsw h2w hokw hsndw hcw
            have w2 : w.2 a 2 = 6 := by rw [h2w]; exact r2
            have w3 : w.2 a 3 = mk := by rw [h2w]; exact r3
            have w61 : w.1 6 1 = nr := by rw [hsw 6 (by simp; omega)]; exact g4
            refine k_139_48 hO ?_
            rw [w2, w61]
            refine ⟨sx_6, ⟨by omega, by omega⟩, ⟨by omega, by omega⟩, ?_⟩
            rw [if_pos (by omega)]
            refine cI.mono (q_140 (d := d + 1) ha hmk hO hM (hGv w hsw) w2 w3 hr (by omega) hokw) (Nat.le_refl _) (fun c' w' hw' => ?_)
            obtain ⟨t1, t2, t3, t4, t5, t6, t7, t8⟩ := hw'
            have hsw' : sb1 u w' [a + 1, a + 13] := fun b hb => by rw [t2 b hb]; exact hsw b hb
            have ew : dlt w mk = dlt u mk ∧ lrw w r = lrw u r ∧ w.1 9 r = u.1 9 r ∧ w.1 8 r = u.1 8 r := by
              unfold dlt lrw
              rw [hsw 8 (by simp; omega), hsw 9 (by simp; omega), hsw 10 (by simp; omega), hsw (mk + 1) (by simp; omega)]
              exact ⟨rfl, rfl, rfl, rfl⟩
            have hle := ctG_le t5
            refine ih' (r + 1) (ior c c') w' (by omega) (by omega) hsw' (by rw [t3]; exact h2w) t4 (fun S hS => t6 S ((hcl w hsw S).mpr hS) (hsndw S hS)) ?_
            rcases t1 with q | q
            · have := t7 q
              rcases hcw with ⟨z1, z2, z3⟩ | ⟨z1, z2⟩
              · refine Or.inl ⟨by rw [z1, q]; exact ior_00, by omega, fun r' p q' r0 r1 hp hq' hf => ?_⟩
                rw [this.1] at hf ⊢
                by_cases e : r' = r
                · rw [e] at hf ⊢
                  have h9 := this.2 p q' hp hq'
                  rw [ew.1, ew.2.1, ew.2.2.1, ew.2.2.2] at h9
                  exact h9 hf
                · exact z3 r' p q' r0 (by omega) hp hq' hf
              · exact Or.inr ⟨by rw [z1, q]; exact ior_10, by omega⟩
            · have := t8 q
              rcases hcw with ⟨z1, z2, z3⟩ | ⟨z1, z2⟩
              · exact Or.inr ⟨by rw [z1, q]; exact ior_01, by omega⟩
              · exact Or.inr ⟨by rw [z1, q]; exact ior_11, by omega⟩
        exact rules nr 0 0 v (Int.le_refl 0) (by omega) hs h2 hok hsnd (Or.inl ⟨rfl, hct, fun r' p q r0 r1 => by omega⟩)
    refine main 16001 0 u7 (Int.le_refl 0) (by omega) (by omega) s7 rfl (fun x o hx ho => ?_) (fun S _ x o q h => ?_)
    · have := hx.1
      have := hx.2
      have := ho.1
      have := ho.2
      rw [z7 _ (by omega) (by omega)]
      refine ⟨⟨by omega, by omega⟩, fun i b => ?_⟩
      rw [bt_0] at b
      cases b
    · obtain ⟨hx, ho, hq, hb⟩ := h
      have := hx.1
      have := hx.2
      have := ho.1
      have := ho.2
      rw [z7 _ (by omega) (by omega), bt_0] at hb
      cases hb
  · rw [if_neg h0]
    have h1 : u.1 a 0 = 1 := by
      rcases h01 with q | q
      · exact absurd q h0
      · exact q
    obtain ⟨f1, f2, f3⟩ := hf h1
    exact ⟨sb1_refl _ _, fun _ _ => rfl, fun _ _ => rfl, fun _ _ _ => rfl, h1, f1, f2, f3⟩
