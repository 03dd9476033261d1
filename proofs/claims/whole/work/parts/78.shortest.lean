/-! learnShortest; as many rounds as variables are enough -/
def shS (f : Int → Int) : Int → List Int → Int
  | x, [] => x
  | x, s :: l => shS f (pl 9000000000000000000 x (if s < 100 then 1 else f (s - 100))) l
theorem sho_eq {u : uS} {a : Nat} : ∀ (l : List Int) (x : Int), sho u a x l = shS (u.1 (a + 5)) x l
  | [], _ => rfl
  | s :: l, x => by
    simp only [sho, shS]
    exact sho_eq l _
theorem pl_mono {a a' b b' : Int} (ha : cn 9000000000000000000 a) (ha' : cn 9000000000000000000 a') (hb : cn 9000000000000000000 b) (hb' : cn 9000000000000000000 b') (h1 : a ≤ a') (h2 : b ≤ b') : pl 9000000000000000000 a b ≤ pl 9000000000000000000 a' b' := by
  unfold cn at ha ha' hb hb'
  unfold pl
  split
  · split
    · omega
    · omega
  · split
    · omega
    · omega
theorem pl_ge {a b : Int} (ha : cn 9000000000000000000 a) (hb : cn 9000000000000000000 b) : a ≤ pl 9000000000000000000 a b ∧ b ≤ pl 9000000000000000000 a b := by
  unfold cn at ha hb
  unfold pl
  split
  · omega
  · omega
def cnA (nv : Nat) (f : Int → Int) : Prop := ∀ x : Int, 0 ≤ x → x < nv → cn 9000000000000000000 (f x)
def rwA (nv : Nat) (l : List Int) : Prop := ∀ s ∈ l, symR nv s
theorem rwA_v {nv : Nat} {l : List Int} (h : rwA nv l) {s : Int} (hs : s ∈ l) (h2 : ¬ s < 100) : 0 ≤ s - 100 ∧ s - 100 < nv := by
  rcases h s hs with ⟨a, b⟩ | ⟨a, b⟩ <;> omega
theorem cn1 : cn 9000000000000000000 1 := Or.inr (by omega)
theorem shS_cn {nv : Nat} {f : Int → Int} (hf : cnA nv f) : ∀ (l : List Int) (x : Int), rwA nv l → cn 9000000000000000000 x → cn 9000000000000000000 (shS f x l)
  | [], _, _, hx => hx
  | s :: l, x, hl, hx => by
    refine shS_cn hf l _ (fun q hq => hl q (List.mem_cons_of_mem _ hq)) (cn_pl hx ?_)
    split
    · exact cn1
    · next h2 =>
      have := rwA_v hl List.mem_cons_self h2
      exact hf _ this.1 this.2
theorem shS_mono {nv : Nat} {f g : Int → Int} (hf : cnA nv f) (hg : cnA nv g) (hfg : ∀ x : Int, 0 ≤ x → x < nv → f x ≤ g x) : ∀ (l : List Int) (x y : Int), rwA nv l → cn 9000000000000000000 x → cn 9000000000000000000 y → x ≤ y → shS f x l ≤ shS g y l
  | [], _, _, _, _, _, h => h
  | s :: l, x, y, hl, hx, hy, h => by
    have hl2 : rwA nv l := fun q hq => hl q (List.mem_cons_of_mem _ hq)
    simp only [shS]
    by_cases h2 : s < 100
    · rw [if_pos h2, if_pos h2]
      exact shS_mono hf hg hfg l _ _ hl2 (cn_pl hx cn1) (cn_pl hy cn1) (pl_mono hx hy cn1 cn1 h (Int.le_refl 1))
    · rw [if_neg h2, if_neg h2]
      have hv := rwA_v hl List.mem_cons_self h2
      have c1 := hf _ hv.1 hv.2
      have c2 := hg _ hv.1 hv.2
      exact shS_mono hf hg hfg l _ _ hl2 (cn_pl hx c1) (cn_pl hy c2) (pl_mono hx hy c1 c2 h (hfg _ hv.1 hv.2))
theorem shS_ge {nv : Nat} {f : Int → Int} (hf : cnA nv f) : ∀ (l : List Int) (x : Int), rwA nv l → cn 9000000000000000000 x → x ≤ shS f x l ∧ vr (fun y => f y ≤ shS f x l) l
  | [], _, _, _ => ⟨Int.le_refl _, fun s hs => by cases hs⟩
  | s :: l, x, hl, hx => by
    have hl2 : rwA nv l := fun q hq => hl q (List.mem_cons_of_mem _ hq)
    simp only [shS]
    by_cases h2 : s < 100
    · rw [if_pos h2]
      obtain ⟨i1, i2⟩ := shS_ge hf l _ hl2 (cn_pl hx cn1)
      have := pl_ge hx cn1
      refine ⟨by omega, fun q hq h3 => ?_⟩
      rcases List.mem_cons.mp hq with e | hq
      · omega
      · exact i2 q hq h3
    · rw [if_neg h2]
      have hv := rwA_v hl List.mem_cons_self h2
      have c1 := hf _ hv.1 hv.2
      obtain ⟨i1, i2⟩ := shS_ge hf l _ hl2 (cn_pl hx c1)
      have := pl_ge hx c1
      refine ⟨by omega, fun q hq h3 => ?_⟩
      rcases List.mem_cons.mp hq with e | hq
      · rw [e]; omega
      · exact i2 q hq h3
theorem shS_congr {f g : Int → Int} : ∀ (l : List Int) (x : Int), vr (fun y => f y = g y) l → shS f x l = shS g x l
  | [], _, _ => rfl
  | s :: l, x, h => by
    simp only [shS]
    by_cases h2 : s < 100
    · rw [if_pos h2, if_pos h2]
      exact shS_congr l _ (fun q hq => h q (List.mem_cons_of_mem _ hq))
    · rw [if_neg h2, if_neg h2, h s List.mem_cons_self (by omega)]
      exact shS_congr l _ (fun q hq => h q (List.mem_cons_of_mem _ hq))
/-- lengths that no rule makes less -/
def PF (nv nr : Nat) (hd : Int → Int) (rw : Int → List Int) (w : Int → Int) : Prop := cnA nv w ∧ ∀ r : Int, 0 ≤ r → r < nr → w (hd r) ≤ shS w 0 (rw r)
/-- the greatest such -/
def GF (nv nr : Nat) (hd : Int → Int) (rw : Int → List Int) (v : Int → Int) : Prop := PF nv nr hd rw v ∧ ∀ w, PF nv nr hd rw w → ∀ x : Int, 0 ≤ x → x < nv → w x ≤ v x
def sh1 (hd : Int → Int) (rw : Int → List Int) : Nat → Int → (Int → Int) → (Int → Int)
  | 0, _, f => f
  | m + 1, r, f => sh1 hd rw m (r + 1) (uf f (hd r) (min (f (hd r)) (shS f 0 (rw r))))
theorem cn0 : cn 9000000000000000000 0 := Or.inr (by omega)
theorem gOK_A {nv nr : Nat} {hd : Int → Int} {rw : Int → List Int} (hg : gOK nv nr hd rw) {r : Int} (h0 : 0 ≤ r) (h1 : r < nr) : rwA nv (rw r) := (hg r h0 h1).2.2
theorem sh1_p {nv nr : Nat} {hd : Int → Int} {rw : Int → List Int} (hg : gOK nv nr hd rw) : ∀ (m : Nat) (r : Int) (f : Int → Int), 0 ≤ r → r + m = nr → cnA nv f → cnA nv (sh1 hd rw m r f) ∧ (∀ x : Int, 0 ≤ x → x < nv → sh1 hd rw m r f x ≤ f x) ∧ (∀ r' : Int, r ≤ r' → r' < nr → sh1 hd rw m r f (hd r') ≤ shS f 0 (rw r')) ∧ (∀ w, PF nv nr hd rw w → (∀ x : Int, 0 ≤ x → x < nv → w x ≤ f x) → ∀ x : Int, 0 ≤ x → x < nv → w x ≤ sh1 hd rw m r f x) := by
  intro m
  induction m with
  | zero => exact fun r f hr he hf => ⟨hf, fun _ _ _ => Int.le_refl _, fun r' h1 h2 => by omega, fun w _ h => h⟩
  | succ m ih =>
    intro r f hr he hf
    obtain ⟨b1, b2, b3⟩ := hg r hr (by omega)
    have hA := gOK_A hg hr (by omega)
    have hs := shS_cn hf (rw r) 0 hA cn0
    have hc := hf _ b1 b2
    have hmin : cn 9000000000000000000 (min (f (hd r)) (shS f 0 (rw r))) := by
      rcases Int.le_total (f (hd r)) (shS f 0 (rw r)) with q | q
      · rw [Int.min_eq_left q]; exact hc
      · rw [Int.min_eq_right q]; exact hs
    have hf2 : cnA nv (uf f (hd r) (min (f (hd r)) (shS f 0 (rw r)))) := fun x x0 x1 => by
      by_cases e : x = hd r
      · rw [e, uf_eq]; exact hmin
      · rw [uf_ne e]; exact hf x x0 x1
    have hle : ∀ x : Int, 0 ≤ x → x < nv → uf f (hd r) (min (f (hd r)) (shS f 0 (rw r))) x ≤ f x := fun x x0 x1 => by
      by_cases e : x = hd r
      · rw [e, uf_eq]; omega
      · rw [uf_ne e]; exact Int.le_refl _
    obtain ⟨i1, i2, i3, i4⟩ := ih (r + 1) _ (by omega) (by omega) hf2
    refine ⟨i1, fun x x0 x1 => Int.le_trans (i2 x x0 x1) (hle x x0 x1), fun r' h1 h2 => ?_, fun w hw h => i4 w hw (fun x x0 x1 => ?_)⟩
    · obtain ⟨c1, c2, c3⟩ := hg r' (by omega) h2
      by_cases e : r' = r
      · rw [e]
        refine Int.le_trans (i2 _ b1 b2) ?_
        rw [uf_eq]
        omega
      · refine Int.le_trans (i3 r' (by omega) h2) ?_
        exact shS_mono hf2 hf hle _ _ _ (gOK_A hg (by omega) h2) cn0 cn0 (Int.le_refl 0)
    · by_cases e : x = hd r
      · rw [e, uf_eq]
        have h3 := h _ b1 b2
        have h4 := hw.2 r hr (by omega)
        have h5 := shS_mono hw.1 hf h (rw r) 0 0 hA cn0 cn0 (Int.le_refl 0)
        omega
      · rw [uf_ne e]
        exact h x x0 x1
theorem least_of {nv : Nat} {U : Int → Prop} {v : Int → Int} (hv : ∀ x : Int, 0 ≤ x → x < nv → U x → 0 ≤ v x) : ∀ (n : Nat) (x : Int), 0 ≤ x → x < nv → U x → v x ≤ n → ∃ y : Int, 0 ≤ y ∧ y < nv ∧ U y ∧ ∀ z : Int, 0 ≤ z → z < nv → U z → v y ≤ v z := by
  intro n
  induction n with
  | zero =>
    intro x x0 x1 hx h
    exact ⟨x, x0, x1, hx, fun z z0 z1 hz => by
      have := hv z z0 z1 hz
      have := hv x x0 x1 hx
      omega⟩
  | succ n ih =>
    intro x x0 x1 hx h
    by_cases hc : ∃ z : Int, 0 ≤ z ∧ z < nv ∧ U z ∧ v z < v x
    · obtain ⟨z, z0, z1, hz, hlt⟩ := hc
      exact ih z z0 z1 hz (by omega)
    · refine ⟨x, x0, x1, hx, fun z z0 z1 hz => ?_⟩
      have : ¬ v z < v x := fun q => hc ⟨z, z0, z1, hz, q⟩
      omega
/-- as many rounds as variables are enough -/
theorem shr_all {nv nr : Nat} {hd : Int → Int} {rw : Int → List Int} (hg : gOK nv nr hd rw) {v f : Int → Int} (hv : GF nv nr hd rw v) (hf : cnA nv f) (hvf : ∀ x : Int, 0 ≤ x → x < nv → v x ≤ f x) : ∀ x : Int, 0 ≤ x → x < nv → it (sh1 hd rw nr 0) nv f x = v x := by
  have hR := fun f hf => sh1_p hg nr 0 f (Int.le_refl 0) (by omega) hf
  have h1 : ∀ t : Int → Int, (cnA nv t ∧ ∀ x : Int, 0 ≤ x → x < nv → v x ≤ t x) → ∀ i : Nat, i < nv → decide (t (i : Int) = v i) = true → decide (sh1 hd rw nr 0 t (i : Int) = v i) = true := by
    intro t ht i hi q
    have q := of_decide_eq_true q
    obtain ⟨r1, r2, r3, r4⟩ := hR t ht.1
    have a1 := r2 i (by omega) (by omega)
    have a2 := r4 v hv.1 ht.2 i (by omega) (by omega)
    exact decide_eq_true (by omega)
  have hG : ∀ t : Int → Int, (cnA nv t ∧ ∀ x : Int, 0 ≤ x → x < nv → v x ≤ t x) → (cnA nv (sh1 hd rw nr 0 t) ∧ ∀ x : Int, 0 ≤ x → x < nv → v x ≤ sh1 hd rw nr 0 t x) := by
    intro t ht
    obtain ⟨r1, r2, r3, r4⟩ := hR t ht.1
    exact ⟨r1, r4 v hv.1 ht.2⟩
  have key := clos (T := Int → Int) (R := sh1 hd rw nr 0) (p := fun t i => decide (t (i : Int) = v i)) (C := fun t => ∀ x : Int, 0 ≤ x → x < nv → t x = v x) (G := fun t => cnA nv t ∧ ∀ x : Int, 0 ≤ x → x < nv → v x ≤ t x) (n := nv) hG h1 ?_ ?_ ?_ nv 0 f ⟨hf, hvf⟩ (Nat.zero_le _) (by omega)
  · exact key
  · intro t ht hs
    obtain ⟨r1, r2, r3, r4⟩ := hR t ht.1
    refine Classical.byContradiction (fun hne => ?_)
    have hex : ∃ x : Int, 0 ≤ x ∧ x < nv ∧ t x ≠ v x := by
      refine Classical.byContradiction (fun hno => hne (fun x x0 x1 => ?_))
      exact Classical.byContradiction (fun q => hno ⟨x, x0, x1, q⟩)
    obtain ⟨x, x0, x1, hx⟩ := hex
    have hvc := hv.1.1
    have hv0 : ∀ x : Int, 0 ≤ x → x < nv → t x ≠ v x → 0 ≤ v x := fun x x0 x1 _ => by
      rcases hvc x x0 x1 with q | q <;> omega
    obtain ⟨y, y0, y1, hy, hmin⟩ := least_of (U := fun x => t x ≠ v x) hv0 (v x).toNat x x0 x1 hx (by have := hv0 x x0 x1 hx; omega)
    have hty := ht.2 y y0 y1
    have hcy := ht.1 y y0 y1
    have hcv := hvc y y0 y1
    have hm : 0 ≤ v y ∧ v y ≤ 4000000000000000000 := by
      rcases hcv with q | q
      · rcases hcy with q2 | q2 <;> omega
      · exact q
    obtain ⟨mp, hmp⟩ : ∃ mp : Int, mp = if v y < 4000000000000000000 then v y + 1 else 9000000000000000000 := ⟨_, rfl⟩
    have hmp1 : cn 9000000000000000000 mp ∧ v y < mp ∧ ∀ z, cn 9000000000000000000 z → v y < z → mp ≤ z := by
      rw [hmp]
      split
      · exact ⟨Or.inr (by omega), by omega, fun z _ _ => by omega⟩
      · refine ⟨Or.inl rfl, by omega, fun z hz _ => ?_⟩
        rcases hz with q | q <;> omega
    obtain ⟨w, hw⟩ : ∃ w : Int → Int, ∀ z, (t z ≠ v z ∧ v z = v y → w z = mp) ∧ (¬ (t z ≠ v z ∧ v z = v y) → w z = v z) := by
      refine ⟨fun z => @ite _ (t z ≠ v z ∧ v z = v y) (Classical.propDecidable _) mp (v z), fun z => ⟨fun q => ?_, fun q => ?_⟩⟩
      · exact if_pos q
      · exact if_neg q
    have hwv : ∀ z : Int, 0 ≤ z → z < nv → v z ≤ w z := fun z z0 z1 => by
      by_cases q : t z ≠ v z ∧ v z = v y
      · rw [(hw z).1 q]; omega
      · rw [(hw z).2 q]; exact Int.le_refl _
    have hwc : cnA nv w := fun z z0 z1 => by
      by_cases q : t z ≠ v z ∧ v z = v y
      · rw [(hw z).1 q]; exact hmp1.1
      · rw [(hw z).2 q]; exact hvc z z0 z1
    have hPF : PF nv nr hd rw w := by
      refine ⟨hwc, fun r r0 r1' => ?_⟩
      obtain ⟨b1, b2, b3⟩ := hg r r0 r1'
      have hA := gOK_A hg r0 r1'
      have hmono := shS_mono hvc hwc hwv (rw r) 0 0 hA cn0 cn0 (Int.le_refl 0)
      by_cases q : t (hd r) ≠ v (hd r) ∧ v (hd r) = v y
      · rw [(hw _).1 q]
        have hcs := shS_cn hwc (rw r) 0 hA cn0
        by_cases hlt : v y < shS w 0 (rw r)
        · exact hmp1.2.2 _ hcs hlt
        · exfalso
          have hge := (shS_ge hwc (rw r) 0 hA cn0).2
          have heq : vr (fun z => t z = w z) (rw r) := fun s hs' h2 => by
            have hz := gOK_v hg r0 r1' hs' h2
            have h3 : w (s - 100) ≤ shS w 0 (rw r) := hge s hs' h2
            show t (s - 100) = w (s - 100)
            have hnM : ¬ (t (s - 100) ≠ v (s - 100) ∧ v (s - 100) = v y) := fun q2 => by
              have := (hw _).1 q2
              omega
            have e1 := (hw _).2 hnM
            rw [e1]
            refine Classical.byContradiction (fun q3 => hnM ⟨q3, ?_⟩)
            have := hmin _ hz.1 hz.2 q3
            omega
          have h4 := r3 r r0 r1'
          rw [shS_congr (rw r) 0 heq] at h4
          have h5 := r4 v hv.1 ht.2 _ b1 b2
          have h6 := hs (hd r).toNat (by omega)
          have e : (((hd r).toNat : Nat) : Int) = hd r := by omega
          rw [e, decide_eq_true (by omega : sh1 hd rw nr 0 t (hd r) = v (hd r)), decide_eq_false q.1] at h6
          cases h6
      · rw [(hw _).2 q]
        have := hv.1.2 r r0 r1'
        omega
    have h7 := hv.2 w hPF y y0 y1
    rw [(hw y).1 ⟨hy, rfl⟩] at h7
    omega
  · intro t ht hall x x0 x1
    have h6 := hall x.toNat (by omega)
    have e : ((x.toNat : Nat) : Int) = x := by omega
    rw [e] at h6
    exact of_decide_eq_true h6
  · intro t ht hc x x0 x1
    obtain ⟨r1, r2, r3, r4⟩ := hR t ht.1
    have a1 := r2 x x0 x1
    have a2 := r4 v hv.1 ht.2 x x0 x1
    have := hc x x0 x1
    omega
/-- learnShortest -/
def sS (u : uS) (b0 : Nat) (f : Int → Int) : uS := (fun b j => if b = b0 then f j else u.1 b j, u.2)
theorem sS_w {u : uS} {a : Nat} {x v : Int} {f : Int → Int} : wr (sS u a f) a x v = sS u a (uf f x v) := by
  refine Prod.ext ?_ rfl
  funext b j
  simp only [wr, sS, uf]
  by_cases h1 : b = a
  · simp [h1]
  · simp [h1]
theorem sS_f {u : uS} {a : Nat} {f : Int → Int} : (sS u a f).1 a = f := by
  funext j
  simp [sS]
theorem sS_o {u : uS} {a b : Nat} {f : Int → Int} (h : b ≠ a) : (sS u a f).1 b = u.1 b := by
  funext j
  simp [sS, h]
def sh0 (u : uS) (a : Nat) : Int → Int := fun j => if 0 ≤ j ∧ j < 10 then 9000000000000000000 else u.1 (a + 5) j
theorem sh1_cn {hd : Int → Int} {rw : Int → List Int} {nr : Nat} (hg : gOK 10 nr hd rw) {f : Int → Int} (hf : cnA 10 f) : cnA 10 (sh1 hd rw nr 0 f) := (sh1_p hg nr 0 f (Int.le_refl 0) (by omega) hf).1
theorem row_sS {u : uS} {a : Nat} {r : Int} {f : Int → Int} : row (sS u (a + 5) f) a r = row u a r := by
  unfold row
  rw [sS_o (b := a + 4) (by omega), sS_o (b := a + 3) (by omega)]
theorem gR_sS {u : uS} {a : Nat} {r : Int} {f : Int → Int} (h : gR u a r) : gR (sS u (a + 5) f) a r := by
  unfold gR at h ⊢
  rw [sS_o (b := a + 4) (by omega), sS_o (b := a + 3) (by omega)]
  exact h
theorem q_48 {d : Nat} {u : uS} {a nv nr : Nat} (hO : isO a 2) (hg : gA u a nv nr) (hgk : gOK 10 nr (u.1 (a + 2)) (row u a)) : cV (d + 3) 48 [.ref a] u (fun u' => u' = sS u (a + 5) (it (sh1 (u.1 (a + 2)) (row u a) nr 0) nv (sh0 u a))) := by
  obtain ⟨hv, hn, g0, g1, g2⟩ := hg
  have inner : ∀ (m : Nat) (k r : Int) (f : Int → Int) (Q : uS → Prop), 0 ≤ r → r + m = nr → cnA 10 f → K_48 (d + 2) 12 [.ref a, iV (k + 1), .retAddr 0] [] (sS u (a + 5) (sh1 (u.1 (a + 2)) (row u a) m r f)) Q → K_48 (d + 2) 22 [.ref a, iV k, iV r] [] (sS u (a + 5) f) Q := by
    intro m
    induction m with
    | zero =>
      intro k r f Q hr he hf hQ
      have e1 : (sS u (a + 5) f).1 a 1 = nr := by rw [sS_o (by omega), g1]
      refine k_48_22 hO ⟨⟨by omega, by omega⟩, by rw [e1]; exact ⟨by omega, by omega⟩, ?_⟩
      rw [e1, if_neg (by omega)]
      exact hQ
    | succ m ih =>
      intro k r f Q hr he hf hQ
      have e1 : (sS u (a + 5) f).1 a 1 = nr := by rw [sS_o (by omega), g1]
      obtain ⟨q1, q2, q3⟩ := g2 r hr (by omega)
      have hc := hf _ q2 (by omega)
      have hA := gOK_A hgk hr (by omega)
      have hs := shS_cn hf (row u a r) 0 hA cn0
      refine k_48_22 hO ⟨⟨by omega, by omega⟩, by rw [e1]; exact ⟨by omega, by omega⟩, ?_⟩
      rw [e1, if_pos (by omega), sS_o (b := a + 2) (by omega), sS_f]
      refine ⟨hr, by omega, q2, by omega, ?_⟩
      refine cL.mono (p_50 (d := d) hO (gR_sS q1) (fun y y0 y1 => by rw [sS_f]; exact hf y y0 y1)) (Nat.le_refl _) (fun x u8 hx => ?_)
      obtain ⟨ex, eu⟩ := hx
      rw [sho_eq, sS_f, row_sS] at ex
      rw [eu, ex]
      refine ⟨?_, ?_, fun u12 e12 => ?_⟩
      · rcases hc with q | q <;> exact ⟨by omega, by omega⟩
      · rcases hs with q | q <;> exact ⟨by omega, by omega⟩
      · rw [e12, sS_w]
        refine ih k (r + 1) _ Q (by omega) (by omega) (fun x x0 x1 => ?_) hQ
        by_cases e : x = u.1 (a + 2) r
        · rw [e, uf_eq]
          rcases Int.le_total (f (u.1 (a + 2) r)) (shS f 0 (row u a r)) with q | q
          · rw [Int.min_eq_left q]; exact hc
          · rw [Int.min_eq_right q]; exact hs
        · rw [uf_ne e]; exact hf x x0 x1
  have outer : ∀ (m : Nat) (k : Int) (f : Int → Int) (Q : uS → Prop), 0 ≤ k → k + m = nv → cnA 10 f → Q (sS u (a + 5) (it (sh1 (u.1 (a + 2)) (row u a) nr 0) m f)) → K_48 (d + 2) 12 [.ref a, iV k, .retAddr 0] [] (sS u (a + 5) f) Q := by
    intro m
    induction m with
    | zero =>
      intro k f Q hk he hf hQ
      have e0 : (sS u (a + 5) f).1 a 0 = nv := by rw [sS_o (by omega), g0]
      refine k_48_12 hO ⟨⟨by omega, by omega⟩, by rw [e0]; exact ⟨by omega, by omega⟩, ?_⟩
      rw [e0, if_neg (by omega)]
      exact hQ
    | succ m ih =>
      intro k f Q hk he hf hQ
      have e0 : (sS u (a + 5) f).1 a 0 = nv := by rw [sS_o (by omega), g0]
      refine k_48_12 hO ⟨⟨by omega, by omega⟩, by rw [e0]; exact ⟨by omega, by omega⟩, ?_⟩
      rw [e0, if_pos (by omega)]
      exact inner nr k 0 f Q (Int.le_refl 0) (by omega) hf (ih (k + 1) _ Q (by omega) (by omega) (sh1_cn hgk hf) hQ)
  refine e_48 hO (fun u1 e1 => ?_)
  have e : u1 = sS u (a + 5) (sh0 u a) := by
    rw [e1]
    refine Prod.ext ?_ rfl
    funext b j
    simp only [fil, sS, sh0]
    by_cases h1 : b = a + 5
    · simp [h1]
    · simp [h1]
  rw [e]
  refine outer nv 0 _ _ (Int.le_refl 0) (by omega) (fun x x0 x1 => ?_) rfl
  unfold sh0
  rw [if_pos ⟨x0, by omega⟩]
  exact Or.inl rfl
