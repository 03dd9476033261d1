/-! What stays where a call keeps off -/
def KP (u v : uS) (kp : Nat → Bool) : Prop := ∀ b, kp b = true → v.1 b = u.1 b
theorem KP_at {u v : uS} {kp : Nat → Bool} {L : List Nat} (h : KP u v kp) (hL : L.all kp = true) {b : Nat} (hb : b ∈ L) : v.1 b = u.1 b := h b (List.all_eq_true.mp hL b hb)
theorem keepS {u v : uS} {kp : Nat → Bool} (h : KP u v kp) (hL : [1, 2, 272].all kp = true) (h1 : v.1 271 1 = u.1 271 1) (hI : invS u) : invS v := by
  unfold invS at *
  rw [KP_at h hL (b := 1) (by decide), KP_at h hL (b := 2) (by decide), KP_at h hL (b := 272) (by decide), h1]
  exact hI
theorem keepW {u v : uS} {kp : Nat → Bool} (h : KP u v kp) (hL : [5, 273].all kp = true) (h0 : v.1 0 2 = u.1 0 2) (h3 : v.1 271 3 = u.1 271 3) (hI : invW u) : invW v := by
  unfold invW at *
  rw [KP_at h hL (b := 5) (by decide), KP_at h hL (b := 273) (by decide), h0, h3]
  exact hI
theorem keepG {u v : uS} {kp : Nat → Bool} (h : KP u v kp) (hL : [6, 7, 8, 9, 10, 274, 275, 276, 277].all kp = true) (h5 : v.1 271 5 = u.1 271 5) (h6 : v.1 271 6 = u.1 271 6) (h11 : v.1 271 11 = u.1 271 11) (hI : invG u) : invG v := by
  unfold invG at *
  rw [KP_at h hL (b := 6) (by decide), KP_at h hL (b := 7) (by decide), KP_at h hL (b := 8) (by decide), KP_at h hL (b := 9) (by decide), KP_at h hL (b := 10) (by decide), KP_at h hL (b := 274) (by decide), KP_at h hL (b := 275) (by decide), KP_at h hL (b := 276) (by decide), KP_at h hL (b := 277) (by decide), h5, h6, h11]
  exact hI
theorem keepL {u v : uS} {kp : Nat → Bool} (h : KP u v kp) (hL : [6, 7, 8, 9, 10, 11, 12, 283, 284, 285, 287, 288, 289].all kp = true) (hI : invL u) : invL v := by
  have hrow : row v 6 = row u 6 := row_of (KP_at h hL (b := 9) (by decide)) (KP_at h hL (b := 10) (by decide))
  unfold invL kn at *
  rw [KP_at h hL (b := 6) (by decide), KP_at h hL (b := 7) (by decide), KP_at h hL (b := 8) (by decide), KP_at h hL (b := 11) (by decide), KP_at h hL (b := 12) (by decide), KP_at h hL (b := 283) (by decide), KP_at h hL (b := 284) (by decide), KP_at h hL (b := 285) (by decide), KP_at h hL (b := 287) (by decide), KP_at h hL (b := 288) (by decide), KP_at h hL (b := 289) (by decide), hrow]
  exact hI
theorem keepM {u v : uS} {kp : Nat → Bool} (h : KP u v kp) (hL : [59, 60, 61, 62, 301, 302, 303].all kp = true) (hI : invM u) : invM v := by
  refine ⟨mEq_keep hI.1 (KP_at h hL (b := 59) (by decide)) (KP_at h hL (b := 60) (by decide)) ?_ (fun j _ _ => ?_) (fun j _ _ => ?_), mEq_keep hI.2 (KP_at h hL (b := 61) (by decide)) (KP_at h hL (b := 62) (by decide)) ?_ (fun j _ _ => ?_) (fun j _ _ => ?_)⟩
  · rw [KP_at h hL (b := 301) (by decide)]
  · rw [KP_at h hL (b := 302) (by decide)]
  · rw [KP_at h hL (b := 303) (by decide)]
  · rw [KP_at h hL (b := 301) (by decide)]
  · rw [KP_at h hL (b := 302) (by decide)]
  · rw [KP_at h hL (b := 303) (by decide)]
theorem keepP {u v : uS} {kp : Nat → Bool} (h : KP u v kp) (hL : [6, 8, 9, 10, 59, 60, 61, 62, 194, 213].all kp = true) (h0 : v.1 193 0 = u.1 193 0) (h1 : v.1 212 0 = u.1 212 0) (r0 : v.2 193 = u.2 193) (r1 : v.2 212 = u.2 212) (hI : invP u) : invP v := by
  have e6 := KP_at h hL (b := 6) (by decide)
  exact ⟨prd_of hI.1 h0 (KP_at h hL (b := 194) (by decide)) (by rw [e6]) (by rw [e6]) (KP_at h hL (b := 8) (by decide)) (KP_at h hL (b := 9) (by decide)) (KP_at h hL (b := 10) (by decide)) (by rw [KP_at h hL (b := 59 + 2 * 0) (by decide)]) (KP_at h hL (b := 60) (by decide)) r0, prd_of hI.2 h1 (KP_at h hL (b := 213) (by decide)) (by rw [e6]) (by rw [e6]) (KP_at h hL (b := 8) (by decide)) (KP_at h hL (b := 9) (by decide)) (KP_at h hL (b := 10) (by decide)) (by rw [KP_at h hL (b := 59 + 2 * 1) (by decide)]) (KP_at h hL (b := 62) (by decide)) r1⟩
theorem keepQ {u v : uS} {kp : Nat → Bool} (h : KP u v kp) (hL : [209, 228].all kp = true) (hI : invQ u) : invQ v := by
  unfold invQ at *
  rw [KP_at h hL (b := 209) (by decide), KP_at h hL (b := 228) (by decide)]
  exact hI
theorem keepT {u v : uS} {kp : Nat → Bool} (h : KP u v kp) (hL : [6, 8, 9, 10, 11, 56, 57].all kp = true) (h16 : v.1 36 16 = u.1 36 16) (h17 : v.1 36 17 = u.1 36 17) (hr : v.2 36 = u.2 36) (h5 : v.1 5 = u.1 5) (h0 : v.1 0 2 = u.1 0 2) (hI : invT u) : invT v := by
  have e6 := KP_at h hL (b := 6) (by decide)
  have hg : gC v = gC u := gC_of (by rw [e6]) (by rw [e6]) (KP_at h hL (b := 8) (by decide)) (KP_at h hL (b := 9) (by decide)) (KP_at h hL (b := 10) (by decide)) (KP_at h hL (b := 11) (by decide))
  unfold invT at *
  rw [hg, h16, h17, hr, h5, h0, KP_at h hL (b := 56) (by decide), KP_at h hL (b := 57) (by decide)]
  exact hI
/-- the word is another: its counts are forgotten -/
theorem keepT0 {u v : uS} {kp : Nat → Bool} (h : KP u v kp) (hL : [6, 8, 9, 10, 11, 57].all kp = true) (h16 : v.1 36 16 = 0) (h17 : v.1 36 17 = u.1 36 17) (hr : v.2 36 = u.2 36) (hI : invT u) : invT v := by
  have e6 := KP_at h hL (b := 6) (by decide)
  have hg : gC v = gC u := gC_of (by rw [e6]) (by rw [e6]) (KP_at h hL (b := 8) (by decide)) (KP_at h hL (b := 9) (by decide)) (KP_at h hL (b := 10) (by decide)) (KP_at h hL (b := 11) (by decide))
  obtain ⟨-, i2, i3, -, i5⟩ := hI
  refine ⟨Or.inl h16, by rw [h17]; exact i2, by rw [hr]; exact i3, fun e => by rw [h16] at e; exact absurd e (by decide), fun e n hn => ?_⟩
  rw [hg, KP_at h hL (b := 57) (by decide)]
  rw [h17] at e
  exact i5 e n hn
theorem keepX {u v : uS} {kp : Nat → Bool} (h : KP u v kp) (hL : fWT.all kp = true) (h0 : v.1 231 0 = u.1 231 0) (h3 : v.1 271 73 = u.1 271 73) (h4 : v.1 271 74 = u.1 271 74) (h5 : v.1 271 75 = u.1 271 75) (hI : invX u) : invX v := invX_g (fun c hc => KP_at h hL hc) h0 h3 h4 h5 hI
theorem keepE {u v : uS} {kp : Nat → Bool} (h : KP u v kp) (hL : [70, 78, 79].all kp = true) (hI : CE u) : CE v := CE_of hI (KP_at h hL (by decide)) (KP_at h hL (by decide)) (KP_at h hL (by decide))
theorem keepB {u v : uS} {kp : Nat → Bool} (h : KP u v kp) (hL : [303].all kp = true) (hI : B3 u) : B3 v := fun j => by
  rw [KP_at h hL (b := 303) (by decide)]
  exact hI j
/-- all that lasts from call to call -/
def Inv (u : uS) : Prop := invS u ∧ invW u ∧ invG u ∧ invL u ∧ invM u ∧ invP u ∧ invQ u ∧ invT u ∧ invX u ∧ CE u ∧ B3 u
