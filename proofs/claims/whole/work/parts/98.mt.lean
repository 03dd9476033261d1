/-! The simple machines, on the other side -/
theorem plG_is {go : Int → Int → Int → Int × Int} {K D N : Nat → Nat} {n : Nat} (hK : ∀ s t, s < t → t < n → K s ≠ K t) (hN0 : N 0 = 1) (hN : ∀ i, i < 10 * n → N (i + 1) = max (N i) (D i + 1)) (hD : ∀ i, i < 10 * n → D i ≤ N i) (hal : ∀ i, i < 10 * n → i / 10 < N i) (hNn : ∀ i, i ≤ 10 * n → N i ≤ n) (hgo : ∀ i, i < 10 * n → go ((K (i / 10) : Nat) : Int) 0 ((i % 10 : Nat) : Int) = (((K (D i) : Nat) : Int), 0)) : ∀ i : Nat, i ≤ 10 * n → (plG go (K 0 : Nat) 0 i).1 = N i ∧ (∀ q : Nat, q < N i → (plG go (K 0 : Nat) 0 i).2.1 q = (K q : Nat) ∧ (plG go (K 0 : Nat) 0 i).2.2.1 q = 0) ∧ ∀ j : Nat, j < i → (plG go (K 0 : Nat) 0 i).2.2.2 j = (D j : Nat)
  | 0, _ => by
    refine ⟨hN0.symm, fun q hq => ?_, fun j hj => absurd hj (Nat.not_lt_zero j)⟩
    rw [hN0] at hq
    have e : q = 0 := by omega
    rw [e]
    exact ⟨rfl, rfl⟩
  | i + 1, hi => by
    obtain ⟨h1, h2, h3⟩ := plG_is hK hN0 hN hD hal hNn hgo i (by omega)
    have hi' : i < 10 * n := by omega
    obtain ⟨k1, k2⟩ := h2 (i / 10) (hal i hi')
    have hS : plG go (K 0 : Nat) 0 (i + 1) = plS go i (plG go (K 0 : Nat) 0 i) := rfl
    unfold plS plA at hS
    simp only at hS
    rw [k1, k2, hgo i hi'] at hS
    have hnle := hNn (i + 1) hi
    have hNi := hN i hi'
    have hq : fdk (plG go (K 0 : Nat) 0 i).2.1 (plG go (K 0 : Nat) 0 i).2.2.1 ((K (D i) : Nat) : Int) 0 (plG go (K 0 : Nat) 0 i).1 = D i := by
      rw [h1]
      by_cases c : D i < N i
      · refine fdk_of c (h2 _ c) (fun p hp hh => ?_)
        have := (h2 p (by omega)).1
        rw [this] at hh
        exact hK p (D i) hp (by omega) (by have := hh.1; omega)
      · have e : D i = N i := by have := hD i hi'; omega
        rw [e]
        refine fdk_none (fun p hp hh => ?_)
        have := (h2 p hp).1
        rw [this] at hh
        exact hK p (N i) hp (by omega) (by have := hh.1; omega)
    rw [hq] at hS
    rw [hS]
    refine ⟨by simp only; rw [h1]; exact hNi.symm, fun q hq' => ?_, fun j hj => ?_⟩
    · simp only
      by_cases e : q = D i
      · rw [e, uf_eq, uf_eq]
        exact ⟨rfl, rfl⟩
      · rw [uf_ne (by omega), uf_ne (by omega)]
        have := hD i hi'
        exact h2 q (by omega)
    · simp only
      by_cases e : j = i
      · rw [e, uf_eq]
      · rw [uf_ne (by omega)]
        exact h3 j (by omega)
theorem cnr_self {gd : Nat → Bool} {x : Int → Int} {P : Nat} (h : ∀ p q, p < P → q < P → nE gd x p q → p = q) : ∀ p, p < P → cnr gd x P p = p := fun p hp => by
  obtain ⟨h1, h2⟩ := cnr_spec gd x hp
  exact h _ _ h1 hp h2
theorem simp_num {gd : Nat → Bool} {x : Int → Int} {P n : Nat} {K D N : Nat → Nat} (hP : 0 < P) (hn40 : n ≤ 2000) (hself : ∀ p q, p < P → q < P → nE gd x p q → p = q) (hKP : ∀ s, s < n → K s < P) (hK0 : K 0 = 0) (hx : ∀ p c, p < P → c < 10 → nxt x p c < P) (hK : ∀ s t, s < t → t < n → K s ≠ K t) (hN0 : N 0 = 1) (hN : ∀ i, i < 10 * n → N (i + 1) = max (N i) (D i + 1)) (hD : ∀ i, i < 10 * n → D i ≤ N i) (hal : ∀ i, i < 10 * n → i / 10 < N i) (hNn : ∀ i, i ≤ 10 * n → N i ≤ n) (hNe : N (10 * n) = n) (hgo : ∀ i, i < 10 * n → nxt x (K (i / 10)) (i % 10) = K (D i)) : nuE gd x P (10 * n) ∧ (nuG gd x P (10 * n)).1 = n ∧ (∀ q : Nat, q < n → (nuG gd x P (10 * n)).2.1 q = (K q : Nat)) ∧ ∀ j : Nat, j < 10 * n → (nuG gd x P (10 * n)).2.2.2 j = (D j : Nat) := by
  have hc := cnr_self hself
  have hgo' : ∀ i, i < 10 * n → (fun (a : Int) (_ : Int) (c : Int) => (((cnr gd x P (nxt x a.toNat c.toNat) : Nat) : Int), (0 : Int))) ((K (i / 10) : Nat) : Int) 0 ((i % 10 : Nat) : Int) = (((K (D i) : Nat) : Int), 0) := by
    intro i hi
    show (((cnr gd x P (nxt x ((K (i / 10) : Nat) : Int).toNat (((i % 10 : Nat) : Int)).toNat) : Nat) : Int), (0 : Int)) = _
    have hKi : K (i / 10) < P := hKP _ (by omega)
    rw [Int.toNat_natCast, Int.toNat_natCast, hc _ (hx _ _ hKi (by omega)), hgo i hi]
  have key := plG_is (go := fun a _ c => (((cnr gd x P (nxt x a.toNat c.toNat) : Nat) : Int), 0)) hK hN0 hN hD hal hNn hgo'
  have e0 : plG (fun a _ c => (((cnr gd x P (nxt x a.toNat c.toNat) : Nat) : Int), 0)) ((K 0 : Nat) : Int) 0 = nuG gd x P := by
    unfold nuG
    rw [hc 0 hP, hK0]
  rw [e0] at key
  obtain ⟨a1, a2, a3⟩ := key (10 * n) (Nat.le_refl _)
  refine ⟨⟨fun j hj => ?_, ?_⟩, by rw [a1, hNe], fun q hq => (a2 q (by rw [hNe]; exact hq)).1, a3⟩
  · show j / 10 < (nuG gd x P j).1 ∧ (nuG gd x P (j + 1)).1 ≤ 2000
    rw [(key j (by omega)).1, (key (j + 1) (by omega)).1]
    have := hNn (j + 1) (by omega)
    exact ⟨hal j hj, by omega⟩
  · show 10 * n = 10 * (nuG gd x P (10 * n)).1
    rw [a1, hNe]
theorem rMa_is {gd : Nat → Bool} {x : Int → Int} {P n i : Nat} {K D : Nat → Nat} {u : uS} {k : Int} {M : Ma} (h : rMa u k (nuM gd x P i)) (hi : nuE gd x P i) (hE : nuE gd x P (10 * n)) (h1 : (nuG gd x P (10 * n)).1 = n) (h2 : ∀ q : Nat, q < n → (nuG gd x P (10 * n)).2.1 q = (K q : Nat)) (h3 : ∀ j : Nat, j < 10 * n → (nuG gd x P (10 * n)).2.2.2 j = (D j : Nat)) (m1 : M.1 = n) (m2 : ∀ s c : Nat, s < n → c < 10 → M.2.1 (s : Nat) (c : Nat) = (D (10 * s + c) : Nat)) (m3 : ∀ s : Nat, s < n → M.2.2 s = gd (K s)) : rMa u k M := by
  have ei := nuE_uniq hi hE
  rw [ei] at h
  obtain ⟨a1, a2, a3⟩ := h
  have a1 : u.1 301 k = ((nuG gd x P (10 * n)).1 : Nat) := a1
  refine ⟨by rw [a1, h1, m1], fun s c hs c0 c1 => ?_, fun s hs => ?_⟩
  · have hs1 := hs.1
    have hs2 := hs.2
    rw [m1] at hs2
    have b := a2 s c ⟨hs1, by show s < ((nuG gd x P (10 * n)).1 : Nat); omega⟩ c0 c1
    rw [b]
    show (nuG gd x P (10 * n)).2.2.2 (10 * s + c) = _
    have b3 := h3 (10 * s.toNat + c.toNat) (by omega)
    rw [show (((10 * s.toNat + c.toNat : Nat)) : Int) = 10 * s + c by omega] at b3
    have b2 := m2 s.toNat c.toNat (by omega) (by omega)
    rw [show ((s.toNat : Nat) : Int) = s by omega, show ((c.toNat : Nat) : Int) = c by omega] at b2
    rw [b3, b2]
  · have hs1 := hs.1
    have hs2 := hs.2
    rw [m1] at hs2
    have b := a3 s ⟨hs1, by show s < ((nuG gd x P (10 * n)).1 : Nat); omega⟩
    rw [b, m3 s.toNat (by omega)]
    show b2 (decide (s.toNat < (nuG gd x P (10 * n)).1) && gd ((nuG gd x P (10 * n)).2.1 ((s.toNat : Nat) : Int)).toNat) = _
    rw [decide_eq_true (by omega), Bool.true_and, h2 s.toNat (by omega), Int.toNat_natCast]
/-- the places of a simple machine -/
def sN (w : Int) : Nat := if w = -1 then 2 else 3
def sX1 (w : Int) : Int → Int := fun j => if 0 ≤ j ∧ j < 10 ∧ (w = j ∨ w = 10) then 1 else if w = -1 then 1 else 2
def sG (w : Int) (p : Nat) : Bool := if w = -1 then decide (p = 0) else decide (p = 1)
theorem sX1_n (w : Int) (p c : Nat) (hp : p < sN w) (hc : c < 10) : nxt (sX1 w) p c = if p = 0 ∧ (w = (c : Nat) ∨ w = 10) then 1 else if w = -1 then 1 else 2 := by
  unfold nxt sX1
  by_cases e : p = 0 ∧ (w = (c : Nat) ∨ w = 10)
  · rw [if_pos ⟨by omega, by omega, by omega⟩, if_pos e]; rfl
  · rw [if_neg (by omega), if_neg e]
    split <;> rfl
theorem sX1_lt (w : Int) (p c : Nat) (hp : p < sN w) (hc : c < 10) : nxt (sX1 w) p c < sN w := by
  rw [sX1_n w p c hp hc]
  unfold sN at *
  split
  · split <;> omega
  · split <;> omega
theorem sN_self {w : Int} (hw : w = -1 ∨ (0 ≤ w ∧ w ≤ 10)) : ∀ p q, p < sN w → q < sN w → nE (sG w) (sX1 w) p q → p = q := by
  intro p q hp hq h
  have hg := nE_gd h
  by_cases c : w = -1
  · have e2 : sN w = 2 := by unfold sN; rw [if_pos c]
    unfold sG at hg
    rw [if_pos c, if_pos c] at hg
    by_cases p0 : p = 0
    · rw [decide_eq_true p0] at hg
      have := of_decide_eq_true hg.symm
      omega
    · rw [decide_eq_false p0] at hg
      have := of_decide_eq_false hg.symm
      omega
  · have e2 : sN w = 3 := by unfold sN; rw [if_neg c]
    have hsg : ∀ p, sG w p = decide (p = 1) := fun p => by unfold sG; rw [if_neg c]
    rw [hsg, hsg] at hg
    by_cases p1 : p = 1
    · rw [decide_eq_true p1] at hg
      have := of_decide_eq_true hg.symm
      omega
    · rw [decide_eq_false p1] at hg
      have q1 := of_decide_eq_false hg.symm
      -- a letter that leads on from 0 alone
      obtain ⟨e, e1, e3⟩ : ∃ e : Nat, e < 10 ∧ (w = (e : Nat) ∨ w = 10) := by
        by_cases c10 : w = 10
        · exact ⟨0, by omega, Or.inr c10⟩
        · exact ⟨w.toNat, by omega, Or.inl (by omega)⟩
      have hgo := nE_gd (nE_go h e1)
      have on : ∀ r, r < sN w → r = 0 → nxt (sX1 w) r e = 1 := fun r hr r0 => by rw [sX1_n w r e hr e1, if_pos ⟨r0, e3⟩]
      have off : ∀ r, r < sN w → r ≠ 0 → nxt (sX1 w) r e = 2 := fun r hr r0 => by
        have hn : ¬ (r = 0 ∧ (w = (e : Nat) ∨ w = 10)) := fun hh => r0 hh.1
        rw [sX1_n w r e hr e1, if_neg hn, if_neg c]
      rw [hsg, hsg] at hgo
      by_cases p0 : p = 0
      · by_cases q0 : q = 0
        · omega
        · rw [on p hp p0, off q hq q0] at hgo
          cases hgo
      · by_cases q0 : q = 0
        · rw [off p hp p0, on q hq q0] at hgo
          cases hgo
        · omega
theorem D41_small {gd : Nat → Bool} {x : Int → Int} {P : Nat} (hP : P ≤ 40) : ¬ D41 gd x P := by
  rintro ⟨ch, h1, h2⟩
  have := ph_inj 41 P ch h1 (fun i j hij hj e => h2 i j hij hj (by rw [e]; exact nE_refl _))
  omega
/-- what a simple machine is numbered as -/
theorem sMp_is {w k : Int} {u : uS} {i : Nat} (hw : w = -1 ∨ (0 ≤ w ∧ w ≤ 10)) (hi : nuE (sG w) (sX1 w) (sN w) i) (h : rMa u k (nuM (sG w) (sX1 w) (sN w) i)) : rMa u k (sMp w) := by
  have hself := sN_self hw
  have hlt := sX1_lt w
  by_cases c : w = -1
  · have e2 : sN w = 2 := by unfold sN; rw [if_pos c]
    have hx := fun p cc hp hc => sX1_n w p cc hp hc
    have em : sMp w = eMp := by unfold sMp; rw [if_pos c]
    obtain ⟨b1, b2', b3, b4⟩ := simp_num (n := 2) (K := fun s => s) (D := fun _ => 1) (N := fun i => if i = 0 then 1 else 2) (by omega) (by omega) hself (fun s hs => by omega) rfl hlt (fun s t h _ => by omega) rfl (fun i hi => by show (if i + 1 = 0 then 1 else 2) = max (if i = 0 then 1 else 2) (1 + 1); rw [if_neg (by omega)]; split <;> omega) (fun i hi => by show 1 ≤ (if i = 0 then 1 else 2); split <;> omega) (fun i hi => by show i / 10 < (if i = 0 then 1 else 2); split <;> omega) (fun i hi => by show (if i = 0 then 1 else 2) ≤ 2; split <;> omega) rfl (fun i hi => by rw [hx _ _ (by omega) (by omega), if_neg (by omega), if_pos c])
    rw [em]
    refine rMa_is h hi b1 b2' b3 b4 rfl (fun s cc _ _ => rfl) (fun s hs => ?_)
    show decide (s = 0) = sG w s
    unfold sG
    rw [if_pos c]
  · have e2 : sN w = 3 := by unfold sN; rw [if_neg c]
    have hx : ∀ p cc : Nat, p < 3 → cc < 10 → nxt (sX1 w) p cc = if p = 0 ∧ (w = (cc : Nat) ∨ w = 10) then 1 else 2 := fun p cc hp hc => by rw [sX1_n w p cc (by omega) hc, if_neg c]
    have hsg : ∀ p, sG w p = decide (p = 1) := fun p => by unfold sG; rw [if_neg c]
    by_cases c10 : w = 10
    · have em : sMp w = aNy := by unfold sMp; rw [if_neg c, if_pos c10]
      obtain ⟨b1, b2', b3, b4⟩ := simp_num (n := 3) (K := fun s => s) (D := fun i => if i < 10 then 1 else 2) (N := fun i => if i = 0 then 1 else if i ≤ 10 then 2 else 3) (by omega) (by omega) hself (fun s hs => by omega) rfl hlt (fun s t h _ => by omega) rfl (fun i hi => by show (if i + 1 = 0 then 1 else if i + 1 ≤ 10 then 2 else 3) = max (if i = 0 then 1 else if i ≤ 10 then 2 else 3) ((if i < 10 then 1 else 2) + 1); (repeat' split) <;> omega) (fun i hi => by show (if i < 10 then 1 else 2) ≤ (if i = 0 then 1 else if i ≤ 10 then 2 else 3); (repeat' split) <;> omega) (fun i hi => by show i / 10 < (if i = 0 then 1 else if i ≤ 10 then 2 else 3); (repeat' split) <;> omega) (fun i hi => by show (if i = 0 then 1 else if i ≤ 10 then 2 else 3) ≤ 3; (repeat' split) <;> omega) rfl (fun i hi => by
        show nxt (sX1 w) (i / 10) (i % 10) = if i < 10 then 1 else 2
        rw [hx _ _ (by omega) (by omega)]
        by_cases h10 : i < 10
        · rw [if_pos ⟨by omega, Or.inr c10⟩, if_pos h10]
        · rw [if_neg (by omega), if_neg h10])
      rw [em]
      refine rMa_is h hi b1 b2' b3 b4 rfl (fun s cc hs hc => ?_) (fun s hs => (hsg s).symm)
      show (if (s : Int) = 0 then (1 : Int) else 2) = ((if 10 * s + cc < 10 then 1 else 2 : Nat) : Int)
      by_cases s0 : s = 0
      · rw [if_pos (by omega), if_pos (by omega)]; rfl
      · rw [if_neg (by omega), if_neg (by omega)]; rfl
    · have em : sMp w = lTr w := by unfold sMp; rw [if_neg c, if_neg c10, if_neg (by omega)]
      rw [em]
      by_cases c0 : w = 0
      · obtain ⟨b1, b2', b3, b4⟩ := simp_num (n := 3) (K := fun s => s) (D := fun i => if i = 0 then 1 else 2) (N := fun i => if i = 0 then 1 else if i = 1 then 2 else 3) (by omega) (by omega) hself (fun s hs => by omega) rfl hlt (fun s t h _ => by omega) rfl (fun i hi => by show (if i + 1 = 0 then 1 else if i + 1 = 1 then 2 else 3) = max (if i = 0 then 1 else if i = 1 then 2 else 3) ((if i = 0 then 1 else 2) + 1); (repeat' split) <;> omega) (fun i hi => by show (if i = 0 then 1 else 2) ≤ (if i = 0 then 1 else if i = 1 then 2 else 3); (repeat' split) <;> omega) (fun i hi => by show i / 10 < (if i = 0 then 1 else if i = 1 then 2 else 3); (repeat' split) <;> omega) (fun i hi => by show (if i = 0 then 1 else if i = 1 then 2 else 3) ≤ 3; (repeat' split) <;> omega) rfl (fun i hi => by
          show nxt (sX1 w) (i / 10) (i % 10) = if i = 0 then 1 else 2
          rw [hx _ _ (by omega) (by omega)]
          by_cases h10 : i = 0
          · rw [if_pos ⟨by omega, Or.inl (by omega)⟩, if_pos h10]
          · rw [if_neg (by omega), if_neg h10])
        refine rMa_is h hi b1 b2' b3 b4 rfl (fun s cc hs hc => ?_) (fun s hs => ?_)
        · show (if (s : Int) = 0 ∧ (cc : Int) = w then (if w = 0 then (1 : Int) else 2) else (if w = 0 then 2 else 1)) = ((if 10 * s + cc = 0 then 1 else 2 : Nat) : Int)
          rw [if_pos c0, if_pos c0]
          by_cases s0 : s = 0 ∧ cc = 0
          · rw [if_pos (by omega), if_pos (by omega)]; rfl
          · rw [if_neg (by omega), if_neg (by omega)]; rfl
        · show decide (s = if w = 0 then 1 else 2) = sG w s
          rw [hsg, if_pos c0]
      · obtain ⟨b1, b2', b3, b4⟩ := simp_num (n := 3) (K := fun s => if s = 1 then 2 else if s = 2 then 1 else s) (D := fun i => if i = w.toNat then 2 else 1) (N := fun i => if i = 0 then 1 else if i ≤ w.toNat then 2 else 3) (by omega) (by omega) hself (fun s hs => by show (if s = 1 then 2 else if s = 2 then 1 else s) < sN w; (repeat' split) <;> omega) rfl hlt (fun s t h _ => by show (if s = 1 then 2 else if s = 2 then 1 else s) ≠ (if t = 1 then 2 else if t = 2 then 1 else t); (repeat' split) <;> omega) rfl (fun i hi => by show (if i + 1 = 0 then 1 else if i + 1 ≤ w.toNat then 2 else 3) = max (if i = 0 then 1 else if i ≤ w.toNat then 2 else 3) ((if i = w.toNat then 2 else 1) + 1); (repeat' split) <;> omega) (fun i hi => by show (if i = w.toNat then 2 else 1) ≤ (if i = 0 then 1 else if i ≤ w.toNat then 2 else 3); (repeat' split) <;> omega) (fun i hi => by show i / 10 < (if i = 0 then 1 else if i ≤ w.toNat then 2 else 3); (repeat' split) <;> omega) (fun i hi => by show (if i = 0 then 1 else if i ≤ w.toNat then 2 else 3) ≤ 3; (repeat' split) <;> omega) (by show (if 10 * 3 = 0 then 1 else if 10 * 3 ≤ w.toNat then 2 else 3) = 3; rw [if_neg (by omega), if_neg (by omega)]) (fun i hi => by
          show nxt (sX1 w) (if i / 10 = 1 then 2 else if i / 10 = 2 then 1 else i / 10) (i % 10) = (if (if i = w.toNat then 2 else 1) = 1 then 2 else if (if i = w.toNat then 2 else 1) = 2 then 1 else (if i = w.toNat then 2 else 1))
          have hlt3 : (if i / 10 = 1 then 2 else if i / 10 = 2 then 1 else i / 10) < 3 := by (repeat' split) <;> omega
          rw [hx _ _ hlt3 (by omega)]
          by_cases h10 : i = w.toNat
          · have e0 : i / 10 = 0 := by omega
            rw [if_pos h10, if_pos ⟨by rw [e0]; rfl, Or.inl (by omega)⟩]
            rfl
          · have hn0 : ¬ ((if i / 10 = 1 then 2 else if i / 10 = 2 then 1 else i / 10) = 0 ∧ (w = ((i % 10 : Nat) : Int) ∨ w = 10)) := by
              rintro ⟨e, e'⟩
              have : i / 10 = 0 := by
                split at e
                · omega
                · split at e <;> omega
              omega
            rw [if_neg h10, if_neg hn0]
            rfl)
        refine rMa_is h hi b1 b2' b3 b4 rfl (fun s cc hs hc => ?_) (fun s hs => ?_)
        · show (if (s : Int) = 0 ∧ (cc : Int) = w then (if w = 0 then (1 : Int) else 2) else (if w = 0 then 2 else 1)) = ((if 10 * s + cc = w.toNat then 2 else 1 : Nat) : Int)
          rw [if_neg c0, if_neg c0]
          by_cases s0 : s = 0 ∧ (cc : Int) = w
          · rw [if_pos (by omega), if_pos (by omega)]; rfl
          · rw [if_neg (by omega), if_neg (by omega)]; rfl
        · show decide (s = if w = 0 then 1 else 2) = sG w (if s = 1 then 2 else if s = 2 then 1 else s)
          rw [hsg, if_neg c0]
          have hs3 : s = 0 ∨ s = 1 ∨ s = 2 := by omega
          rcases hs3 with e | e | e <;> rw [e] <;> rfl
