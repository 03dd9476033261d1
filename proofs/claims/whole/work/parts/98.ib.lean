/-! Equations over a graph: what leads into a circle has no end, the rest has one answer -/
noncomputable def pd (p : Prop) : Bool := @decide p (Classical.propDecidable p)
theorem pd_t {p : Prop} : pd p = true ↔ p := by
  unfold pd
  exact @decide_eq_true_iff p (Classical.propDecidable p)
theorem pd_f {p : Prop} : pd p = false ↔ ¬ p := by
  unfold pd
  exact @decide_eq_false_iff_not p (Classical.propDecidable p)
theorem tc_dec {n : Nat} {R G : Int → Int → Prop} (h : tcR n R G) {x c : Int} (hx : iR n x) (hc : iR n c) (hG : G x c) : ∃ y, iR n y ∧ R x y ∧ (y = c ∨ G y c) := by
  refine h.2.2 (fun x c => ∃ y, iR n y ∧ R x y ∧ (y = c ∨ G y c)) (fun x y _ hy hR => ⟨y, hy, hR, Or.inl rfl⟩) (fun x c z hx hc hz hxc hcz => ?_) x c hx hc hG
  obtain ⟨y, hy, hR, hyc⟩ := hxc
  obtain ⟨y', hy', hR', hyz⟩ := hcz
  have hcz : G c z := by
    have h1 := h.1 c y' hc hy' hR'
    rcases hyz with e | e
    · rw [← e]; exact h1
    · exact h.2.1 c y' z hc hy' hz h1 e
  refine ⟨y, hy, hR, Or.inr ?_⟩
  rcases hyc with e | e
  · rw [e]; exact hcz
  · exact h.2.1 y c z hy hc hz e hcz
/-- it leads into a circle -/
def bd (n : Nat) (G : Int → Int → Prop) (x : Int) : Prop := ∃ c, iR n c ∧ (c = x ∨ G x c) ∧ G c c
noncomputable def rk (n : Nat) (G : Int → Int → Prop) (x : Int) : Nat := ct (fun i => pd (G x (i : Int))) n
theorem bd_step {n : Nat} {R G : Int → Int → Prop} (h : tcR n R G) {x y : Int} (hx : iR n x) (hy : iR n y) (hR : R x y) (hb : bd n G y) : bd n G x := by
  obtain ⟨c, hc, h1, h2⟩ := hb
  refine ⟨c, hc, Or.inr ?_, h2⟩
  have := h.1 x y hx hy hR
  rcases h1 with e | e
  · rw [e]; exact this
  · exact h.2.1 x y c hx hy hc this e
theorem rk_lt {n : Nat} {R G : Int → Int → Prop} (h : tcR n R G) {x y : Int} (hx : iR n x) (hy : iR n y) (hR : R x y) (hb : ¬ bd n G x) : ¬ bd n G y ∧ rk n G y < rk n G x := by
  have hb' : ¬ bd n G y := fun h' => hb (bd_step h hx hy hR h')
  refine ⟨hb', ct_lt n (fun i hi hp => ?_) ⟨y.toNat, by have := hy.1; have := hy.2; omega, ?_, ?_⟩⟩
  · rw [pd_t] at hp ⊢
    exact h.2.1 x y i hx hy ⟨by omega, by omega⟩ (h.1 x y hx hy hR) hp
  · have e : ((y.toNat : Nat) : Int) = y := by have := hy.1; omega
    rw [pd_f, e]
    exact fun hyy => hb' ⟨y, hy, Or.inl rfl, hyy⟩
  · have e : ((y.toNat : Nat) : Int) = y := by have := hy.1; omega
    rw [pd_t, e]
    exact h.1 x y hx hy hR
theorem rk_n {n : Nat} {R G : Int → Int → Prop} (h : tcR n R G) {x : Int} (hx : iR n x) (hb : ¬ bd n G x) : rk n G x < n := by
  by_cases hlt : rk n G x < n
  · exact hlt
  · have e : ((x.toNat : Nat) : Int) = x := by have := hx.1; omega
    have := ct_full (p := fun i => pd (G x (i : Int))) n (by unfold rk at hlt; omega) x.toNat (by have := hx.1; have := hx.2; omega)
    rw [pd_t, e] at this
    exact absurd ⟨x, hx, Or.inl rfl, this⟩ hb
/-- no end where it leads into a circle; else as the equation says -/
def Sol (n : Nat) (G : Int → Int → Prop) (Φ : (Int → Int) → Int → Int) (f : Int → Int) : Prop := ∀ x, iR n x → (bd n G x → f x = 5000000000000000000) ∧ (¬ bd n G x → f x = Φ f x)
def dep (n : Nat) (R : Int → Int → Prop) (Φ : (Int → Int) → Int → Int) : Prop := ∀ (f g : Int → Int) (x : Int), iR n x → (∀ y, iR n y → R x y → f y = g y) → Φ f x = Φ g x
theorem sol_eq {n : Nat} {R G : Int → Int → Prop} {Φ : (Int → Int) → Int → Int} {f g : Int → Int} (h : tcR n R G) (hd : dep n R Φ) (hf : Sol n G Φ f) (hg : Sol n G Φ g) : ∀ x, iR n x → f x = g x := by
  have key : ∀ (k : Nat) (x : Int), iR n x → ¬ bd n G x → rk n G x < k → f x = g x := by
    intro k
    induction k with
    | zero => intro x _ _ h0; omega
    | succ k ih =>
      intro x hx hb hk
      rw [(hf x hx).2 hb, (hg x hx).2 hb]
      refine hd f g x hx (fun y hy hR => ?_)
      obtain ⟨h1, h2⟩ := rk_lt h hx hy hR hb
      exact ih y hy h1 (by omega)
  intro x hx
  by_cases hb : bd n G x
  · rw [(hf x hx).1 hb, (hg x hx).1 hb]
  · exact key (rk n G x + 1) x hx hb (by omega)
noncomputable def slI (n : Nat) (G : Int → Int → Prop) (Φ : (Int → Int) → Int → Int) : Nat → Int → Int
  | 0 => fun _ => 0
  | k + 1 => fun x => if pd (bd n G x) = true then 5000000000000000000 else Φ (slI n G Φ k) x
theorem sl_sol {n : Nat} {R G : Int → Int → Prop} {Φ : (Int → Int) → Int → Int} (h : tcR n R G) (hd : dep n R Φ) : Sol n G Φ (slI n G Φ n) := by
  have key : ∀ (k : Nat) (x : Int), iR n x → ¬ bd n G x → rk n G x < k → slI n G Φ k x = slI n G Φ (k + 1) x := by
    intro k
    induction k with
    | zero => intro x _ _ h0; omega
    | succ k ih =>
      intro x hx hb hk
      have e : pd (bd n G x) = false := pd_f.mpr hb
      show (if pd (bd n G x) = true then 5000000000000000000 else Φ (slI n G Φ k) x) = (if pd (bd n G x) = true then 5000000000000000000 else Φ (slI n G Φ (k + 1)) x)
      rw [e, if_neg (by decide), if_neg (by decide)]
      refine hd _ _ x hx (fun y hy hR => ?_)
      obtain ⟨h1, h2⟩ := rk_lt h hx hy hR hb
      exact ih y hy h1 (by omega)
  intro x hx
  constructor
  · intro hb
    obtain ⟨k, hk⟩ : ∃ k, n = k + 1 := ⟨n - 1, by have := hx.1; have := hx.2; omega⟩
    have e : pd (bd n G x) = true := pd_t.mpr hb
    rw [show slI n G Φ n x = slI n G Φ (k + 1) x by rw [← hk]]
    show (if pd (bd n G x) = true then 5000000000000000000 else Φ (slI n G Φ k) x) = _
    rw [e, if_pos rfl]
  · intro hb
    have e : pd (bd n G x) = false := pd_f.mpr hb
    rw [key n x hx hb (rk_n h hx hb)]
    show (if pd (bd n G x) = true then 5000000000000000000 else Φ (slI n G Φ n) x) = _
    rw [e, if_neg (by decide)]
theorem sl_cv {n : Nat} {G : Int → Int → Prop} {Φ : (Int → Int) → Int → Int} (hΦ : ∀ f : Int → Int, (∀ x, cv (f x)) → ∀ x, cv (Φ f x)) : ∀ (k : Nat) (x : Int), cv (slI n G Φ k x)
  | 0, _ => cv_0
  | k + 1, x => by
    show cv (if pd (bd n G x) = true then 5000000000000000000 else Φ (slI n G Φ k) x)
    split
    · exact cv_E
    · exact hΦ _ (fun y => sl_cv hΦ k y) x
/-- every relation has its least transitive one -/
def tcl (n : Nat) (R : Int → Int → Prop) (x y : Int) : Prop := ∀ T : Int → Int → Prop, (∀ x y, iR n x → iR n y → R x y → T x y) → (∀ x y z, iR n x → iR n y → iR n z → T x y → T y z → T x z) → T x y
theorem tcl_tc (n : Nat) (R : Int → Int → Prop) : tcR n R (tcl n R) := ⟨fun x y hx hy h T h1 _ => h1 x y hx hy h, fun x y z hx hy hz h1 h2 T t1 t2 => t2 x y z hx hy hz (h1 T t1 t2) (h2 T t1 t2), fun T t1 t2 x y _ _ h => h T t1 t2⟩
/-- what is put in order leads into no circle, what stays leads into one -/
theorem ord_bd {n : Nat} {R G : Int → Int → Prop} (h : tcR n R G) {m : Nat} {ord : Nat → Int} (ho : ∀ i, i < m → iR n (ord i)) (hs : ∀ i, i < m → ∀ y, iR n y → R (ord i) y → ∃ j, j < i ∧ ord j = y) : ∀ i, i < m → ¬ bd n G (ord i) := by
  have key : ∀ (k i : Nat), i < k → i < m → ¬ bd n G (ord i) := by
    intro k
    induction k with
    | zero => intro i h0; omega
    | succ k ih =>
      intro i hk hi ⟨c, hc, h1, h2⟩
      have hx := ho i hi
      have : ∃ y, iR n y ∧ R (ord i) y ∧ bd n G y := by
        rcases h1 with e | e
        · rw [e] at h2
          obtain ⟨y, hy, hR, hyc⟩ := tc_dec h hx hx h2
          refine ⟨y, hy, hR, ord i, hx, ?_, h2⟩
          rcases hyc with e' | e'
          · exact Or.inl e'.symm
          · exact Or.inr e'
        · obtain ⟨y, hy, hR, hyc⟩ := tc_dec h hx hc e
          refine ⟨y, hy, hR, c, hc, ?_, h2⟩
          rcases hyc with e' | e'
          · exact Or.inl e'.symm
          · exact Or.inr e'
      obtain ⟨y, hy, hR, hb⟩ := this
      obtain ⟨j, hj, ej⟩ := hs i hi y hy hR
      rw [← ej] at hb
      exact ih j (by omega) (by omega) hb
  exact fun i hi => key (i + 1) i (by omega) hi
theorem left_bd {n : Nat} {R G : Int → Int → Prop} (h : tcR n R G) {U : Int → Prop} (hU : ∀ x, iR n x → U x → ∃ y, iR n y ∧ R x y ∧ U y) : ∀ x, iR n x → U x → bd n G x := by
  have key : ∀ (k : Nat) (x : Int), iR n x → U x → ¬ bd n G x → rk n G x < k → False := by
    intro k
    induction k with
    | zero => intro x _ _ _ h0; omega
    | succ k ih =>
      intro x hx hu hb hk
      obtain ⟨y, hy, hR, hu'⟩ := hU x hx hu
      obtain ⟨h1, h2⟩ := rk_lt h hx hy hR hb
      exact ih y hy hu' h1 (by omega)
  intro x hx hu
  by_cases hb : bd n G x
  · exact hb
  · exact (key (rk n G x + 1) x hx hu hb (by omega)).elim
