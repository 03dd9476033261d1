/-! Numbers of trees: what both sides count -/
abbrev Gm : Type := Nat × Nat × (Int → Int) × (Int → Int) × (Int → Int → Int) × (Int → Prop)
abbrev gv (g : Gm) : Nat := g.1
abbrev gr (g : Gm) : Nat := g.2.1
abbrev gh (g : Gm) : Int → Int := g.2.2.1
abbrev gl (g : Gm) : Int → Int := g.2.2.2.1
abbrev gy (g : Gm) : Int → Int → Int := g.2.2.2.2.1
abbrev gb (g : Gm) : Int → Prop := g.2.2.2.2.2
/-- a grammar as both sides have it; a rule of blank ones makes its variable blank -/
def gK (g : Gm) : Prop := gv g ≤ 10 ∧ gr g ≤ 30 ∧ (∀ r : Int, 0 ≤ r → r < gr g → iR (gv g) (gh g r) ∧ 0 ≤ gl g r ∧ gl g r ≤ 6 ∧ ∀ k, 0 ≤ k → k < gl g r → symR (gv g) (gy g r k)) ∧ (∀ r : Int, 0 ≤ r → r < gr g → (∀ k, 0 ≤ k → k < gl g r → 100 ≤ gy g r k ∧ gb g (gy g r k - 100)) → gb g (gh g r))
/-- a rule of blank ones alone -/
def bR (g : Gm) (r : Int) : Prop := ∀ k, 0 ≤ k → k < gl g r → 100 ≤ gy g r k ∧ gb g (gy g r k - 100)
def eR (g : Gm) (x y : Int) : Prop := ∃ r : Int, 0 ≤ r ∧ r < gr g ∧ gh g r = x ∧ bR g r ∧ ∃ k, 0 ≤ k ∧ k < gl g r ∧ gy g r k = 100 + y
noncomputable def eΦ (g : Gm) (e : Int → Int) (x : Int) : Int := su (fun r => if pd (gh g r = x ∧ bR g r) = true then pr (fun k => e (gy g r k - 100)) (gl g r).toNat else 0) (gr g)
theorem eΦ_dep (g : Gm) (hg : gK g) : dep (gv g) (eR g) (eΦ g) := fun e e' x hx h => su_congr _ (fun r hr => by
  by_cases c : gh g r = x ∧ bR g r
  · rw [if_pos (pd_t.mpr c), if_pos (pd_t.mpr c)]
    refine pr_congr _ (fun k hk => h _ ?_ ⟨r, by omega, by omega, c.1, c.2, k, by omega, by omega, by omega⟩)
    have h1 := (c.2 k (by omega) (by omega)).1
    have h2 := (hg.2.2.1 r (by omega) (by omega)).2.2.2 k (by omega) (by omega)
    rcases h2 with z | z
    · omega
    · exact ⟨by omega, by omega⟩
  · rw [if_neg (fun h => c (pd_t.mp h)), if_neg (fun h => c (pd_t.mp h))])
noncomputable def em (g : Gm) : Int → Int := slI (gv g) (tcl (gv g) (eR g)) (eΦ g) (gv g)
theorem em_sol (g : Gm) (hg : gK g) : Sol (gv g) (tcl (gv g) (eR g)) (eΦ g) (em g) := sl_sol (tcl_tc _ _) (eΦ_dep g hg)
theorem eΦ_cv (g : Gm) (e : Int → Int) (h : ∀ x, cv (e x)) (x : Int) : cv (eΦ g e x) := su_cv _ (fun r _ => by
  show cv (if _ then _ else _)
  split
  · exact pr_cv _ (fun k _ => h _)
  · exact cv_0)
theorem em_cv (g : Gm) (x : Int) : cv (em g x) := sl_cv (eΦ_cv g) _ x
/-- the number of empty trees of a symbol -/
noncomputable def eS (g : Gm) (s : Int) : Int := if s < 100 then 0 else em g (s - 100)
theorem eS_cv (g : Gm) (s : Int) : cv (eS g s) := by
  unfold eS
  split
  · exact cv_0
  · exact em_cv g _
/-- a variable over the whole stretch, all beside it empty -/
noncomputable def al (g : Gm) (x y : Int) : Int := su (fun r => su (fun k => if pd (gh g r = x ∧ gy g r k = 100 + y) = true then prB (fun h => eS g (gy g r h)) k (gl g r).toNat else 0) (gl g r).toNat) (gr g)
theorem prB_cv {f : Nat → Int} {k : Nat} (hf : ∀ i, cv (f i)) : ∀ n : Nat, cv (prB f k n)
  | 0 => cv_1
  | n + 1 => by
    simp only [prB]
    split
    · exact prB_cv hf n
    · exact cv_T (prB_cv hf n) (hf n)
theorem al_cv (g : Gm) (x y : Int) : cv (al g x y) := su_cv _ (fun r _ => su_cv _ (fun k _ => by
  show cv (if _ then _ else _)
  split
  · exact prB_cv (fun h => eS_cv g _) _
  · exact cv_0))
def uR (g : Gm) (x y : Int) : Prop := al g x y ≠ 0
def th (g : Gm) (B : Int → Int) (x : Int) : Prop := ∃ b, iR (gv g) b ∧ (b = x ∨ tcl (gv g) (uR g) x b) ∧ B b ≠ 0
def sR (g : Gm) (B : Int → Int) (x y : Int) : Prop := uR g x y ∧ th g B y
def suF (a : Int) (f : Nat → Int) : Nat → Int
  | 0 => a
  | k + 1 => sP (suF a f k) (f k)
theorem suF_cv {a : Int} (ha : cv a) {f : Nat → Int} : ∀ k : Nat, (∀ i, i < k → cv (f i)) → cv (suF a f k)
  | 0, _ => ha
  | k + 1, h => cv_P (suF_cv ha k (fun i hi => h i (by omega))) (h k (by omega))
theorem suF_congr {a : Int} {f g : Nat → Int} : ∀ k : Nat, (∀ i, i < k → f i = g i) → suF a f k = suF a g k
  | 0, _ => rfl
  | k + 1, h => by
    simp only [suF]
    rw [suF_congr k (fun i hi => h i (by omega)), h k (by omega)]
noncomputable def sΦ (g : Gm) (B f : Int → Int) (x : Int) : Int := suF (B x) (fun y => if pd (sR g B x y) = true then sT (al g x y) (f y) else 0) (gv g)
theorem sΦ_dep (g : Gm) (B : Int → Int) : dep (gv g) (sR g B) (sΦ g B) := fun f f' x hx h => suF_congr _ (fun y hy => by
  by_cases c : sR g B x y
  · rw [if_pos (pd_t.mpr c), if_pos (pd_t.mpr c), h y ⟨by omega, by omega⟩ c]
  · rw [if_neg (fun h => c (pd_t.mp h)), if_neg (fun h => c (pd_t.mp h))])
theorem sΦ_cv (g : Gm) (B : Int → Int) (hB : ∀ x, cv (B x)) (f : Int → Int) (h : ∀ x, cv (f x)) (x : Int) : cv (sΦ g B f x) := suF_cv (hB x) _ (fun y _ => by
  show cv (if _ then _ else _)
  split
  · exact cv_T (al_cv g _ _) (h _)
  · exact cv_0)
noncomputable def so (g : Gm) (B : Int → Int) : Int → Int := slI (gv g) (tcl (gv g) (sR g B)) (sΦ g B) (gv g)
theorem so_sol (g : Gm) (B : Int → Int) : Sol (gv g) (tcl (gv g) (sR g B)) (sΦ g B) (so g B) := sl_sol (tcl_tc _ _) (sΦ_dep g B)
theorem so_cv (g : Gm) (B : Int → Int) (hB : ∀ x, cv (B x)) (x : Int) : cv (so g B x) := sl_cv (sΦ_cv g B hB) _ x
theorem th_up {g : Gm} {B : Int → Int} {x y : Int} (hx : iR (gv g) x) (hy : iR (gv g) y) (h : tcl (gv g) (uR g) x y) (ht : th g B y) : th g B x := by
  obtain ⟨b, hb, h1, h2⟩ := ht
  refine ⟨b, hb, Or.inr ?_, h2⟩
  rcases h1 with e | e
  · rw [e]; exact h
  · exact (tcl_tc _ _).2.1 x y b hx hy hb h e
theorem sR_tc {g : Gm} {B : Int → Int} {x y : Int} (hx : iR (gv g) x) (hy : iR (gv g) y) : tcl (gv g) (sR g B) x y ↔ tcl (gv g) (uR g) x y ∧ th g B y := by
  constructor
  · intro h
    exact h (fun x y => tcl (gv g) (uR g) x y ∧ th g B y) (fun x y hx hy h => ⟨(tcl_tc _ _).1 x y hx hy h.1, h.2⟩) (fun x y z hx hy hz h1 h2 => ⟨(tcl_tc _ _).2.1 x y z hx hy hz h1.1 h2.1, h2.2⟩)
  · rintro ⟨h, ht⟩
    have := (tcl_tc (gv g) (uR g)).2.2 (fun x y => tcl (gv g) (uR g) x y ∧ (th g B y → tcl (gv g) (sR g B) x y)) (fun x y hx hy h => ⟨(tcl_tc _ _).1 x y hx hy h, fun ht => (tcl_tc _ _).1 x y hx hy ⟨h, ht⟩⟩) (fun x y z hx hy hz h1 h2 => ⟨(tcl_tc _ _).2.1 x y z hx hy hz h1.1 h2.1, fun ht => (tcl_tc _ _).2.1 x y z hx hy hz (h1.2 (th_up hy hz h2.1 ht)) (h2.2 ht)⟩) x y hx hy h
    exact this.2 ht
/-- no end: into a circle that has trees -/
theorem sbd {g : Gm} {B : Int → Int} {x : Int} (hx : iR (gv g) x) : bd (gv g) (tcl (gv g) (sR g B)) x ↔ ∃ c, iR (gv g) c ∧ (c = x ∨ tcl (gv g) (uR g) x c) ∧ tcl (gv g) (uR g) c c ∧ th g B c := by
  constructor
  · rintro ⟨c, hc, h1, h2⟩
    obtain ⟨h3, h4⟩ := (sR_tc hc hc).mp h2
    refine ⟨c, hc, ?_, h3, h4⟩
    rcases h1 with e | e
    · exact Or.inl e
    · exact Or.inr ((sR_tc hx hc).mp e).1
  · rintro ⟨c, hc, h1, h3, h4⟩
    refine ⟨c, hc, ?_, (sR_tc hc hc).mpr ⟨h3, h4⟩⟩
    rcases h1 with e | e
    · exact Or.inl e
    · exact Or.inr ((sR_tc hx hc).mpr ⟨e, h4⟩)
theorem suF_z {f : Nat → Int} : ∀ k : Nat, (∀ i, i < k → f i = 0) → suF 0 f k = 0
  | 0, _ => rfl
  | k + 1, h => by
    simp only [suF]
    rw [suF_z k (fun i hi => h i (by omega)), h k (by omega), sP_0 cv_0]
/-- where nothing begins, nothing is -/
theorem so_0 {g : Gm} {B : Int → Int} {x : Int} (hx : iR (gv g) x) (ht : ¬ th g B x) : so g B x = 0 := by
  have hb : ¬ bd (gv g) (tcl (gv g) (sR g B)) x := by
    rw [sbd hx]
    rintro ⟨c, hc, h1, h3, h4⟩
    rcases h1 with e | e
    · rw [e] at h4; exact ht h4
    · exact ht (th_up hx hc e h4)
  rw [(so_sol g B x hx).2 hb]
  have hB : B x = 0 := by
    by_cases e : B x = 0
    · exact e
    · exact absurd ⟨x, hx, Or.inl rfl, e⟩ ht
  unfold sΦ
  rw [hB]
  refine suF_z _ (fun y hy => if_neg (fun h => ?_))
  have := pd_t.mp h
  exact ht (th_up hx ⟨by omega, by omega⟩ ((tcl_tc _ _).1 _ _ hx ⟨by omega, by omega⟩ this.1) this.2)
