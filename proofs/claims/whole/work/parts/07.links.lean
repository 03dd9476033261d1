/-! links of methods, by kind: the words that a row names, at their places -/
abbrev ev_MR : Type := Nat × Nat × Nat × Nat × Nat × Nat × Nat
def ev_mthW (r : ev_MR) : List (Option Jvm.Cond) := match r.2.1 with
  | 0 => [some (Cond.methodLink (ev_nm (r.1 / 1000)) (r.1 % 1000) (ev_yN r.2.2.1)), some (Cond.static (ev_yN r.2.2.1))]
  | 1 => [some (Cond.methodLink (ev_nm (r.1 / 1000)) (r.1 % 1000) Lib.objectInit), some (Cond.instanceMethod Lib.objectInit)]
  | 2 => [some (Cond.methodLink (ev_nm (r.1 / 1000)) (r.1 % 1000) arraycopyName), some (Cond.static arraycopyName)]
  | 3 => [some (Cond.methodLink (ev_nm (r.1 / 1000)) (r.1 % 1000) (ev_yN r.2.2.1)), some (Cond.instanceMethod (ev_yN r.2.2.1)), some (Cond.selects (ev_yN r.2.2.1).cls (ev_yN r.2.2.1) (ev_yN r.2.2.1))]
  | 4 => [some (Cond.methodLink (ev_nm (r.1 / 1000)) (r.1 % 1000) (ev_yN r.2.2.1)), some (Cond.instanceMethod (ev_yN r.2.2.1))]
  | 5 => [some (Cond.methodLinkNest (ev_nm (r.1 / 1000)) (r.1 % 1000) (ev_yN r.2.2.1) "GrammarGuard"), some (Cond.static (ev_yN r.2.2.1))]
  | 6 => [some (Cond.methodLinkNest (ev_nm (r.1 / 1000)) (r.1 % 1000) (ev_yN r.2.2.1) "GrammarGuard"), some (Cond.instanceMethod (ev_yN r.2.2.1)), some (Cond.selects (ev_yN r.2.2.1).cls (ev_yN r.2.2.1) (ev_yN r.2.2.1))]
  | 7 => [some (Cond.methodLinkNest (ev_nm (r.1 / 1000)) (r.1 % 1000) (ev_yN r.2.2.1) "GrammarGuard"), some (Cond.instanceMethod (ev_yN r.2.2.1))]
  | 8 => [some (Cond.methodLink (ev_nm (r.1 / 1000)) (r.1 % 1000) Lib.Math.max.name), some (Cond.static Lib.Math.max.name), some (Cond.code Lib.Math.max.name Lib.Math.max.code 2 (some .int))]
  | 9 => [some (Cond.methodLink (ev_nm (r.1 / 1000)) (r.1 % 1000) Lib.Math.min.name), some (Cond.static Lib.Math.min.name), some (Cond.code Lib.Math.min.name Lib.Math.min.code 2 (some .int))]
  | 10 => [some (Cond.methodLink (ev_nm (r.1 / 1000)) (r.1 % 1000) Lib.MathLoose.min_long.x), some (Cond.static Lib.MathLoose.min_long.x), some (Cond.code Lib.MathLoose.min_long.x Lib.MathLoose.min_long.code 4 (some .long))]
  | _ => [none]
def ev_mthP (r : ev_MR) : List (Option Jvm.Cond) := match r.2.1 with
  | 3 => [ev_pt (r.2.2.2.2.1), ev_pt (r.2.2.2.2.2.1), ev_pt (r.2.2.2.2.2.2)]
  | 6 => [ev_pt (r.2.2.2.2.1), ev_pt (r.2.2.2.2.2.1), ev_pt (r.2.2.2.2.2.2)]
  | 8 => [ev_pt (r.2.2.2.2.1), ev_pt (r.2.2.2.2.2.1), ev_pt (r.2.2.2.2.2.2)]
  | 9 => [ev_pt (r.2.2.2.2.1), ev_pt (r.2.2.2.2.2.1), ev_pt (r.2.2.2.2.2.2)]
  | 10 => [ev_pt (r.2.2.2.2.1), ev_pt (r.2.2.2.2.2.1), ev_pt (r.2.2.2.2.2.2)]
  | _ => [ev_pt (r.2.2.2.2.1), ev_pt (r.2.2.2.2.2.1)]
set_option maxRecDepth 100000 in
theorem ev_mtw0 : ev_mth0_L.map ev_mthW = ev_mth0_L.map ev_mthP := rfl
set_option maxRecDepth 100000 in
theorem ev_mtw1 : ev_mth1_L.map ev_mthW = ev_mth1_L.map ev_mthP := rfl
set_option maxRecDepth 100000 in
theorem ev_mtw2 : ev_mth2_L.map ev_mthW = ev_mth2_L.map ev_mthP := rfl
set_option maxRecDepth 100000 in
theorem ev_mtw3 : ev_mth3_L.map ev_mthW = ev_mth3_L.map ev_mthP := rfl
set_option maxRecDepth 100000 in
theorem ev_mtw4 : ev_mth4_L.map ev_mthW = ev_mth4_L.map ev_mthP := rfl
set_option maxRecDepth 100000 in
theorem ev_mtw5 : ev_mth5_L.map ev_mthW = ev_mth5_L.map ev_mthP := rfl
set_option maxRecDepth 100000 in
theorem ev_mtw6 : ev_mth6_L.map ev_mthW = ev_mth6_L.map ev_mthP := rfl
set_option maxRecDepth 100000 in
theorem ev_mtw7 : ev_mth7_L.map ev_mthW = ev_mth7_L.map ev_mthP := rfl
set_option maxRecDepth 100000 in
theorem ev_mtw8 : ev_mth8_L.map ev_mthW = ev_mth8_L.map ev_mthP := rfl
set_option maxRecDepth 100000 in
theorem ev_mtw9 : ev_mth9_L.map ev_mthW = ev_mth9_L.map ev_mthP := rfl
set_option maxRecDepth 100000 in
theorem ev_mtn_all : ev_mthL.all (fun r => decide (r.2.1 = 1) || (decide (r.2.1 = 2) || (decide (8 ≤ r.2.1) || decide (ev_mnL[r.2.2.1]? = some r.2.2.2.1)))) = true := by decide +kernel
