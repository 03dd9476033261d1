/-! What the tables' rows say, checked row by row -/
theorem ev_look_mem {α : Type} {k : Nat} {a : α} : ∀ {l : List (Nat × α)}, ev_look k l = some a → (k, a) ∈ l
  | [], h => by cases h
  | (j, x) :: r, h => by
    unfold ev_look at h
    split at h
    · next e => cases h; subst e; exact List.mem_cons_self
    · exact List.mem_cons_of_mem _ (ev_look_mem h)
def ev_fldC (r : Nat × Nat × Nat × Nat) : Bool := match ev_cl[r.2.1]? with
  | some q => decide (r.2.2.1 < q.2.2) && decide (ev_pt (r.2.2.2) = some (Cond.fieldLink (ev_nm (r.1 / 1000)) (r.1 % 1000) q.1 (q.2.1 r.2.2.1).2.1 (q.2.1 r.2.2.1).2.2.1)) && decide ((q.2.1 r.2.2.1).1 = q.1) && decide (r.1 % 1000 + r.1 / 1000 * 1000 = r.1)
  | none => false
set_option maxRecDepth 100000 in
theorem ev_fld_all : ev_fldL.all ev_fldC = true := by decide +kernel
def ev_conC (r : Nat × Value × Nat) : Bool := match r.2.1 with
  | .int v => decide (ev_pt (r.2.2) = some (Jvm.Cond.constant (ev_nm (r.1 / 1000)) (r.1 % 1000) v))
  | .long v => decide (ev_pt (r.2.2) = some (Jvm.Cond.constantLong (ev_nm (r.1 / 1000)) (r.1 % 1000) v))
  | _ => false
set_option maxRecDepth 100000 in
theorem ev_con_all : ev_conL.all ev_conC = true := by decide +kernel
def ev_clsC (r : Nat × Nat × Nat) : Bool := decide (ev_pt (r.2.2) = some (Cond.classLink (ev_nm (r.1 / 1000)) (r.1 % 1000) (ev_nm r.2.1)))
set_option maxRecDepth 100000 in
theorem ev_cls_all : ev_clsL.all ev_clsC = true := by decide +kernel
/-- classes: the rows of their fields, types, names; that they can be made; that all classes are ready -/
def ev_claC (i : Nat) : Bool := match ev_cl[i]?, ev_layP[i]?, ev_insP[i]? with
  | some q, some ps, some pi => decide (q.1 = ev_nm i) && decide ((List.range q.2.2).map (u_lay q.1 q.2.1) = ps.filterMap (fun j => ev_pt (j))) && decide ((ev_cty i).length = q.2.2) && (List.range q.2.2).all (fun k => decide (parseFieldDescriptor (q.2.1 k).2.2.1 = (ev_cty i)[k]?)) && decide (ev_pt (pi) = some (Cond.instantiable q.1 q.2.2)) && (List.range q.2.2).all (fun k => decide ((q.2.1 k).1 = q.1))
  | _, _, _ => false
set_option maxRecDepth 100000 in
theorem ev_cla_all : (List.range 13).all ev_claC = true := by decide +kernel
def ev_nodup (i : Nat) : Bool := match ev_cl[i]? with
  | some q => (List.range q.2.2).all (fun a => (List.range a).all (fun c => decide ((q.2.1 a).2.1 ≠ (q.2.1 c).2.1)))
  | none => false
set_option maxRecDepth 100000 in
theorem ev_nodup_all : (List.range 13).all ev_nodup = true := by decide +kernel
set_option maxRecDepth 100000 in
theorem ev_ini_all : (List.range 19).all (fun i => decide (ev_pt (ev_iniP.getD i 0) = some (Cond.initialized (ev_nm i)))) = true := by decide +kernel
def ev_codeAt (p : Nat) : Option ByteArray := match ev_pt (p) with
  | some (.code _ c _ _) => some c
  | _ => none
set_option maxRecDepth 100000 in
theorem ev_code0 : ev_mL0.map (fun q => some q.2.2.2.1) = ev_mL0.map (fun q => ev_codeAt q.2.2.2.2.2.2.2) := rfl
set_option maxRecDepth 100000 in
theorem ev_code1 : ev_mL1.map (fun q => some q.2.2.2.1) = ev_mL1.map (fun q => ev_codeAt q.2.2.2.2.2.2.2) := rfl
set_option maxRecDepth 100000 in
theorem ev_code2 : ev_mL2.map (fun q => some q.2.2.2.1) = ev_mL2.map (fun q => ev_codeAt q.2.2.2.2.2.2.2) := rfl
set_option maxRecDepth 100000 in
theorem ev_code3 : ev_mL3.map (fun q => some q.2.2.2.1) = ev_mL3.map (fun q => ev_codeAt q.2.2.2.2.2.2.2) := rfl
set_option maxRecDepth 100000 in
theorem ev_code4 : ev_mL4.map (fun q => some q.2.2.2.1) = ev_mL4.map (fun q => ev_codeAt q.2.2.2.2.2.2.2) := rfl
def ev_mhC (q : ev_MT) : Bool := decide (q.1 < 19) && decide (q.2.2.2.2.2.2.1 = decide (q.2.1 = "<init>")) && (match ev_pt (q.2.2.2.2.2.2.2) with
  | some (.code y _ n r) => decide (y = ⟨ev_nm q.1, q.2.1, q.2.2.1⟩) && decide (n = q.2.2.2.2.1) && decide (r = q.2.2.2.2.2.1)
  | _ => false)
set_option maxRecDepth 100000 in
theorem ev_mh_all : ev_mL.all ev_mhC = true := by decide +kernel
set_option maxRecDepth 100000 in
theorem ev_mn_all : (List.range 291).all (fun j => decide ((parseMethodDescriptor (ev_yN j).desc).map (fun d => d.parameters.length) = ev_mnL[j]?)) = true := by decide +kernel
set_option maxRecDepth 100000 in
theorem ev_pl_all : (List.range 19).all (fun i => (plainName (ev_nm i) || decide (i = 16)) && decide (ev_nm i ≠ "java/lang/invoke/MethodHandle" ∧ ev_nm i ≠ "java/lang/invoke/VarHandle")) = true := by decide +kernel
