/-! Stores into arrays, copies, new cells -/
section EVS4
variable {p : Program} {l : Launch} {e : Env} {R : Room} {s : State} {m : MethodId} {args : Array Value} {below : List Frame} {meth : Method} {c : Code} {Q : State → Prop} {D : va_G} {tc : Nat → ClassId} {b nL own : Nat} {cc : ByteArray} {H0 : Heap}
theorem ev_s_si {ty : FieldType} {i : Instr} {pc k n : Nat} {lv : ev_L} {st st' : List Value} {w w' : ev_W} (E : ev_E p s m args meth c D tc b nL own cc H0) (hi : (i = .iastore ∧ ty = .int) ∨ (i = .bastore ∧ ty = .boolean)) (hd : decode cc pc = .ok (i, 1)) (h : ev_si ty st w = some (st', w')) (kk : ev_G p l e R s m args below meth c D tc b nL H0 Q (pc + 1) lv st' w' k n) : ev_G p l e R s m args below meth c D tc b nL H0 Q pc lv st w k n := by
  obtain ⟨hx, hb, hml, hown, hts, hU, hb0, hlk⟩ := E
  unfold ev_si at h
  split at h
  · next x j a st2 =>
    split at h
    · next t n0 f hw =>
      split at h
      · next hc =>
        cases h
        intro H locs ls hz hP hS hl
        have hz' : s.heap.size + k = b + (w.set a (Sum.inl (t, n0, Sum.inl (upd f j.toNatClampNeg (vp_nar ty x))))).length := by rw [List.length_set]; exact hz
        have hset : ev_cw b tc (w.set a (Sum.inl (t, n0, Sum.inl (upd f j.toNatClampNeg (vp_nar ty x))))) = (ev_cw b tc w).set a (b + a, Sum.inl (tc t, n0, Sum.inl (upd f j.toNatClampNeg (vp_nar ty x)))) := by rw [ev_cw_set]; rfl
        rcases hi with ⟨rfl, rfl⟩ | ⟨rfl, rfl⟩
        · exact va_iast hx hb hU.1 hP (ev_cw_D b tc w) hS a t (ev_cw_at hw) (ev_tys_at hc.1) (ev_in_vp hc.2) hd (fun H1 locs1 hP1 hD1 hS1 => kk H1 locs1 ls hz' (by rw [hset]; exact hP1) hS1 hl)
        · exact va_zast hx hb hU.1 hP (ev_cw_D b tc w) hS a t (ev_cw_at hw) (ev_tys_at hc.1) (ev_in_vp hc.2) hd (fun H1 locs1 hP1 hD1 hS1 => kk H1 locs1 ls hz' (by rw [hset]; exact hP1) hS1 hl)
      · cases h
    · cases h
  · cases h
theorem ev_s_sl {pc k n : Nat} {lv : ev_L} {st st' : List Value} {w w' : ev_W} (E : ev_E p s m args meth c D tc b nL own cc H0) (hd : decode cc pc = .ok (.lastore, 1)) (h : ev_sl st w = some (st', w')) (kk : ev_G p l e R s m args below meth c D tc b nL H0 Q (pc + 1) lv st' w' k n) : ev_G p l e R s m args below meth c D tc b nL H0 Q pc lv st w k n := by
  obtain ⟨hx, hb, hml, hown, hts, hU, hb0, hlk⟩ := E
  unfold ev_sl at h
  split at h
  · next x j a st2 =>
    split at h
    · next t n0 f hw =>
      split at h
      · next hc =>
        cases h
        intro H locs ls hz hP hS hl
        have hz' : s.heap.size + k = b + (w.set a (Sum.inl (t, n0, Sum.inr (Sum.inl (vp_updL f j.toNatClampNeg x))))).length := by rw [List.length_set]; exact hz
        have hset : ev_cw b tc (w.set a (Sum.inl (t, n0, Sum.inr (Sum.inl (vp_updL f j.toNatClampNeg x))))) = (ev_cw b tc w).set a (b + a, Sum.inl (tc t, n0, Sum.inr (Sum.inl (vp_updL f j.toNatClampNeg x)))) := by rw [ev_cw_set]; rfl
        exact va_last hx hb hU.1 hP (ev_cw_D b tc w) hS a t (ev_cw_at hw) (ev_tys_at hc.1) (ev_in_vp hc.2) hd (fun H1 locs1 hP1 hD1 hS1 => kk H1 locs1 ls hz' (by rw [hset]; exact hP1) hS1 hl)
      · cases h
    · cases h
  · cases h
theorem ev_s_sa {pc k n : Nat} {lv : ev_L} {st st' : List Value} {w w' : ev_W} (E : ev_E p s m args meth c D tc b nL own cc H0) (hd : decode cc pc = .ok (.aastore, 1)) (h : ev_sa st w = some (st', w')) (kk : ev_G p l e R s m args below meth c D tc b nL H0 Q (pc + 1) lv st' w' k n) : ev_G p l e R s m args below meth c D tc b nL H0 Q pc lv st w k n := by
  obtain ⟨hx, hb, hml, hown, hts, hU, hb0, hlk⟩ := E
  unfold ev_sa at h
  split at h
  · next v j a st2 =>
    split at h
    · next t n0 f ci fs hw hv =>
      split at h
      · next q hq =>
        split at h
        · next hc =>
          cases h
          intro H locs ls hz hP hS hl
          have hz' : s.heap.size + k = b + (w.set a (Sum.inl (t, n0, Sum.inr (Sum.inr (Sum.inr (Sum.inr (va_up f j.toNatClampNeg (some v)))))))).length := by rw [List.length_set]; exact hz
          have hset : ev_cw b tc (w.set a (Sum.inl (t, n0, Sum.inr (Sum.inr (Sum.inr (Sum.inr (va_up f j.toNatClampNeg (some v)))))))) = (ev_cw b tc w).set a (b + a, Sum.inl (tc t, n0, Sum.inr (Sum.inr (Sum.inr (Sum.inr (va_up (fun z => (f z).map (fun y => b + y)) j.toNatClampNeg (some (b + v)))))))) := by
            have hfn : (fun z => (va_up f j.toNatClampNeg (some v) z).map (fun y => b + y)) = va_up (fun z => (f z).map (fun y => b + y)) j.toNatClampNeg (some (b + v)) := by
              funext z
              by_cases hzz : z = j.toNatClampNeg
              · simp [va_up, hzz]
              · simp [va_up, hzz]
            rw [ev_cw_set]
            simp only [ev_ca, ev_cx]
            rw [hfn]
          exact va_astq hx hb hU.1 hP (ev_cw_D b tc w) hS a t v ci (r := q) (ev_cw_at hw) (ev_tys_at hc.1) (ev_cw_at hv) hq (ev_in_vp hc.2) hd (fun H1 locs1 hP1 hD1 hS1 => kk H1 locs1 ls hz' (by rw [hset]; exact hP1) hS1 hl)
        · cases h
      · cases h
    · cases h
  · cases h
theorem ev_s_alen {pc k n : Nat} {lv : ev_L} {st st' : List Value} {w : ev_W} (E : ev_E p s m args meth c D tc b nL own cc H0) (hd : decode cc pc = .ok (.arraylength, 1)) (h : ev_alen st w = some st') (kk : ev_G p l e R s m args below meth c D tc b nL H0 Q (pc + 1) lv st' w k n) : ev_G p l e R s m args below meth c D tc b nL H0 Q pc lv st w k n := by
  obtain ⟨hx, hb, hml, hown, hts, hU, hb0, hlk⟩ := E
  unfold ev_alen at h
  split at h
  · next a st2 =>
    split at h
    · next t x hw =>
      split at h
      · next hc =>
        cases h
        intro H locs ls hz hP hS hl
        exact va_alen hx hb hU.1 hP a t (ev_cw_at hw) (ev_tys_at (List.getElem?_eq_getElem hc)) rfl hd (kk H locs ls hz hP hS hl)
      · cases h
    · cases h
  · cases h
/-- the size of the heap, out of the machine's own book -/
theorem ev_size {H : Heap} {locs : List Loc} {k n : Nat} {g : JFrame} (h : H.size ≤ s.heap.size + k → W p l e R s m args below meth c H locs k n Q g) : W p l e R s m args below meth c H locs k n Q g := fun T hT X => h (by rw [← hT]; exact X.heapSize) T hT X
theorem ev_low {H : Heap} {locs : List Loc} {w : ev_W} (hb0 : b ≤ H0.size) (hP : va_P D ev_cl (ev_cw b tc w) H) (hS : va_S (fun q => b ≤ q) H0 H locs) : b + w.length ≤ H.size := by
  cases hw : w.length with
  | zero => exact Nat.le_trans hb0 hS.1
  | succ j =>
    have hj : j < w.length := by omega
    have h1 := (hP j _ (ev_cw_at (List.getElem?_eq_getElem hj))).lt
    have h2 : b + j < H.size := h1
    omega
/-- a new cell lies at the end -/
theorem ev_fresh {H1 : Heap} {w : ev_W} {q : Nat} {x : va_E} (hP1 : va_P D ev_cl (ev_cw b tc w ++ [(q, x)]) H1) (hD1 : va_D (fun q => b ≤ q) (ev_cw b tc w ++ [(q, x)])) (hz : H1.size ≤ b + w.length + 1) : q = b + w.length := by
  have hlen : (ev_cw b tc w).length = w.length := by simp [ev_cw]
  have hq : (ev_cw b tc w ++ [(q, x)])[w.length]? = some (q, x) := by rw [← hlen]; simp
  have h1 : q < H1.size := (hP1 _ _ hq).lt
  have h2 : b ≤ q := hD1.2 _ _ hq
  rcases Nat.lt_or_ge q (b + w.length) with hlt | hge
  · have hi : q - b < w.length := by omega
    have h3 : (ev_cw b tc w ++ [(q, x)])[q - b]? = some (b + (q - b), ev_ca b tc w[q - b]) := by
      rw [List.getElem?_append_left (by rw [hlen]; exact hi)]
      exact ev_cw_at (List.getElem?_eq_getElem hi)
    have h4 := hD1.1 _ _ _ _ h3 hq (by show b + (q - b) = q; omega)
    omega
  · omega
end EVS4
