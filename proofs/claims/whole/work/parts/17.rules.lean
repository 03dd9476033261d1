/-! More fuel, deeper calls; rules for runs that make no cells -/
def ev_le (K K' : ev_K) : Prop := ∀ j As w r, K j As w = some r → K' j As w = some r
theorem ev_back_mono {K K' : ev_K} (hK : ev_le K K') {j : Nat} {As st : List Value} {w : ev_W} {o : List Value × ev_W × Nat × Nat} (h : ev_back st (K j As w) = some o) : ev_back st (K' j As w) = some o := by
  unfold ev_back at h ⊢
  cases hr : K j As w with
  | none => rw [hr] at h; cases h
  | some r => rw [hr] at h; rw [hK j As w r hr]; exact h
theorem ev_h_mono {K K' : ev_K} (hK : ev_le K K') {own : Nat} {ini : Bool} {i : Instr} {len : Nat} {st : List Value} {w : ev_W} {o : List Value × ev_W × Nat × Nat} (h : ev_h K own ini i len st w = some o) : ev_h K' own ini i len st w = some o := by
  cases i with
  | invokestatic x =>
    simp only [ev_h] at h ⊢
    split at h
    · next hl =>
      rw [if_pos hl]
      unfold ev_stat at h ⊢
      split at h
      · next kd j n rest hm =>
        try rw [hm]
        try simp only
        split at h
        · next h2 => rw [if_pos h2]; exact h
        · next h2 =>
          rw [if_neg h2]
          split at h
          · next h8 => rw [if_pos h8]; exact h
          · next h8 =>
            rw [if_neg h8]
            split at h
            · next h0 =>
              rw [if_pos h0]
              split at h
              · next As st2 hp =>
                try rw [hp]
                try simp only
                split at h
                · next hc => rw [if_pos hc]; exact ev_back_mono hK h
                · cases h
              · cases h
            · cases h
      · cases h
    · cases h
  | invokevirtual x =>
    simp only [ev_h] at h ⊢
    split at h
    · next hl =>
      rw [if_pos hl]
      unfold ev_virt at h ⊢
      split at h
      · next kd j n rest hm =>
        try rw [hm]
        try simp only
        split at h
        · next h0 =>
          rw [if_pos h0]
          split at h
          · next As rb st2 hp =>
            try rw [hp]
            try simp only
            split at h
            · next ci fs q hw hq =>
              try rw [hw, hq]
              try simp only
              split at h
              · next hc => rw [if_pos hc]; exact ev_back_mono hK h
              · cases h
            · cases h
          · cases h
        · cases h
      · cases h
    · cases h
  | invokespecial x =>
    simp only [ev_h] at h ⊢
    split at h
    · next hl =>
      rw [if_pos hl]
      unfold ev_spec at h ⊢
      split at h
      · next kd j n rest hm =>
        try rw [hm]
        try simp only
        split at h
        · next h1 => rw [if_pos h1]; exact h
        · next h1 =>
          rw [if_neg h1]
          split at h
          · next h0 =>
            rw [if_pos h0]
            split at h
            · next As rb st2 hp =>
              try rw [hp]
              try simp only
              split at h
              · next hc => rw [if_pos hc]; exact ev_back_mono hK h
              · cases h
            · cases h
          · cases h
      · cases h
    · cases h
  | _ => exact h
theorem ev_ret_h {ret : Option FieldType} {i : Instr} {len : Nat} {st : List Value} {v : Option Value} (h : ev_ret ret i len st = some v) (K : ev_K) (own : Nat) (ini : Bool) (w : ev_W) : ev_h K own ini i len st w = none := by
  cases i <;> first | rfl | (simp [ev_ret] at h; done)
theorem ev_step_mono {K K' : ev_K} (hK : ev_le K K') {own nL : Nat} {ini : Bool} {ret : Option FieldType} {i : Instr} {len : Nat} {g : ev_F} {o : ev_F ⊕ ev_R} (h : ev_step K own nL ini ret i len g = some o) : ev_step K' own nL ini ret i len g = some o := by
  unfold ev_step at h ⊢
  split at h
  · next q hq => (try rw [hq]); exact h
  · next hq =>
    try rw [hq]
    try simp only
    split at h
    · next q hb => (try rw [hb]); exact h
    · next hb =>
      try rw [hb]
      try simp only
      split at h
      · next q hh => (try rw [ev_h_mono hK hh]); exact h
      · next hh =>
        split at h
        · next v hv => rw [ev_ret_h hv]; (try rw [hv]); exact h
        · cases h
theorem ev_go_mono {K K' : ev_K} (hK : ev_le K K') {own nL : Nat} {ini : Bool} {ret : Option FieldType} {cc : ByteArray} : ∀ {f f' : Nat} {g : ev_F} {r : ev_R}, ev_go K own nL ini ret cc f g = some r → f ≤ f' → ev_go K' own nL ini ret cc f' g = some r
  | 0, _, _, _, h, _ => by cases h
  | f + 1, 0, _, _, _, hf => by omega
  | f + 1, f' + 1, g, r, h, hf => by
    obtain ⟨i, len, hd, h1⟩ := ev_go_inv h
    unfold ev_go
    try rw [hd]
    try simp only
    rcases h1 with ⟨g', hg, h1⟩ | h1
    · rw [ev_step_mono hK hg]
      exact ev_go_mono hK h1 (Nat.le_of_succ_le_succ hf)
    · rw [ev_step_mono hK h1]
theorem ev_m_mono : ∀ {d d' f f' : Nat}, d ≤ d' → f ≤ f' → ev_le (ev_m d f) (ev_m d' f')
  | 0, _, _, _, _, _ => fun _ _ _ _ h => by cases h
  | d + 1, 0, _, _, hd, _ => by omega
  | d + 1, d' + 1, f, f', hd, hf => fun j As w r h => by
    unfold ev_m at h ⊢
    split at h
    · next own nm ds cc nL ret ini q0 hq =>
      try rw [hq]
      try simp only
      split at h
      · next hl => rw [if_pos hl]; exact ev_go_mono (ev_m_mono (Nat.le_of_succ_le_succ hd) hf) h hf
      · cases h
    · cases h
/-- a run of a frame, and of a method, that makes no cells -/
def ok (d own nL : Nat) (ini : Bool) (ret : Option FieldType) (cc : ByteArray) (Q : Option Value → ev_W → Prop) (pc : Nat) (lv : ev_L) (st : List Value) (w : ev_W) : Prop := ∃ (f : Nat) (v : Option Value) (w' : ev_W), (∀ k n, ev_go (ev_m d f) own nL ini ret cc f (pc, lv, st, w, k, n) = some (v, w', k, n)) ∧ Q v w'
def okm (d j : Nat) (As : List Value) (w : ev_W) (Q : Option Value → ev_W → Prop) : Prop := ∃ (f : Nat) (v : Option Value) (w' : ev_W), ev_m d f j As w = some (v, w', 0, 0) ∧ Q v w'
theorem okm.mono {d d' j : Nat} {As : List Value} {w : ev_W} {Q Q' : Option Value → ev_W → Prop} (h : okm d j As w Q) (hd : d ≤ d') (hQ : ∀ v w', Q v w' → Q' v w') : okm d' j As w Q' := by
  obtain ⟨f, v, w', h1, h2⟩ := h
  exact ⟨f, v, w', ev_m_mono hd (Nat.le_refl f) _ _ _ _ h1, hQ v w' h2⟩
section OK
variable {d own nL : Nat} {ini : Bool} {ret : Option FieldType} {cc : ByteArray} {Q : Option Value → ev_W → Prop} {pc len : Nat} {i : Instr} {lv lv' : ev_L} {st st' : List Value} {w w' : ev_W}
theorem ok_mono {Q' : Option Value → ev_W → Prop} (h : ok d own nL ini ret cc Q pc lv st w) (hQ : ∀ v w', Q v w' → Q' v w') : ok d own nL ini ret cc Q' pc lv st w := by
  obtain ⟨f, v, w', h1, h2⟩ := h
  exact ⟨f, v, w', h1, hQ v w' h2⟩
/-- a method's contract out of a run of its body -/
theorem okm_of {j : Nat} {nm ds : String} {q0 : Nat} {As : List Value} (hj : ev_mL[j]? = some (own, nm, ds, cc, nL, ret, ini, q0)) (hl : (ev_ent As).length ≤ nL) (h : ok d own nL ini ret cc Q 0 (ev_pad nL (ev_ent As)) [] w) : okm (d + 1) j As w Q := by
  obtain ⟨f, v, w', h1, h2⟩ := h
  refine ⟨f, v, w', ?_, h2⟩
  unfold ev_m
  rw [hj]
  simp only
  rw [if_pos hl]
  exact h1 0 0
theorem ok_step {g : ev_F} (hd : decode cc pc = .ok (i, len)) {pc' : Nat} (hs : ∀ f k n, ev_step (ev_m d f) own nL ini ret i len (pc, lv, st, w, k, n) = some (.inl (pc', lv', st', w', k, n))) (h : ok d own nL ini ret cc Q pc' lv' st' w') : ok d own nL ini ret cc Q pc lv st w := by
  obtain ⟨f, v, w2, h1, h2⟩ := h
  refine ⟨f + 1, v, w2, fun k n => ?_, h2⟩
  unfold ev_go
  simp only [hd]
  rw [hs (f + 1) k n]
  exact ev_go_mono (ev_m_mono (Nat.le_refl d) (Nat.le_succ f)) (h1 k n) (Nat.le_refl f)
/-- a step on locals and stack -/
theorem ok_p (hd : decode cc pc = .ok (i, len)) (hp : ev_p own nL i len lv st = some (lv', st')) (h : ok d own nL ini ret cc Q (pc + len) lv' st' w) : ok d own nL ini ret cc Q pc lv st w := by
  refine ok_step (g := default) hd (fun f k n => ?_) h
  unfold ev_step
  simp only [hp]
theorem ev_b_p {pc' : Nat} (hb : ev_b i len pc st = some (pc', st')) : ev_p own nL i len lv st = none := by
  cases i <;> first | (simp [ev_b] at hb; done) | (simp [ev_p, ev_bin]; done) | (simp only [ev_p]; split <;> first | rfl | (unfold ev_bin; split <;> first | rfl | simp [ev_ibin, ev_lbin, ev_lsh]))
/-- a branch -/
theorem ok_b {pc' : Nat} (hd : decode cc pc = .ok (i, len)) (hb : ev_b i len pc st = some (pc', st')) (h : ok d own nL ini ret cc Q pc' lv st' w) : ok d own nL ini ret cc Q pc lv st w := by
  refine ok_step (g := default) hd (fun f k n => ?_) h
  unfold ev_step
  simp only [ev_b_p (own := own) (nL := nL) (lv := lv) hb, hb]
theorem ev_h_p {K : ev_K} {o : List Value × ev_W × Nat × Nat} (hh : ev_h K own ini i len st w = some o) : ev_p own nL i len lv st = none := by
  cases i <;> first | (simp [ev_h] at hh; done) | (simp only [ev_p]; split <;> first | rfl | (unfold ev_bin; split <;> first | rfl | simp [ev_ibin, ev_lbin, ev_lsh]))
theorem ev_h_b {K : ev_K} {o : List Value × ev_W × Nat × Nat} (hh : ev_h K own ini i len st w = some o) : ev_b i len pc st = none := by
  cases i <;> first | (simp [ev_h] at hh; done) | rfl
/-- a step on the heap that makes no cells -/
theorem ok_h (hd : decode cc pc = .ok (i, len)) (hh : ∀ f, ev_h (ev_m d f) own ini i len st w = some (st', w', 0, 0)) (h : ok d own nL ini ret cc Q (pc + len) lv st' w') : ok d own nL ini ret cc Q pc lv st w := by
  refine ok_step (g := default) hd (fun f k n => ?_) h
  unfold ev_step
  simp only [ev_h_p (nL := nL) (lv := lv) (hh f), ev_h_b (pc := pc) (hh f), hh f]
  rfl
/-- a call that makes no cells -/
theorem ok_call {P : Option Value → ev_W → Prop} {j : Nat} {As : List Value} (hd : decode cc pc = .ok (i, len)) (hm : okm d j As w P) (hh : ∀ f, ev_h (ev_m d f) own ini i len st w = ev_back st' (ev_m d f j As w)) (h : ∀ v w', P v w' → ok d own nL ini ret cc Q (pc + len) lv (v.toList ++ st') w') : ok d own nL ini ret cc Q pc lv st w := by
  obtain ⟨f1, v, w1, h1, h2⟩ := hm
  obtain ⟨f2, v2, w2, h3, h4⟩ := h v w1 h2
  refine ⟨max f1 f2 + 1, v2, w2, fun k n => ?_, h4⟩
  have e1 : ev_m d (max f1 f2 + 1) j As w = some (v, w1, 0, 0) := ev_m_mono (Nat.le_refl d) (by omega) _ _ _ _ h1
  have e2 : ev_h (ev_m d (max f1 f2 + 1)) own ini i len st w = some (v.toList ++ st', w1, 0, 0) := by rw [hh, e1]; rfl
  unfold ev_go
  simp only [hd]
  have e3 : ev_step (ev_m d (max f1 f2 + 1)) own nL ini ret i len (pc, lv, st, w, k, n) = some (.inl (pc + len, lv, v.toList ++ st', w1, k, n)) := by
    unfold ev_step
    simp only [ev_h_p (nL := nL) (lv := lv) e2, ev_h_b (pc := pc) e2, e2]
    rfl
  rw [e3]
  exact ev_go_mono (ev_m_mono (Nat.le_refl d) (by omega)) (h3 k n) (by omega)
theorem ev_ret_p {v : Option Value} (hr : ev_ret ret i len st = some v) : ev_p own nL i len lv st = none := by
  cases i <;> first | (simp [ev_ret] at hr; done) | (simp only [ev_p]; split <;> first | rfl | (unfold ev_bin; split <;> first | rfl | simp [ev_ibin, ev_lbin, ev_lsh]))
theorem ev_ret_b {v : Option Value} (hr : ev_ret ret i len st = some v) : ev_b i len pc st = none := by
  cases i <;> first | (simp [ev_ret] at hr; done) | rfl
/-- a return -/
theorem ok_r {v : Option Value} (hd : decode cc pc = .ok (i, len)) (hr : ev_ret ret i len st = some v) (h : Q v w) : ok d own nL ini ret cc Q pc lv st w := by
  refine ⟨1, v, w, fun k n => ?_, h⟩
  unfold ev_go
  simp only [hd]
  have e3 : ev_step (ev_m d 1) own nL ini ret i len (pc, lv, st, w, k, n) = some (.inr (v, w, k, n)) := by
    unfold ev_step
    simp only [ev_ret_p (own := own) (nL := nL) (lv := lv) hr, ev_ret_b (pc := pc) hr, ev_ret_h hr, hr]
  rw [e3]
end OK
