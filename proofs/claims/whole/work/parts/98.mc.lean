/-! The two tables of the two sides -/
theorem bi_mod (x : Int) {i : Nat} (hi : i < 32) : bi x i = (x % 4294967296).toNat.testBit i := by
  have e : BitVec.ofInt 32 x = BitVec.ofNat 32 (x % 4294967296).toNat := by
    apply BitVec.eq_of_toNat_eq
    rw [BitVec.toNat_ofInt, BitVec.toNat_ofNat]
    have : (x % 4294967296).toNat < 2 ^ 32 := by omega
    rw [Nat.mod_eq_of_lt this]
    rfl
  unfold bi
  rw [e, BitVec.getLsbD_ofNat]
  simp [hi]
theorem iand_mask (x : Int) {k M : Nat} (hk : k ≤ 30) (hM : 2 ^ k = M) (h30 : M ≤ 1073741824) (hd : 4294967296 % M = 0) : iand x ((M - 1 : Nat) : Int) = x % (M : Int) := by
  have hM0 : 0 < M := by rw [← hM]; exact Nat.two_pow_pos k
  have h1 := Int.emod_nonneg x (show (M : Int) ≠ 0 by omega)
  have h2 := Int.emod_lt_of_pos x (show (0 : Int) < M by omega)
  refine bi_ext (ri_iand _ _) ⟨by omega, by omega⟩ (fun i hi => ?_)
  rw [bi_iand, bi_mod x hi, bi_mod _ hi, bi_mod (x % (M : Int)) hi]
  have e1 : (((M - 1 : Nat) : Int) % 4294967296).toNat = M - 1 := by omega
  have e2 : ((x % (M : Int)) % 4294967296).toNat = (x % 4294967296).toNat % M := by
    have e3 : x % 4294967296 % (M : Int) = x % (M : Int) := Int.emod_emod_of_dvd x (by
      have : M ∣ 4294967296 := Nat.dvd_of_mod_eq_zero hd
      exact Int.natCast_dvd_natCast.mpr this)
    have e4 : (((x % 4294967296).toNat % M : Nat) : Int) = x % (M : Int) := by
      rw [Int.natCast_emod, show (((x % 4294967296).toNat : Nat) : Int) = x % 4294967296 by omega, e3]
    omega
  rw [e1, e2, ← Nat.testBit_and, ← hM, Nat.and_two_pow_sub_one_eq_mod]
theorem iand_4095 (x : Int) : iand x 4095 = x % 4096 := iand_mask x (k := 12) (M := 4096) (by omega) rfl (by omega) rfl
theorem iand_8191 (x : Int) : iand x 8191 = x % 8192 := iand_mask x (k := 13) (M := 8192) (by omega) rfl (by omega) rfl
theorem lushr_52 (y : Int) : 0 ≤ lushr y 52 ∧ lushr y 52 < 4096 := by
  have e : BitVec.ofInt 64 (lushr y 52) = BitVec.ofInt 64 y >>> 52 := bv_lushr y (y := 52) (by omega)
  have e2 : (BitVec.ofInt 64 (lushr y 52)).toInt = lushr y 52 := tl (rl_lushr y 52)
  rw [e] at e2
  have h1 : (BitVec.ofInt 64 y >>> 52).toNat < 4096 := by
    rw [BitVec.toNat_ushiftRight, Nat.shiftRight_eq_div_pow]
    have := (BitVec.ofInt 64 y).isLt
    omega
  rw [BitVec.toInt_eq_toNat_of_lt (by omega)] at e2
  omega
def hC (a b : Int) : Int := wI (lushr (((b * 40) + a) * (-7046029254386353131)) 52)
theorem hC_r (a b : Int) : 0 ≤ hC a b ∧ hC a b < 4096 := by
  have h := lushr_52 (((b * 40) + a) * (-7046029254386353131))
  unfold hC
  rw [wI_eq ⟨by omega, by omega⟩]
  exact h
def hV (a b : Int) : Int := iand (wI (lxor (lxor ((1000003 * b) + (31 * a)) (lushr ((1000003 * b) + (31 * a)) 17)) (lushr ((1000003 * b) + (31 * a)) 34))) 8191
theorem hV_r (a b : Int) : 0 ≤ hV a b ∧ hV a b < 8192 := by
  unfold hV
  rw [iand_8191]
  omega
/-- one side's places -/
def CP (u : uS) (n : Nat) (f g : Int → Int) : Prop := n ≤ 2000 ∧ u.1 64 3 = n ∧ (∀ q : Nat, q < n → u.1 67 q = f q ∧ u.1 68 q = g q ∧ rI (f q) ∧ rL (g q)) ∧ HT 4096 (-1) (fun s => u.1 70 s - 1) hC n f g ∧ (∀ s : Int, 0 ≤ s → s < 4096 → u.1 70 s ≠ 0 → ∃ q : Nat, q < n ∧ u.1 71 q = s) ∧ (∀ q : Nat, q < n → 0 ≤ u.1 71 q ∧ u.1 71 q < 4096) ∧ dK n f g
def CPf (u u' : uS) : Prop := u'.2 = u.2 ∧ ∀ (b : Nat) (j : Int), b ∉ [67, 68, 70, 71] → (b = 64 → j ≠ 3) → u'.1 b j = u.1 b j
set_option maxRecDepth 4000 in
theorem p_73 {d n t : Nat} {u : uS} {f g : Int → Int} {a b s : Int} (hc : CP u n f g) (ha : rI a) (hb : rL b) (hs : s = (hC a b + t) % 4096) (ht : u.1 70 s = 0) (hp : ∀ t' : Nat, t' < t → 0 ≤ u.1 70 ((hC a b + t') % 4096) - 1) (hno : ∀ q : Nat, q < n → ¬ (f q = a ∧ g q = b)) : cI (d + 1) 73 [.ref 64, iV a, lV b, iV s] u (fun r u' => (n = 2000 ∧ r = 0 ∧ u' = wr u 64 4 1) ∨ (n < 2000 ∧ r = (n : Nat) ∧ CP u' (n + 1) (uf f n a) (uf g n b) ∧ CPf u u')) := by
  obtain ⟨c1, c2, c3, c4, c5, c6, c7⟩ := hc
  have hs1 : 0 ≤ s := by omega
  have hs2 : s < 4096 := by omega
  refine e_73 ⟨⟨by omega, by omega⟩, ?_⟩
  by_cases hn : u.1 64 3 < 2000
  · rw [if_pos hn]
    refine ⟨by omega, fun u4 e4 => ?_⟩
    have k4 : u4.1 64 3 = n := by rw [e4, wr_ne (by decide)]; exact c2
    refine ⟨by omega, by omega, fun u8 e8 => ?_⟩
    have k8 : u8.1 64 3 = n := by rw [e8, wr_ne (by decide)]; exact k4
    refine ⟨by omega, by omega, fun u12 e12 u14 e14 => ⟨hs1, hs2, fun u18 e18 => Or.inr ⟨by omega, ?_, ?_, ?_⟩⟩⟩
    all_goals
      have k12 : u12.1 64 3 = n := by rw [e12, wr_ne (by decide)]; exact k8
      have k14 : u14.1 64 3 = n + 1 := by rw [e14, wr_self, k12]
      have k18 : u18.1 64 3 = n + 1 := by rw [e18, wr_ne (by decide)]; exact k14
    · rw [k18]; omega
    · have h67 : u18.1 67 = uf (u.1 67) n a := by
        rw [e18, wr_ne (by decide), e14, wr_ne (by decide), e12, wr_ne (by decide), e8, wr_ne (by decide), e4, wr_uf, c2]
      have h68 : u18.1 68 = uf (u.1 68) n b := by
        rw [e18, wr_ne (by decide), e14, wr_ne (by decide), e12, wr_ne (by decide), e8, wr_uf, e4, wr_ne (by decide), wr_ne (by decide), c2]
      have h71 : u18.1 71 = uf (u.1 71) n s := by
        rw [e18, wr_ne (by decide), e14, wr_ne (by decide), e12, wr_uf, k8, e8, wr_ne (by decide), e4, wr_ne (by decide)]
      have h70 : u18.1 70 = uf (u.1 70) s (n + 1) := by
        rw [e18, wr_uf, k14, e14, wr_ne (by decide), e12, wr_ne (by decide), e8, wr_ne (by decide), e4, wr_ne (by decide)]
      refine ⟨by omega, by rw [k18]; omega, fun q hq => ?_, ?_, fun j j1 j2 hj => ?_, fun q hq => ?_, dK_add c7 hno⟩
      · rw [h67, h68]
        by_cases e : q = n
        · rw [e, uf_eq, uf_eq, uf_eq, uf_eq]
          exact ⟨rfl, rfl, ha, hb⟩
        · rw [uf_ne (by omega), uf_ne (by omega), uf_ne (by omega), uf_ne (by omega)]
          exact c3 q (by omega)
      · refine HT_add (T := fun s => u.1 70 s - 1) (by omega) c4 hs (by omega) (by show u.1 70 s - 1 = -1; omega) hp (fun j _ _ => ?_)
        show u18.1 70 j - 1 = _
        rw [h70]
        by_cases e : j = s
        · rw [e, uf_eq, if_pos rfl]; omega
        · rw [uf_ne e, if_neg e]
      · rw [h70] at hj
        rw [h71]
        by_cases e : j = s
        · exact ⟨n, by omega, by rw [uf_eq, e]⟩
        · rw [uf_ne e] at hj
          obtain ⟨q, q1, q2⟩ := c5 j j1 j2 hj
          exact ⟨q, by omega, by rw [uf_ne (by omega)]; exact q2⟩
      · rw [h71]
        by_cases e : q = n
        · rw [e, uf_eq]; exact ⟨hs1, hs2⟩
        · rw [uf_ne (by omega)]; exact c6 q (by omega)
    · refine ⟨by rw [e18, wr_2, e14, wr_2, e12, wr_2, e8, wr_2, e4, wr_2], fun b j hb hj => ?_⟩
      simp only [List.mem_cons, List.not_mem_nil, or_false, not_or] at hb
      rw [e18, wr_ne (by omega), e14, wr_1, if_neg (fun hh => hj hh.1 hh.2), e12, wr_ne (by omega), e8, wr_ne (by omega), e4, wr_ne (by omega)]
  · rw [if_neg hn]
    exact fun u20 e20 => Or.inl ⟨by omega, rfl, e20⟩
set_option maxRecDepth 4000 in
theorem p_72 {d n : Nat} {u : uS} {f g : Int → Int} {a b : Int} (hc : CP u n f g) (ha : rI a) (hb : rL b) : cI (d + 2) 72 [.ref 64, iV a, lV b] u (fun r u' => (fdk f g a b n = 2000 ∧ n = 2000 ∧ r = 0 ∧ u' = wr u 64 4 1) ∨ (fdk f g a b n < 2000 ∧ r = (fdk f g a b n : Nat) ∧ CP u' (max n (fdk f g a b n + 1)) (uf f (fdk f g a b n : Nat) a) (uf g (fdk f g a b n : Nat) b) ∧ CPf u u')) := by
  have hc0 := hc
  obtain ⟨c1, c2, c3, c4, c5, c6, c7⟩ := hc
  have hh := hC_r a b
  obtain ⟨te, te1, te2⟩ := HT_free c4 (by omega) hh.1 hh.2
  have te2 : u.1 70 ((hC a b + te) % 4096) - 1 = -1 := te2
  generalize hQQ : (fun (r : Int) (u' : uS) => (fdk f g a b n = 2000 ∧ n = 2000 ∧ r = 0 ∧ u' = wr u 64 4 1) ∨ (fdk f g a b n < 2000 ∧ r = (fdk f g a b n : Nat) ∧ CP u' (max n (fdk f g a b n + 1)) (uf f (fdk f g a b n : Nat) a) (uf g (fdk f g a b n : Nat) b) ∧ CPf u u')) = QQ
  have loop : ∀ (m t : Nat), t + m = te → (∀ t' : Nat, t' < t → 0 ≤ u.1 70 ((hC a b + t') % 4096) - 1 ∧ ∀ q : Nat, q < n → u.1 70 ((hC a b + t') % 4096) - 1 = q → ¬ (f q = a ∧ g q = b)) → K_72 (d + 1) 25 [.ref 64, iV a, lV b, .retAddr 0, .retAddr 0, .retAddr 0, iV ((hC a b + t) % 4096), iV t, .retAddr 0] [] u QQ := by
    intro m
    induction m with
    | zero =>
      intro t ht hp
      have e : t = te := by omega
      rw [← e] at te2
      refine k_72_25 ⟨⟨by omega, by omega⟩, ?_⟩
      rw [if_pos (by omega)]
      refine ⟨by omega, by omega, ⟨by omega, by omega⟩, ?_⟩
      rw [if_pos (by omega)]
      have hno : ∀ q : Nat, q < n → ¬ (f q = a ∧ g q = b) := HT_miss c4 (t := t) (by show u.1 70 ((hC a b + t) % 4096) - 1 < 0; omega) (fun t' h1 => (hp t' h1).2)
      have hfd := fdk_none hno
      refine (p_73 hc0 ha hb rfl (by omega) (fun t' h1 => (hp t' h1).1) hno).mono (Nat.le_refl _) (fun r u' h => ?_)
      rw [← hQQ]
      show _ ∨ _
      rw [hfd, show max n (n + 1) = n + 1 by omega]
      rcases h with ⟨h1, h2, h3⟩ | h
      · exact Or.inl ⟨h1, h1, h2, h3⟩
      · exact Or.inr h
    | succ m ih =>
      intro t ht hp
      refine k_72_25 ⟨⟨by omega, by omega⟩, ?_⟩
      rw [if_pos (by omega)]
      have hcl := c4.1 ((hC a b + t) % 4096) (by omega) (by omega)
      have hcl : u.1 70 ((hC a b + t) % 4096) - 1 = -1 ∨ (0 ≤ u.1 70 ((hC a b + t) % 4096) - 1 ∧ u.1 70 ((hC a b + t) % 4096) - 1 < n) := hcl
      refine ⟨by omega, by omega, ⟨by omega, by omega⟩, ?_⟩
      by_cases hneg : u.1 70 ((hC a b + t) % 4096) - 1 < 0
      · rw [if_pos hneg]
        have hno : ∀ q : Nat, q < n → ¬ (f q = a ∧ g q = b) := HT_miss c4 (t := t) hneg (fun t' h1 => (hp t' h1).2)
        have hfd := fdk_none hno
        refine (p_73 hc0 ha hb rfl (by omega) (fun t' h1 => (hp t' h1).1) hno).mono (Nat.le_refl _) (fun r u' h => ?_)
        rw [← hQQ]
        show _ ∨ _
        rw [hfd, show max n (n + 1) = n + 1 by omega]
        rcases h with ⟨h1, h2, h3⟩ | h
        · exact Or.inl ⟨h1, h1, h2, h3⟩
        · exact Or.inr h
      · rw [if_neg hneg]
        obtain ⟨q, hq⟩ : ∃ q : Nat, u.1 70 ((hC a b + t) % 4096) - 1 = q := ⟨(u.1 70 ((hC a b + t) % 4096) - 1).toNat, by omega⟩
        have hqn : q < n := by omega
        obtain ⟨k1, k2, k3, k4⟩ := c3 q hqn
        rw [hq, k1, k2]
        have hnext : iand ((hC a b + t) % 4096 + 1) 4095 = (hC a b + ((t + 1 : Nat) : Int)) % 4096 := by
          rw [iand_4095]
          omega
        have hgo : ¬ (f q = a ∧ g q = b) → K_72 (d + 1) 25 [.ref 64, iV a, lV b, .retAddr 0, .retAddr 0, .retAddr 0, iV (iand ((hC a b + t) % 4096 + 1) 4095), iV ((t : Int) + 1), .retAddr 0] [] u QQ := by
          intro hne
          rw [hnext]
          refine ih (t + 1) (by omega) (fun t' h1 => ?_)
          by_cases e : t' = t
          · rw [e, hq]
            refine ⟨by omega, fun q' _ e' => ?_⟩
            rw [show q' = q by omega]
            exact hne
          · exact hp t' (by omega)
        refine ⟨by omega, k3, ha, ?_⟩
        by_cases ca : f q = a
        · rw [if_pos ca]
          refine ⟨k4, hb, ?_⟩
          by_cases cb : g q = b
          · rw [if_pos cb, ← hQQ]
            have hfd := dK_hit c7 hqn ⟨ca, cb⟩
            refine Or.inr ?_
            rw [hfd, show max n (q + 1) = n by omega, uf_same ca, uf_same cb]
            exact ⟨by omega, rfl, hc0, rfl, fun _ _ _ _ => rfl⟩
          · rw [if_neg cb]
            exact hgo (fun hh => cb hh.2)
        · rw [if_neg ca]
          exact hgo (fun hh => ca hh.1)
  refine e_72 ⟨ha, ?_⟩
  have h0 := loop te 0 (by omega) (fun t' h1 => absurd h1 (Nat.not_lt_zero t'))
  rw [show (hC a b + ((0 : Nat) : Int)) % 4096 = hC a b by omega] at h0
  exact h0
/-- the other side's places -/
def RP (u : uS) (n : Nat) (f g : Int → Int) : Prop := n ≤ 2000 ∧ u.1 271 44 = n ∧ (∀ q : Nat, q < n → u.1 304 q = f q ∧ u.1 305 q = g q ∧ rI (f q) ∧ rL (g q)) ∧ HT 8192 (-2) (u.1 308) hV n f g ∧ dK n f g
def RPf (u u' : uS) : Prop := u'.2 = u.2 ∧ ∀ (b : Nat) (j : Int), b ∉ [304, 305, 308] → (b = 271 → j ≠ 44) → u'.1 b j = u.1 b j
set_option maxRecDepth 4000 in
theorem p_246 {d n : Nat} {u : uS} {f g : Int → Int} {a b : Int} (hc : RP u n f g) (ha : rI a) (hb : rL b) : cI (d + 1) 246 [.ref 271, iV a, lV b] u (fun r u' => (fdk f g a b n = 2000 ∧ n = 2000 ∧ r = 0 ∧ u' = wr u 271 43 1) ∨ (fdk f g a b n < 2000 ∧ r = (fdk f g a b n : Nat) ∧ RP u' (max n (fdk f g a b n + 1)) (uf f (fdk f g a b n : Nat) a) (uf g (fdk f g a b n : Nat) b) ∧ RPf u u')) := by
  have hc0 := hc
  obtain ⟨c1, c2, c3, c4, c7⟩ := hc
  have hh := hV_r a b
  obtain ⟨te, te1, te2⟩ := HT_free c4 (by omega) hh.1 hh.2
  have te2 : u.1 308 ((hV a b + te) % 8192) = -2 := te2
  generalize hQQ : (fun (r : Int) (u' : uS) => (fdk f g a b n = 2000 ∧ n = 2000 ∧ r = 0 ∧ u' = wr u 271 43 1) ∨ (fdk f g a b n < 2000 ∧ r = (fdk f g a b n : Nat) ∧ RP u' (max n (fdk f g a b n + 1)) (uf f (fdk f g a b n : Nat) a) (uf g (fdk f g a b n : Nat) b) ∧ RPf u u')) = QQ
  have hadd : ∀ t : Nat, u.1 308 ((hV a b + t) % 8192) = -2 → (∀ t' : Nat, t' < t → 0 ≤ u.1 308 ((hV a b + t') % 8192) ∧ ∀ q : Nat, q < n → u.1 308 ((hV a b + t') % 8192) = q → ¬ (f q = a ∧ g q = b)) → K_246 d 35 [.ref 271, iV a, lV b, .retAddr 0, .retAddr 0, .retAddr 0, iV ((hV a b + t) % 8192), .retAddr 0] [] u QQ := by
    intro t ht hp
    have hno : ∀ q : Nat, q < n → ¬ (f q = a ∧ g q = b) := HT_miss c4 (t := t) (by show u.1 308 ((hV a b + t) % 8192) < 0; omega) (fun t' h1 => (hp t' h1).2)
    have hfd := fdk_none hno
    refine k_246_35 ⟨by omega, by omega, ⟨by omega, by omega⟩, ?_⟩
    rw [if_pos ht]
    refine ⟨⟨by omega, by omega⟩, ?_⟩
    by_cases hn : u.1 271 44 = 2000
    · rw [if_pos hn, ← hQQ]
      refine fun u7 e7 => Or.inl ?_
      rw [hfd]
      exact ⟨by omega, by omega, rfl, e7⟩
    · rw [if_neg hn]
      generalize hs : (hV a b + t) % 8192 = s at ht ⊢
      intro u9 e9
      have k9 : u9.1 271 44 = n := by rw [e9, wr_ne (by decide)]; exact c2
      refine ⟨by omega, by omega, fun u13 e13 => ?_⟩
      have k13 : u13.1 271 44 = n := by rw [e13, wr_ne (by decide)]; exact k9
      refine ⟨by omega, by omega, fun u17 e17 u19 e19 => ?_⟩
      have k17 : u17.1 271 44 = n := by rw [e17, wr_ne (by decide)]; exact k13
      have k19 : u19.1 271 44 = n + 1 := by rw [e19, wr_self, k17]
      have h304 : u19.1 304 = uf (u.1 304) n a := by
        rw [e19, wr_ne (by decide), e17, wr_ne (by decide), e13, wr_uf, k9, e9, wr_ne (by decide)]
      have h305 : u19.1 305 = uf (u.1 305) n b := by
        rw [e19, wr_ne (by decide), e17, wr_uf, k13, e13, wr_ne (by decide), e9, wr_ne (by decide)]
      have h308 : u19.1 308 = uf (u.1 308) s n := by
        rw [e19, wr_ne (by decide), e17, wr_ne (by decide), e13, wr_ne (by decide), e9, wr_uf, c2]
      rw [← hQQ]
      refine Or.inr ?_
      rw [hfd, show max n (n + 1) = n + 1 by omega, k19]
      refine ⟨by omega, by omega, ⟨by omega, by rw [k19]; omega, fun q hq => ?_, ?_, dK_add c7 hno⟩, ?_, fun b j hb hj => ?_⟩
      · rw [h304, h305]
        by_cases e : q = n
        · rw [e, uf_eq, uf_eq, uf_eq, uf_eq]
          exact ⟨rfl, rfl, ha, hb⟩
        · rw [uf_ne (by omega), uf_ne (by omega), uf_ne (by omega), uf_ne (by omega)]
          exact c3 q (by omega)
      · refine HT_add (by omega) c4 hs.symm (by omega) ht (fun t' h1 => (hp t' h1).1) (fun j _ _ => ?_)
        rw [h308]
        by_cases e : j = s
        · rw [e, uf_eq, if_pos rfl]
        · rw [uf_ne e, if_neg e]
      · rw [e19, wr_2, e17, wr_2, e13, wr_2, e9, wr_2]
      · simp only [List.mem_cons, List.not_mem_nil, or_false, not_or] at hb
        rw [e19, wr_1, if_neg (fun hh => hj hh.1 hh.2), e17, wr_ne (by omega), e13, wr_ne (by omega), e9, wr_ne (by omega)]
  have loop : ∀ (m t : Nat), t + m = te → (∀ t' : Nat, t' < t → 0 ≤ u.1 308 ((hV a b + t') % 8192) ∧ ∀ q : Nat, q < n → u.1 308 ((hV a b + t') % 8192) = q → ¬ (f q = a ∧ g q = b)) → K_246 d 35 [.ref 271, iV a, lV b, .retAddr 0, .retAddr 0, .retAddr 0, iV ((hV a b + t) % 8192), .retAddr 0] [] u QQ := by
    intro m
    induction m with
    | zero =>
      intro t ht hp
      have e : t = te := by omega
      rw [← e] at te2
      exact hadd t te2 hp
    | succ m ih =>
      intro t ht hp
      have hcl : u.1 308 ((hV a b + t) % 8192) = -2 ∨ (0 ≤ u.1 308 ((hV a b + t) % 8192) ∧ u.1 308 ((hV a b + t) % 8192) < n) := c4.1 ((hV a b + t) % 8192) (by omega) (by omega)
      by_cases hneg : u.1 308 ((hV a b + t) % 8192) = -2
      · exact hadd t hneg hp
      · refine k_246_35 ⟨by omega, by omega, ⟨by omega, by omega⟩, ?_⟩
        rw [if_neg hneg]
        obtain ⟨q, hq⟩ : ∃ q : Nat, u.1 308 ((hV a b + t) % 8192) = q := ⟨(u.1 308 ((hV a b + t) % 8192)).toNat, by omega⟩
        have hqn : q < n := by omega
        obtain ⟨k1, k2, k3, k4⟩ := c3 q hqn
        rw [hq, k1, k2]
        have hnext : iand ((hV a b + t) % 8192 + 1) 8191 = (hV a b + ((t + 1 : Nat) : Int)) % 8192 := by
          rw [iand_8191]
          omega
        have hgo : ¬ (f q = a ∧ g q = b) → K_246 d 35 [.ref 271, iV a, lV b, .retAddr 0, .retAddr 0, .retAddr 0, iV (iand ((hV a b + t) % 8192 + 1) 8191), .retAddr 0] [] u QQ := by
          intro hne
          rw [hnext]
          refine ih (t + 1) (by omega) (fun t' h1 => ?_)
          by_cases e : t' = t
          · rw [e, hq]
            refine ⟨by omega, fun q' _ e' => ?_⟩
            rw [show q' = q by omega]
            exact hne
          · exact hp t' (by omega)
        refine ⟨by omega, by omega, k3, ha, ?_⟩
        by_cases ca : f q = a
        · rw [if_pos ca]
          refine ⟨k4, hb, ?_⟩
          by_cases cb : g q = b
          · rw [if_pos cb, ← hQQ]
            have hfd := dK_hit c7 hqn ⟨ca, cb⟩
            refine Or.inr ?_
            rw [hfd, show max n (q + 1) = n by omega, uf_same ca, uf_same cb]
            exact ⟨by omega, rfl, hc0, rfl, fun _ _ _ _ => rfl⟩
          · rw [if_neg cb]
            exact hgo (fun hh => cb hh.2)
        · rw [if_neg ca]
          exact hgo (fun hh => ca hh.1)
  refine e_246 ⟨ha, ?_⟩
  have h0 := loop te 0 (by omega) (fun t' h1 => absurd h1 (Nat.not_lt_zero t'))
  rw [show (hV a b + ((0 : Nat) : Int)) % 8192 = hV a b by omega] at h0
  exact h0
/-- the other side's table made empty -/
theorem p_245 {d : Nat} {u : uS} : cV (d + 1) 245 [.ref 271] u (fun u' => RP u' 0 (fun _ => 0) (fun _ => 0) ∧ u'.2 = u.2 ∧ ∀ (b : Nat) (j : Int), b ≠ 308 → (b = 271 → j ≠ 44) → u'.1 b j = u.1 b j) := by
  generalize hQQ : (fun u' : uS => RP u' 0 (fun _ => 0) (fun _ => 0) ∧ u'.2 = u.2 ∧ ∀ (b : Nat) (j : Int), b ≠ 308 → (b = 271 → j ≠ 44) → u'.1 b j = u.1 b j) = QQ
  have loop : ∀ (m k : Nat) (v : uS), k + m = 8192 → v.1 271 44 = 0 → (∀ j : Int, 0 ≤ j → j < k → v.1 308 j = -2) → v.2 = u.2 → (∀ (b : Nat) (j : Int), b ≠ 308 → (b = 271 → j ≠ 44) → v.1 b j = u.1 b j) → K_245 d 7 [.ref 271, iV k] [] v QQ := by
    intro m
    induction m with
    | zero =>
      intro k v hk h1 h2 h3 h4
      refine k_245_7 ⟨⟨by omega, by omega⟩, ?_⟩
      rw [if_neg (by omega), ← hQQ]
      refine ⟨⟨by omega, h1, fun q hq => absurd hq (Nat.not_lt_zero q), HT_0 (by omega) (fun s s1 s2 => h2 s s1 (by omega)), fun p q h1 h2 => absurd h2 (Nat.not_lt_zero q)⟩, h3, h4⟩
    | succ m ih =>
      intro k v hk h1 h2 h3 h4
      refine k_245_7 ⟨⟨by omega, by omega⟩, ?_⟩
      rw [if_pos (by omega)]
      refine ⟨by omega, fun u4 e4 => ih (k + 1) u4 (by omega) (by rw [e4, wr_ne (by decide)]; exact h1) (fun j j1 j2 => ?_) (by rw [e4, wr_2]; exact h3) (fun b j hb hj => by rw [e4, wr_ne hb]; exact h4 b j hb hj)⟩
      rw [e4, wr_uf]
      by_cases e : j = k
      · rw [e, uf_eq]
      · rw [uf_ne e]; exact h2 j j1 (by omega)
  refine e_245 (fun u1 e1 => loop 8192 0 u1 (by omega) (by rw [e1, wr_self]) (fun j j1 j2 => by omega) (by rw [e1, wr_2]) (fun b j hb hj => by rw [e1, wr_1, if_neg (fun hh => hj hh.1 hh.2)]))
