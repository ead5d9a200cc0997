theorem gy_parts {post : Int32 → SY → Prop} {N M : Nat} {f s : Nat → Nat} (H : gp_ok N M f s) (la sm : Nat → Int32) (po : Nat → Int64) (h : ∀ t : Nat → Int32, post (nI (gp_ps f s M N (2 ^ M - 1))) (nI N, nI M, (fun j => nI (f j)), (fun j => nI (s j)), t, sm, po)) : wpY_parts post (nI N, nI M, (fun j => nI (f j)), (fun j => nI (s j)), la, sm, po) := by
  have HH := H
  obtain ⟨h1, h6, h8, hb⟩ := HH
  have h2 := gp_p8 h8
  unfold wpY_parts
  dsimp only
  refine gy_all h8 ?_
  exact gy_partsOf H (by omega) la sm po h
theorem gy_coef61 {post : Int32 → SY → Prop} {N M : Nat} {f s : Nat → Nat} (H : gp_ok N M f s) {x y : Nat} (hx : x ≤ 8) (hy : y ≤ 8) (la sm : Nat → Int32) (po : Nat → Int64) (h0 : (po (9 * x + y)).toInt32 = 0) (h : ∀ (t : Nat → Int32) (q : Nat → Int64), post (gp_cf f s M x y (2 ^ M)) (nI N, nI M, (fun j => nI (f j)), (fun j => nI (s j)), t, sm, q)) : ∃ n, wY_coefficient_61 post (nI x) (nI y) (nI (2 ^ M - 1)) (nI (gp_rs f s M (2 ^ M - 1))) n 0 (nI N) (nI M) (fun j => nI (f j)) (fun j => nI (s j)) la sm po := by
  have HH := H
  obtain ⟨h1, h6, h8, hb⟩ := HH
  have h2 := gp_p8 h8
  have e9 : 9 * nI x + nI y = nI (9 * x + y) := by
    show nI 9 * nI x + nI y = _
    rw [pk_mul, nI_add]
  have hc9 : (nI (9 * x + y)).toNatClampNeg = 9 * x + y := nI_clamp (by omega)
  have hi9 : vp_in (nI (9 * x + y)) 81 := vp_in_nI (by omega) (by omega)
  refine pk_loop (σ := (Nat → Int32) × (Nat → Int64)) (fun n i t => wY_coefficient_61 post (nI x) (nI y) (nI (2 ^ M - 1)) (nI (gp_rs f s M (2 ^ M - 1))) n (nI i) (nI N) (nI M) (fun j => nI (f j)) (fun j => nI (s j)) t.1 sm t.2) (fun i t => (t.2 (9 * x + y)).toInt32 = gp_cf f s M x y i) (2 ^ M) 0 (la, po) (Nat.zero_le _) h0 ?_ ?_
  · intro n t ht
    refine br_t (nI_lt (by omega) (by omega)) ?_
    rw [e9, hc9, ht]
    exact ⟨hi9, h t.1 t.2⟩
  · intro n i t hi ht K
    have l1 := gp_rs_le M i hb
    have l2 := gp_rs_le M (2 ^ M - 1) hb
    have l3 := gp_sz_le i M
    refine br_f (nI_nlt (by omega) (by omega)) ?_
    refine gy_rank H (by omega) t.1 sm t.2 (fun t' => ?_)
    refine gy_size H (by omega) t' sm t.2 ?_
    refine gy_addTerm (by omega) (by omega) (by omega) (fun q hq => ?_)
    refine nm_r (nI_1 i) (K (t', q) ?_)
    show (q (9 * x + y)).toInt32 = gp_cf f s M x y i + gp_ex (gp_rs f s M (2 ^ M - 1)) (gp_rs f s M i) x * gp_ex (gp_sz i 8) (gp_rs f s M i) y
    rw [hq x y (by omega), ht, gp_sz_8 h8 hi]
theorem gy_coef37 {post : Int32 → SY → Prop} {N M : Nat} {f s : Nat → Nat} (H : gp_ok N M f s) {x y : Nat} (hx : x ≤ 8) (hy : y ≤ 8) (la sm : Nat → Int32) (po : Nat → Int64) (h : ∀ (t : Nat → Int32) (q : Nat → Int64), post (gp_cf f s M x y (2 ^ M)) (nI N, nI M, (fun j => nI (f j)), (fun j => nI (s j)), t, sm, q)) : ∃ n, wY_coefficient_37 post (nI x) (nI y) (nI (2 ^ M - 1)) (nI (gp_rs f s M (2 ^ M - 1))) (nI N) (nI M) n 0 (fun j => nI (f j)) (fun j => nI (s j)) la sm po := by
  refine pk_loop (σ := Nat → Int64) (fun n i t => wY_coefficient_37 post (nI x) (nI y) (nI (2 ^ M - 1)) (nI (gp_rs f s M (2 ^ M - 1))) (nI N) (nI M) n (nI i) (fun j => nI (f j)) (fun j => nI (s j)) la sm t) (fun i t => ∀ j, j < i → t j = 0) 81 0 po (Nat.zero_le _) (fun j hj => absurd hj (by omega)) ?_ ?_
  · intro n t ht
    refine br_t (nI_le (a := 81) (b := 81) (Nat.le_refl _) (by omega)) ?_
    exact gy_coef61 H hx hy la sm t (by rw [ht (9 * x + y) (by omega), gp_z]) h
  · intro n i t hi ht K
    have hc : (nI i).toNatClampNeg = i := nI_clamp (by omega)
    refine br_f (nI_ge (b := 81) hi (by omega)) ⟨vp_in_nI (by omega) (by omega), nm_r (e' := vp_updL t i 0) (by rw [hc]) (nm_r (nI_1 i) (K _ ?_))⟩
    intro j hj
    by_cases c : j = i
    · rw [c]; exact pk_uLs
    · rw [pk_uLn c]; exact ht j (by omega)
theorem gy_coef {post : Int32 → SY → Prop} {N M : Nat} {f s : Nat → Nat} (H : gp_ok N M f s) {x y : Nat} (hx : x ≤ 8) (hy : y ≤ 8) (la sm : Nat → Int32) (po : Nat → Int64) (h : ∀ (t : Nat → Int32) (q : Nat → Int64), post (gp_cf f s M x y (2 ^ M)) (nI N, nI M, (fun j => nI (f j)), (fun j => nI (s j)), t, sm, q)) : wpY_coefficient post (nI N, nI M, (fun j => nI (f j)), (fun j => nI (s j)), la, sm, po) (nI x) (nI y) := by
  have h2 := gp_p8 H.2.2.1
  refine br_f (nI_pos (by omega)) (br_f (nI_nlt (a := 8) hx (by omega)) (br_f (nI_pos (by omega)) (br_t (nI_le (b := 8) hy (by omega)) ?_)))
  refine gy_all H.2.2.1 ?_
  refine gy_rank H (by omega) la sm po (fun t => ?_)
  exact gy_coef37 H hx hy t sm po h
theorem gy_cnt_trees {post : Int32 → SY → Prop} {N M : Nat} {f s : Nat → Nat} (H : gp_ok N M f s) (la sm : Nat → Int32) (po : Nat → Int64) (h : ∀ t : Nat → Int32, post (nI (gp_cn (gp_qt f s M) (2 ^ M))) (nI N, nI M, (fun j => nI (f j)), (fun j => nI (s j)), t, sm, po)) : ∃ n, wY_count_18 post 1 1 (nI (2 ^ M - 1)) (nI (gp_rs f s M (2 ^ M - 1))) n 0 0 (nI N) (nI M) (fun j => nI (f j)) (fun j => nI (s j)) la sm po := by
  have HH := H
  obtain ⟨h1, h6, h8, hb⟩ := HH
  have h2 := gp_p8 h8
  refine pk_loop (σ := Nat → Int32) (fun n i t => wY_count_18 post 1 1 (nI (2 ^ M - 1)) (nI (gp_rs f s M (2 ^ M - 1))) n (nI (gp_cn (gp_qt f s M) i)) (nI i) (nI N) (nI M) (fun j => nI (f j)) (fun j => nI (s j)) t sm po) (fun _ _ => True) (2 ^ M) 0 la (Nat.zero_le _) trivial ?_ ?_
  · intro n t _
    exact br_t (nI_lt (by omega) (by omega)) (h t)
  · intro n i t hi _ K
    have l1 := gp_rs_le M i hb
    have l2 := gp_rs_le M (2 ^ M - 1) hb
    have l3 := gp_sz_le i 8
    refine br_f (nI_nlt (by omega) (by omega)) ?_
    refine gy_rank H (by omega) t sm po (fun t' => ?_)
    refine br_f (by decide) ?_
    by_cases c1 : gp_rs f s M i = gp_rs f s M (2 ^ M - 1)
    · refine br_t (by rw [c1]) ?_
      refine br_f (by decide) (gy_size H (by omega) t' sm po ?_)
      rw [← gp_sz_8 h8 hi]
      by_cases c2 : gp_sz i 8 = gp_rs f s M i
      · exact br_t (by rw [c2]) (nm_r (nI_1 _) (nm_r (nI_1 i) (by have e := gp_cn_t (p := gp_qt f s M) (n := i) ⟨c1, c2⟩; have k := K t' trivial; simp only [e] at k; exact k)))
      · exact br_f (fun z => c2 ((nI_eq (by omega) (by omega)).mp z)) (nm_r (nI_1 i) (by have e := gp_cn_f (p := gp_qt f s M) (n := i) (fun z => c2 z.2); have k := K t' trivial; simp only [e] at k; exact k))
    · exact br_f (fun z => c1 ((nI_eq (by omega) (by omega)).mp z)) (nm_r (nI_1 i) (by have e := gp_cn_f (p := gp_qt f s M) (n := i) (fun z => c1 z.1); have k := K t' trivial; simp only [e] at k; exact k))
theorem gy_trees {post : Int32 → SY → Prop} {N M : Nat} {f s : Nat → Nat} (H : gp_ok N M f s) (la sm : Nat → Int32) (po : Nat → Int64) (h : ∀ t : Nat → Int32, post (nI (gp_cn (gp_qt f s M) (2 ^ M))) (nI N, nI M, (fun j => nI (f j)), (fun j => nI (s j)), t, sm, po)) : wpY_trees post (nI N, nI M, (fun j => nI (f j)), (fun j => nI (s j)), la, sm, po) := by
  have h2 := gp_p8 H.2.2.1
  unfold wpY_trees
  dsimp only
  unfold wpY_count
  dsimp only
  refine gy_all H.2.2.1 ?_
  refine gy_rank H (by omega) la sm po (fun t => ?_)
  exact gy_cnt_trees H t sm po h
theorem gy_cnt_forests {post : Int32 → SY → Prop} {N M : Nat} {f s : Nat → Nat} (H : gp_ok N M f s) (la sm : Nat → Int32) (po : Nat → Int64) (h : ∀ t : Nat → Int32, post (nI (gp_cn (gp_qf f s M) (2 ^ M))) (nI N, nI M, (fun j => nI (f j)), (fun j => nI (s j)), t, sm, po)) : ∃ n, wY_count_18 post 0 1 (nI (2 ^ M - 1)) (nI (gp_rs f s M (2 ^ M - 1))) n 0 0 (nI N) (nI M) (fun j => nI (f j)) (fun j => nI (s j)) la sm po := by
  have HH := H
  obtain ⟨h1, h6, h8, hb⟩ := HH
  have h2 := gp_p8 h8
  refine pk_loop (σ := Nat → Int32) (fun n i t => wY_count_18 post 0 1 (nI (2 ^ M - 1)) (nI (gp_rs f s M (2 ^ M - 1))) n (nI (gp_cn (gp_qf f s M) i)) (nI i) (nI N) (nI M) (fun j => nI (f j)) (fun j => nI (s j)) t sm po) (fun _ _ => True) (2 ^ M) 0 la (Nat.zero_le _) trivial ?_ ?_
  · intro n t _
    exact br_t (nI_lt (by omega) (by omega)) (h t)
  · intro n i t hi _ K
    have l1 := gp_rs_le M i hb
    have l2 := gp_rs_le M (2 ^ M - 1) hb
    have l3 := gp_sz_le i 8
    refine br_f (nI_nlt (by omega) (by omega)) ?_
    refine gy_rank H (by omega) t sm po (fun t' => ?_)
    refine br_t rfl ?_
    · refine br_f (by decide) (gy_size H (by omega) t' sm po ?_)
      rw [← gp_sz_8 h8 hi]
      by_cases c2 : gp_sz i 8 = gp_rs f s M i
      · exact br_t (by rw [c2]) (nm_r (nI_1 _) (nm_r (nI_1 i) (by have e := gp_cn_t (p := gp_qf f s M) (n := i) c2; have k := K t' trivial; simp only [e] at k; exact k)))
      · exact br_f (fun z => c2 ((nI_eq (by omega) (by omega)).mp z)) (nm_r (nI_1 i) (by have e := gp_cn_f (p := gp_qf f s M) (n := i) c2; have k := K t' trivial; simp only [e] at k; exact k))
theorem gy_forests {post : Int32 → SY → Prop} {N M : Nat} {f s : Nat → Nat} (H : gp_ok N M f s) (la sm : Nat → Int32) (po : Nat → Int64) (h : ∀ t : Nat → Int32, post (nI (gp_cn (gp_qf f s M) (2 ^ M))) (nI N, nI M, (fun j => nI (f j)), (fun j => nI (s j)), t, sm, po)) : wpY_forests post (nI N, nI M, (fun j => nI (f j)), (fun j => nI (s j)), la, sm, po) := by
  have h2 := gp_p8 H.2.2.1
  unfold wpY_forests
  dsimp only
  unfold wpY_count
  dsimp only
  refine gy_all H.2.2.1 ?_
  refine gy_rank H (by omega) la sm po (fun t => ?_)
  exact gy_cnt_forests H t sm po h
theorem gy_cnt_spanning {post : Int32 → SY → Prop} {N M : Nat} {f s : Nat → Nat} (H : gp_ok N M f s) (la sm : Nat → Int32) (po : Nat → Int64) (h : ∀ t : Nat → Int32, post (nI (gp_cn (gp_qs f s M) (2 ^ M))) (nI N, nI M, (fun j => nI (f j)), (fun j => nI (s j)), t, sm, po)) : ∃ n, wY_count_18 post 1 0 (nI (2 ^ M - 1)) (nI (gp_rs f s M (2 ^ M - 1))) n 0 0 (nI N) (nI M) (fun j => nI (f j)) (fun j => nI (s j)) la sm po := by
  have HH := H
  obtain ⟨h1, h6, h8, hb⟩ := HH
  have h2 := gp_p8 h8
  refine pk_loop (σ := Nat → Int32) (fun n i t => wY_count_18 post 1 0 (nI (2 ^ M - 1)) (nI (gp_rs f s M (2 ^ M - 1))) n (nI (gp_cn (gp_qs f s M) i)) (nI i) (nI N) (nI M) (fun j => nI (f j)) (fun j => nI (s j)) t sm po) (fun _ _ => True) (2 ^ M) 0 la (Nat.zero_le _) trivial ?_ ?_
  · intro n t _
    exact br_t (nI_lt (by omega) (by omega)) (h t)
  · intro n i t hi _ K
    have l1 := gp_rs_le M i hb
    have l2 := gp_rs_le M (2 ^ M - 1) hb
    have l3 := gp_sz_le i 8
    refine br_f (nI_nlt (by omega) (by omega)) ?_
    refine gy_rank H (by omega) t sm po (fun t' => ?_)
    refine br_f (by decide) ?_
    by_cases c1 : gp_rs f s M i = gp_rs f s M (2 ^ M - 1)
    · refine br_t (by rw [c1]) ?_
      refine br_t rfl ?_
      exact nm_r (nI_1 _) (nm_r (nI_1 i) (by have e := gp_cn_t (p := gp_qs f s M) (n := i) c1; have k := K t' trivial; simp only [e] at k; exact k))
    · exact br_f (fun z => c1 ((nI_eq (by omega) (by omega)).mp z)) (nm_r (nI_1 i) (by have e := gp_cn_f (p := gp_qs f s M) (n := i) c1; have k := K t' trivial; simp only [e] at k; exact k))
theorem gy_spanning {post : Int32 → SY → Prop} {N M : Nat} {f s : Nat → Nat} (H : gp_ok N M f s) (la sm : Nat → Int32) (po : Nat → Int64) (h : ∀ t : Nat → Int32, post (nI (gp_cn (gp_qs f s M) (2 ^ M))) (nI N, nI M, (fun j => nI (f j)), (fun j => nI (s j)), t, sm, po)) : wpY_spanning post (nI N, nI M, (fun j => nI (f j)), (fun j => nI (s j)), la, sm, po) := by
  have h2 := gp_p8 H.2.2.1
  unfold wpY_spanning
  dsimp only
  unfold wpY_count
  dsimp only
  refine gy_all H.2.2.1 ?_
  refine gy_rank H (by omega) la sm po (fun t => ?_)
  exact gy_cnt_spanning H t sm po h
theorem gy_digit {post : Int32 → Prop} {N M : Int32} {a1 a2 la sm : Nat → Int32} {po : Nat → Int64} {b c p : Nat} (hb : 1 ≤ b) (hb6 : b ≤ 6) (hc : c < 2 ^ 31) (hp : p ≤ 8) (h : post (nI (gp_dg b c p))) : wpY_digit post (N, M, a1, a2, la, sm, po) (nI c) (nI b) (nI p) := by
  have q : ∃ n, wY_digit_6 post (nI b) (nI p) N M a1 a2 la sm po n (nI (c / b ^ 0)) (nI 0) := by
    refine pk_loop (σ := Unit) (fun n i _ => wY_digit_6 post (nI b) (nI p) N M a1 a2 la sm po n (nI (c / b ^ i)) (nI i)) (fun _ _ => True) p 0 () (Nat.zero_le _) trivial ?_ ?_
    · intro n _ _
      have hd : c / b ^ p < 2 ^ 31 := Nat.lt_of_le_of_lt (Nat.div_le_self _ _) hc
      refine br_t (nI_le (Nat.le_refl _) (by omega)) (br_t (nI_le (a := 1) hb (by omega)) ⟨nI_ne0 (by omega) (by omega), ?_⟩)
      rw [pk_rem hd (by omega) (by omega)]
      exact h
    · intro n i _ hi _ K
      have hd : c / b ^ i < 2 ^ 31 := Nat.lt_of_le_of_lt (Nat.div_le_self _ _) hc
      have e2 : nI (c / b ^ i) / nI b = nI (c / b ^ (i + 1)) := by
        rw [pk_div hd (by omega) (by omega), gp_dv]
      exact br_f (nI_ge hi (by omega)) (br_t (nI_le (a := 1) hb (by omega)) ⟨nI_ne0 (by omega) (by omega), nm_r e2 (nm_r (nI_1 i) (K () trivial))⟩)
  rw [Nat.pow_zero, Nat.div_one] at q
  exact q
theorem gy_power {post : Int32 → Prop} {N M : Int32} {a1 a2 la sm : Nat → Int32} {po : Nat → Int64} {b C : Nat} (hC : C ≤ 8) (h : post (nI (b ^ C))) : wpY_power post (N, M, a1, a2, la, sm, po) (nI b) (nI C) := by
  refine pk_loop (σ := Unit) (fun n i _ => wY_power_5 post (nI b) (nI C) N M a1 a2 la sm po n (nI (b ^ i)) (nI i)) (fun _ _ => True) C 0 () (Nat.zero_le _) trivial ?_ ?_
  · intro n _ _
    exact br_t (nI_le (Nat.le_refl _) (by omega)) h
  · intro n i _ hi _ K
    exact br_f (nI_ge hi (by omega)) (nm_r (e' := nI (b ^ (i + 1))) (by rw [pk_mul, Nat.pow_succ]) (nm_r (nI_1 i) (K () trivial)))
theorem gy_col39 {post : Int32 → Prop} {J : Int32 → Int32 → Prop} {N M : Nat} {f s : Nat → Nat} (H : gp_ok N M f s) {k c : Nat} (hk1 : 1 ≤ k) (hk : k ≤ 6) (hc31 : c < 2 ^ 31) (x2 x3 : Int32) (la sm : Nat → Int32) (po : Nat → Int64) (y1 : gp_qc f s M k c → J (x2 + 1) (nI (c + 1))) (y0 : ¬ gp_qc f s M k c → J x2 (nI (c + 1))) : ∃ n, wY_colourings_39 post J (nI k) x2 x3 (nI c) (nI N) (nI M) (fun j => nI (f j)) (fun j => nI (s j)) la sm po n 1 0 := by
  have HH := H
  obtain ⟨h1, h6, h8, hb⟩ := HH
  have h2 := gp_p8 h8
  refine pk_loop (σ := Int32) (fun n i g => wY_colourings_39 post J (nI k) x2 x3 (nI c) (nI N) (nI M) (fun j => nI (f j)) (fun j => nI (s j)) la sm po n g (nI i)) (fun i g => (g = 1 ∧ ∀ e, e < i → ¬ gp_dg k c (f e) = gp_dg k c (s e)) ∨ (g = 0 ∧ ¬ gp_qc f s M k c)) M 0 1 (Nat.zero_le _) (Or.inl ⟨rfl, fun e he => absurd he (by omega)⟩) ?_ ?_
  · intro n g hg
    refine br_t (nI_le (Nat.le_refl _) (by omega)) ?_
    rcases hg with ⟨rfl, hg⟩ | ⟨rfl, hg⟩
    · exact br_f (by decide) (nm_e (nm_r (nI_1 c) (y1 hg)))
    · exact br_t rfl (nm_r (nI_1 c) (y0 hg))
  · intro n i g hi hg K
    have hf := (hb i).1
    have hs := (hb i).2
    have hc : (nI i).toNatClampNeg = i := nI_clamp (by omega)
    have hcf : (nI (f i)).toNatClampNeg = f i := nI_clamp (by omega)
    have hcs : (nI (s i)).toNatClampNeg = s i := nI_clamp (by omega)
    have hin : vp_in (nI i) 9 := vp_in_nI (by omega) (by omega)
    have hif : vp_in (nI (f i)) 6 := vp_in_nI (by omega) (by omega)
    have his : vp_in (nI (s i)) 6 := vp_in_nI (by omega) (by omega)
    refine br_f (nI_ge hi (by omega)) ?_
    rcases hg with ⟨rfl, hg⟩ | ⟨rfl, hg⟩
    · refine br_f (by decide) ⟨hin, ?_⟩
      simp only [hc]
      refine gy_digit hk1 hk hc31 (by omega) ⟨hin, ?_⟩
      refine gy_digit hk1 hk hc31 (by omega) ?_
      have d1 : gp_dg k c (f i) < k := gp_dg_lt hk1
      have d2 : gp_dg k c (s i) < k := gp_dg_lt hk1
      by_cases d : gp_dg k c (f i) = gp_dg k c (s i)
      · exact br_t (by rw [d]) (nm_r (nI_1 i) (K 0 (Or.inr ⟨rfl, fun z => z i hi d⟩)))
      · exact br_f (fun z => d ((nI_eq (by omega) (by omega)).mp z)) (nm_r (nI_1 i) (K 1 (Or.inl ⟨rfl, lt_s hg d⟩)))
    · exact br_t rfl (br_t rfl (nm_r (nI_1 c) (y0 hg)))
theorem gy_col27 {post : Int32 → Prop} {N M : Nat} {f s : Nat → Nat} (H : gp_ok N M f s) {k : Nat} (hk : k ≤ 6) (la sm : Nat → Int32) (po : Nat → Int64) (h : post (nI (gp_cn (gp_qc f s M k) (k ^ N)))) : ∃ n, wY_colourings_27 post (nI k) (nI (k ^ N)) (nI N) (nI M) (fun j => nI (f j)) (fun j => nI (s j)) la sm po n 0 0 := by
  have HH := H
  obtain ⟨h1, h6, h8, hb⟩ := HH
  have h2 := gp_p8 h8
  have hw := gp_pw hk (Nat.le_trans h6 (by omega) : N ≤ 8)
  refine pk_loop (σ := Unit) (fun n i _ => wY_colourings_27 post (nI k) (nI (k ^ N)) (nI N) (nI M) (fun j => nI (f j)) (fun j => nI (s j)) la sm po n (nI (gp_cn (gp_qc f s M k) i)) (nI i)) (fun _ _ => True) (k ^ N) 0 () (Nat.zero_le _) trivial ?_ ?_
  · intro n _ _
    exact br_t (nI_le (Nat.le_refl _) hw) h
  · intro n i _ hi _ K
    have hk1 : 1 ≤ k := by
      refine Classical.byContradiction (fun z => ?_)
      have k0 : k = 0 := by omega
      rw [k0, Nat.zero_pow (by omega)] at hi
      omega
    have kk := K () trivial
    refine br_f (nI_ge hi hw) (gy_col39 H hk1 hk (by omega) _ _ la sm po (fun z => ?_) (fun z => ?_))
    · have e := gp_cn_t (p := gp_qc f s M k) (n := i) z
      simp only [e] at kk
      rw [nI_1]
      exact kk
    · have e := gp_cn_f (p := gp_qc f s M k) (n := i) z
      simp only [e] at kk
      exact kk
theorem gy_col {post : Int32 → Prop} {N M : Nat} {f s : Nat → Nat} (H : gp_ok N M f s) {k : Nat} (hk : k ≤ 6) (la sm : Nat → Int32) (po : Nat → Int64) (h : post (nI (gp_cn (gp_qc f s M k) (k ^ N)))) : wpY_colourings post (nI N, nI M, (fun j => nI (f j)), (fun j => nI (s j)), la, sm, po) (nI k) := by
  refine br_f (nI_pos (by omega)) (br_t (nI_le (b := 6) hk (by omega)) ?_)
  exact gy_power (Nat.le_trans H.2.1 (by omega)) (gy_col27 H hk la sm po h)
