def gp_qt (f s : Nat → Nat) (M a : Nat) : Prop := gp_rs f s M a = gp_rs f s M (2 ^ M - 1) ∧ gp_sz a 8 = gp_rs f s M a
def gp_qf (f s : Nat → Nat) (M a : Nat) : Prop := gp_sz a 8 = gp_rs f s M a
def gp_qs (f s : Nat → Nat) (M a : Nat) : Prop := gp_rs f s M a = gp_rs f s M (2 ^ M - 1)
def gp_qc (f s : Nat → Nat) (M k c : Nat) : Prop := ∀ e, e < M → ¬ gp_dg k c (f e) = gp_dg k c (s e)
def gp_wv (b c : Nat) : Nat → Int32 := fun e => nI (gp_dg b c e + 1)
def gp_ql (f s : Nat → Nat) (N M b c : Nat) : Prop := ∀ p, p < N → gp_sv f s (gp_wv b c) M p - gp_sv f s (gp_wv b c) M p / nI (b + 1) * nI (b + 1) = 0
def gp_qa (f s : Nat → Nat) (N M a : Nat) : Prop := ∃ p, p < N ∧ (gp_wk (gp_fr f s a) (gp_to f s a) N M N p).testBit p = true
def gp_qn (f s : Nat → Nat) (N M a : Nat) : Prop := ¬ gp_qa f s N M a
theorem gx_parts {post : Int32 → SX → Prop} {N M : Nat} {f s : Nat → Nat} (H : gp_ok N M f s) (pa co fl su re : Nat → Int32) (hp : ∀ t : Nat → Int32, post (nI (gp_ps f s M N (2 ^ M - 1))) (nI N, nI M, (fun j => nI (f j)), (fun j => nI (s j)), t, co, fl, su, re)) : wpX_parts post (nI N, nI M, (fun j => nI (f j)), (fun j => nI (s j)), pa, co, fl, su, re) := by
  have HH := H
  obtain ⟨h1, h6, h8, hb⟩ := HH
  have h2 := gp_p8 h8
  have e := gp_ps_rs M (2 ^ M - 1) hb h6
  unfold wpX_parts
  dsimp only
  refine gx_full H pa co fl su re (fun t => ?_)
  have e2 : nI N - nI (gp_rs f s M (2 ^ M - 1)) = nI (gp_ps f s M N (2 ^ M - 1)) := by
    rw [pk_sub (by omega)]
    exact congrArg nI (by omega)
  dsimp only
  rw [e2]
  exact hp t
theorem gx_trees17 {post : Int32 → SX → Prop} {N M : Nat} {f s : Nat → Nat} (H : gp_ok N M f s) (pa co fl su re : Nat → Int32) (hp : ∀ t : Nat → Int32, post (nI (gp_cn (gp_qt f s M) (2 ^ M))) (nI N, nI M, (fun j => nI (f j)), (fun j => nI (s j)), t, co, fl, su, re)) : ∃ n, wX_trees_17 post (nI (gp_rs f s M (2 ^ M - 1))) (nI (2 ^ M)) n 0 0 (nI N) (nI M) (fun j => nI (f j)) (fun j => nI (s j)) pa co fl su re := by
  have HH := H
  obtain ⟨h1, h6, h8, hb⟩ := HH
  have h2 := gp_p8 h8
  refine pk_loop (σ := Nat → Int32) (fun n i t => wX_trees_17 post (nI (gp_rs f s M (2 ^ M - 1))) (nI (2 ^ M)) n (nI (gp_cn (gp_qt f s M) i)) (nI i) (nI N) (nI M) (fun j => nI (f j)) (fun j => nI (s j)) t co fl su re) (fun _ _ => True) (2 ^ M) 0 pa (Nat.zero_le _) trivial ?_ ?_
  · intro n t _
    exact br_t (nI_le (Nat.le_refl _) (by omega)) (hp t)
  · intro n i t hi _ K
    have l1 := gp_rs_le M i hb
    have l2 := gp_rs_le M (2 ^ M - 1) hb
    have l3 := gp_sz_le i 8
    refine br_f (nI_ge hi (by omega)) ?_
    refine gx_rank H (by omega) t co fl su re (fun t' => ?_)
    refine gx_size (by omega) ?_
    by_cases c1 : gp_rs f s M i = gp_rs f s M (2 ^ M - 1)
    · refine br_t (by rw [c1]) ?_
      by_cases c2 : gp_sz i 8 = gp_rs f s M i
      · exact br_t (by rw [c2]) (nm_r (nI_1 _) (nm_r (nI_1 i) (by have e := gp_cn_t (p := gp_qt f s M) (n := i) ⟨c1, c2⟩; have k := K t' trivial; simp only [e] at k; exact k)))
      · exact br_f (fun z => c2 ((nI_eq (by omega) (by omega)).mp z)) (nm_r (nI_1 i) (by have e := gp_cn_f (p := gp_qt f s M) (n := i) (fun z => c2 z.2); have k := K t' trivial; simp only [e] at k; exact k))
    · exact br_f (fun z => c1 ((nI_eq (by omega) (by omega)).mp z)) (nm_r (nI_1 i) (by have e := gp_cn_f (p := gp_qt f s M) (n := i) (fun z => c1 z.1); have k := K t' trivial; simp only [e] at k; exact k))
theorem gx_trees {post : Int32 → SX → Prop} {N M : Nat} {f s : Nat → Nat} (H : gp_ok N M f s) (pa co fl su re : Nat → Int32) (hp : ∀ t : Nat → Int32, post (nI (gp_cn (gp_qt f s M) (2 ^ M))) (nI N, nI M, (fun j => nI (f j)), (fun j => nI (s j)), t, co, fl, su, re)) : wpX_trees post (nI N, nI M, (fun j => nI (f j)), (fun j => nI (s j)), pa, co, fl, su, re) := by
  unfold wpX_trees
  dsimp only
  refine gx_full H pa co fl su re (fun t => ?_)
  exact nm_r (gp_shl (by have := H.2.2.1; omega)) (gx_trees17 H t co fl su re hp)
theorem gx_forests {post : Int32 → SX → Prop} {N M : Nat} {f s : Nat → Nat} (H : gp_ok N M f s) (pa co fl su re : Nat → Int32) (hp : ∀ t : Nat → Int32, post (nI (gp_cn (gp_qf f s M) (2 ^ M))) (nI N, nI M, (fun j => nI (f j)), (fun j => nI (s j)), t, co, fl, su, re)) : wpX_forests post (nI N, nI M, (fun j => nI (f j)), (fun j => nI (s j)), pa, co, fl, su, re) := by
  have HH := H
  obtain ⟨h1, h6, h8, hb⟩ := HH
  have h2 := gp_p8 h8
  refine nm_r (gp_shl (by omega)) ?_
  refine pk_loop (σ := Nat → Int32) (fun n i t => wX_forests_11 post (nI (2 ^ M)) n (nI (gp_cn (gp_qf f s M) i)) (nI i) (nI N) (nI M) (fun j => nI (f j)) (fun j => nI (s j)) t co fl su re) (fun _ _ => True) (2 ^ M) 0 pa (Nat.zero_le _) trivial ?_ ?_
  · intro n t _
    exact br_t (nI_le (Nat.le_refl _) (by omega)) (hp t)
  · intro n i t hi _ K
    have l1 := gp_rs_le M i hb
    have l2 := gp_rs_le M (2 ^ M - 1) hb
    have l3 := gp_sz_le i 8
    refine br_f (nI_ge hi (by omega)) ?_
    refine gx_rank H (by omega) t co fl su re (fun t' => ?_)
    refine gx_size (by omega) ?_
    by_cases c2 : gp_sz i 8 = gp_rs f s M i
    · exact br_t (by rw [c2]) (nm_r (nI_1 _) (nm_r (nI_1 i) (by have e := gp_cn_t (p := gp_qf f s M) (n := i) c2; have k := K t' trivial; simp only [e] at k; exact k)))
    · exact br_f (fun z => c2 ((nI_eq (by omega) (by omega)).mp z)) (nm_r (nI_1 i) (by have e := gp_cn_f (p := gp_qf f s M) (n := i) c2; have k := K t' trivial; simp only [e] at k; exact k))
theorem gx_spanning17 {post : Int32 → SX → Prop} {N M : Nat} {f s : Nat → Nat} (H : gp_ok N M f s) (pa co fl su re : Nat → Int32) (hp : ∀ t : Nat → Int32, post (nI (gp_cn (gp_qs f s M) (2 ^ M))) (nI N, nI M, (fun j => nI (f j)), (fun j => nI (s j)), t, co, fl, su, re)) : ∃ n, wX_spanning_17 post (nI (gp_rs f s M (2 ^ M - 1))) (nI (2 ^ M)) n 0 0 (nI N) (nI M) (fun j => nI (f j)) (fun j => nI (s j)) pa co fl su re := by
  have HH := H
  obtain ⟨h1, h6, h8, hb⟩ := HH
  have h2 := gp_p8 h8
  refine pk_loop (σ := Nat → Int32) (fun n i t => wX_spanning_17 post (nI (gp_rs f s M (2 ^ M - 1))) (nI (2 ^ M)) n (nI (gp_cn (gp_qs f s M) i)) (nI i) (nI N) (nI M) (fun j => nI (f j)) (fun j => nI (s j)) t co fl su re) (fun _ _ => True) (2 ^ M) 0 pa (Nat.zero_le _) trivial ?_ ?_
  · intro n t _
    exact br_t (nI_le (Nat.le_refl _) (by omega)) (hp t)
  · intro n i t hi _ K
    have l1 := gp_rs_le M i hb
    have l2 := gp_rs_le M (2 ^ M - 1) hb
    have l3 := gp_sz_le i 8
    refine br_f (nI_ge hi (by omega)) ?_
    refine gx_rank H (by omega) t co fl su re (fun t' => ?_)
    by_cases c1 : gp_rs f s M i = gp_rs f s M (2 ^ M - 1)
    · exact br_t (by rw [c1]) (nm_r (nI_1 _) (nm_r (nI_1 i) (by have e := gp_cn_t (p := gp_qs f s M) (n := i) c1; have k := K t' trivial; simp only [e] at k; exact k)))
    · exact br_f (fun z => c1 ((nI_eq (by omega) (by omega)).mp z)) (nm_r (nI_1 i) (by have e := gp_cn_f (p := gp_qs f s M) (n := i) c1; have k := K t' trivial; simp only [e] at k; exact k))
theorem gx_spanning {post : Int32 → SX → Prop} {N M : Nat} {f s : Nat → Nat} (H : gp_ok N M f s) (pa co fl su re : Nat → Int32) (hp : ∀ t : Nat → Int32, post (nI (gp_cn (gp_qs f s M) (2 ^ M))) (nI N, nI M, (fun j => nI (f j)), (fun j => nI (s j)), t, co, fl, su, re)) : wpX_spanning post (nI N, nI M, (fun j => nI (f j)), (fun j => nI (s j)), pa, co, fl, su, re) := by
  unfold wpX_spanning
  dsimp only
  refine gx_full H pa co fl su re (fun t => ?_)
  exact nm_r (gp_shl (by have := H.2.2.1; omega)) (gx_spanning17 H t co fl su re hp)
theorem gx_coef41 {post : Int32 → SX → Prop} {N M : Nat} {f s : Nat → Nat} (H : gp_ok N M f s) {x y : Nat} (hx : x ≤ 8) (hy : y ≤ 8) (pa co fl su re : Nat → Int32) (hp : ∀ t : Nat → Int32, post (gp_cf f s M x y (2 ^ M)) (nI N, nI M, (fun j => nI (f j)), (fun j => nI (s j)), t, co, fl, su, re)) : ∃ n, wX_coefficient_41 post (nI x) (nI y) (nI (gp_rs f s M (2 ^ M - 1))) (nI (2 ^ M)) n 0 0 (nI N) (nI M) (fun j => nI (f j)) (fun j => nI (s j)) pa co fl su re := by
  have HH := H
  obtain ⟨h1, h6, h8, hb⟩ := HH
  have h2 := gp_p8 h8
  refine pk_loop (σ := Nat → Int32) (fun n i t => wX_coefficient_41 post (nI x) (nI y) (nI (gp_rs f s M (2 ^ M - 1))) (nI (2 ^ M)) n (gp_cf f s M x y i) (nI i) (nI N) (nI M) (fun j => nI (f j)) (fun j => nI (s j)) t co fl su re) (fun _ _ => True) (2 ^ M) 0 pa (Nat.zero_le _) trivial ?_ ?_
  · intro n t _
    exact br_t (nI_le (Nat.le_refl _) (by omega)) (hp t)
  · intro n i t hi _ K
    have l1 := gp_rs_le M i hb
    have l2 := gp_rs_le M (2 ^ M - 1) hb
    have l3 := gp_sz_le i 8
    refine br_f (nI_ge hi (by omega)) ?_
    refine gx_rank H (by omega) t co fl su re (fun t' => ?_)
    refine gx_size (by omega) ?_
    refine gx_exp (by omega) (by omega) hx ?_
    refine gx_exp (by omega) (by omega) hy ?_
    exact nm_r (e' := gp_cf f s M x y (i + 1)) rfl (nm_r (nI_1 i) (K t' trivial))
theorem gx_coef {post : Int32 → SX → Prop} {N M : Nat} {f s : Nat → Nat} (H : gp_ok N M f s) {x y : Nat} (hx : x ≤ 8) (hy : y ≤ 8) (pa co fl su re : Nat → Int32) (hp : ∀ t : Nat → Int32, post (gp_cf f s M x y (2 ^ M)) (nI N, nI M, (fun j => nI (f j)), (fun j => nI (s j)), t, co, fl, su, re)) : wpX_coefficient post (nI N, nI M, (fun j => nI (f j)), (fun j => nI (s j)), pa, co, fl, su, re) (nI x) (nI y) := by
  refine br_f (nI_pos (by omega)) (br_f (nI_nlt (a := 8) hx (by omega)) (br_f (nI_pos (by omega)) (br_t (nI_le (b := 8) hy (by omega)) ?_)))
  refine gx_full H pa co fl su re (fun t => ?_)
  exact nm_r (gp_shl (by have := H.2.2.1; omega)) (gx_coef41 H hx hy t co fl su re hp)
theorem gx_col26 {post : Int32 → SX → Prop} {N M : Nat} {f s : Nat → Nat} (H : gp_ok N M f s) {k : Nat} (hk : k ≤ 6) (pa co fl su re : Nat → Int32) (hp : ∀ t : Nat → Int32, post (nI (gp_cn (gp_qc f s M k) (k ^ N))) (nI N, nI M, (fun j => nI (f j)), (fun j => nI (s j)), pa, t, fl, su, re)) : ∃ n, wX_colourings_26 post (nI k) (nI (k ^ N)) n 0 0 (nI N) (nI M) (fun j => nI (f j)) (fun j => nI (s j)) pa co fl su re := by
  have HH := H
  obtain ⟨h1, h6, h8, hb⟩ := HH
  have h2 := gp_p8 h8
  have hw := gp_pw hk (Nat.le_trans h6 (by omega) : N ≤ 8)
  refine pk_loop (σ := Nat → Int32) (fun n i t => wX_colourings_26 post (nI k) (nI (k ^ N)) n (nI (gp_cn (gp_qc f s M k) i)) (nI i) (nI N) (nI M) (fun j => nI (f j)) (fun j => nI (s j)) pa t fl su re) (fun _ _ => True) (k ^ N) 0 co (Nat.zero_le _) trivial ?_ ?_
  · intro n t _
    exact br_t (nI_le (Nat.le_refl _) hw) (hp t)
  · intro n i t hi _ K
    have hk1 : 1 ≤ k := by
      refine Classical.byContradiction (fun z => ?_)
      have k0 : k = 0 := by omega
      rw [k0, Nat.zero_pow (by omega)] at hi
      omega
    refine br_f (nI_ge hi hw) ?_
    refine gx_dig_colourOf _ _ _ _ _ _ _ _ _ h6 (Or.inl hk1) hk (by omega) (fun t' ht' => ?_)
    have ev : ∀ e, (t' (f e) = t' (s e)) ↔ gp_dg k i (f e) = gp_dg k i (s e) := by
      intro e
      have d1 : gp_dg k i (f e) < k := gp_dg_lt hk1
      have d2 : gp_dg k i (s e) < k := gp_dg_lt hk1
      rw [ht' _ (hb e).1, ht' _ (hb e).2, nI_eq (by omega) (by omega)]
      omega
    refine gx_cd H pa t' fl su re (fun z => ?_) (fun z => ?_)
    · exact br_f (by decide) (nm_r (nI_1 _) (nm_r (nI_1 i) (by have e := gp_cn_t (p := gp_qc f s M k) (n := i) (fun e he g => z e he ((ev e).mpr g)); have k := K t' trivial; simp only [e] at k; exact k)))
    · exact br_t rfl (nm_r (nI_1 i) (by have e := gp_cn_f (p := gp_qc f s M k) (n := i) (fun g => z (fun e he q => g e he ((ev e).mp q))); have k := K t' trivial; simp only [e] at k; exact k))
theorem gx_col {post : Int32 → SX → Prop} {N M : Nat} {f s : Nat → Nat} (H : gp_ok N M f s) {k : Nat} (hk : k ≤ 6) (pa co fl su re : Nat → Int32) (hp : ∀ t : Nat → Int32, post (nI (gp_cn (gp_qc f s M k) (k ^ N))) (nI N, nI M, (fun j => nI (f j)), (fun j => nI (s j)), pa, t, fl, su, re)) : wpX_colourings post (nI N, nI M, (fun j => nI (f j)), (fun j => nI (s j)), pa, co, fl, su, re) (nI k) := by
  refine br_f (nI_pos (by omega)) (br_t (nI_le (b := 6) hk (by omega)) ?_)
  exact gx_power (Nat.le_trans H.2.1 (by omega)) (gx_col26 H hk pa co fl su re hp)
theorem gx_flo28 {post : Int32 → SX → Prop} {N M : Nat} {f s : Nat → Nat} (H : gp_ok N M f s) {b : Nat} (hk : b ≤ 3) (pa co fl su re : Nat → Int32) (hp : ∀ t1 t2 : Nat → Int32, post (nI (gp_cn (gp_ql f s N M b) (b ^ M))) (nI N, nI M, (fun j => nI (f j)), (fun j => nI (s j)), pa, co, t1, t2, re)) : ∃ n, wX_flows_28 post (nI (b + 1)) (nI (b ^ M)) n 0 0 (nI N) (nI M) (fun j => nI (f j)) (fun j => nI (s j)) pa co fl su re := by
  have HH := H
  obtain ⟨h1, h6, h8, hb⟩ := HH
  have h2 := gp_p8 h8
  have hw := gp_pw (b := b) (by omega) h8
  refine pk_loop (σ := (Nat → Int32) × (Nat → Int32)) (fun n i t => wX_flows_28 post (nI (b + 1)) (nI (b ^ M)) n (nI (gp_cn (gp_ql f s N M b) i)) (nI i) (nI N) (nI M) (fun j => nI (f j)) (fun j => nI (s j)) pa co t.1 t.2 re) (fun _ _ => True) (b ^ M) 0 (fl, su) (Nat.zero_le _) trivial ?_ ?_
  · intro n t _
    exact br_t (nI_le (Nat.le_refl _) hw) (hp t.1 t.2)
  · intro n i t hi _ K
    have hb1 : 1 ≤ b ∨ M = 0 := by
      refine Classical.byContradiction (fun z => ?_)
      have k0 : b = 0 := by omega
      rw [k0, Nat.zero_pow (by omega)] at hi
      omega
    refine br_f (nI_ge hi hw) ?_
    rw [nI_pred b]
    refine gx_dig_flowOver _ _ _ _ _ _ _ _ _ h8 hb1 (by omega) (by omega) (fun t1 ht1 => ?_)
    refine gx_fb H (w := gp_wv b i) (by omega) pa co t1 t.2 re ht1 (fun z t2 => ?_) (fun z t2 => ?_)
    · refine br_f (by decide) (nm_r (nI_1 _) (nm_r (nI_1 i) ?_))
      have e := gp_cn_t (p := gp_ql f s N M b) (n := i) z
      have k := K (t1, t2) trivial
      simp only [e] at k
      exact k
    · refine br_t rfl (nm_r (nI_1 i) ?_)
      have e := gp_cn_f (p := gp_ql f s N M b) (n := i) z
      have k := K (t1, t2) trivial
      simp only [e] at k
      exact k
theorem gx_flo {post : Int32 → SX → Prop} {N M : Nat} {f s : Nat → Nat} (H : gp_ok N M f s) {b : Nat} (hk : b ≤ 3) (pa co fl su re : Nat → Int32) (hp : ∀ t1 t2 : Nat → Int32, post (nI (gp_cn (gp_ql f s N M b) (b ^ M))) (nI N, nI M, (fun j => nI (f j)), (fun j => nI (s j)), pa, co, t1, t2, re)) : wpX_flows post (nI N, nI M, (fun j => nI (f j)), (fun j => nI (s j)), pa, co, fl, su, re) (nI (b + 1)) := by
  refine br_f (nI_nlt (b := 1) (by omega) (by omega)) (br_t (nI_le (b := 4) (by omega) (by omega)) ?_)
  rw [nI_pred b]
  exact gx_power H.2.2.1 (gx_flo28 H hk pa co fl su re hp)
theorem gx_acy {post : Int32 → SX → Prop} {N M : Nat} {f s : Nat → Nat} (H : gp_ok N M f s) (pa co fl su re : Nat → Int32) (hp : ∀ t : Nat → Int32, post (nI (gp_cn (gp_qn f s N M) (2 ^ M))) (nI N, nI M, (fun j => nI (f j)), (fun j => nI (s j)), pa, co, fl, su, t)) : wpX_acyclic post (nI N, nI M, (fun j => nI (f j)), (fun j => nI (s j)), pa, co, fl, su, re) := by
  have HH := H
  obtain ⟨h1, h6, h8, hb⟩ := HH
  have h2 := gp_p8 h8
  refine nm_r (gp_shl (by omega)) ?_
  refine pk_loop (σ := Nat → Int32) (fun n i t => wX_acyclic_11 post (nI (2 ^ M)) n (nI (gp_cn (gp_qn f s N M) i)) (nI i) (nI N) (nI M) (fun j => nI (f j)) (fun j => nI (s j)) pa co fl su t) (fun _ _ => True) (2 ^ M) 0 re (Nat.zero_le _) trivial ?_ ?_
  · intro n t _
    exact br_t (nI_le (Nat.le_refl _) (by omega)) (hp t)
  · intro n i t hi _ K
    refine br_f (nI_ge hi (by omega)) ?_
    refine gx_hc H (a := i) (by omega) pa co fl su t (fun z t' => ?_) (fun z t' => ?_)
    · exact br_f (by decide) (nm_r (nI_1 i) (by have e := gp_cn_f (p := gp_qn f s N M) (n := i) (fun g => g z); have k := K t' trivial; simp only [e] at k; exact k))
    · exact br_t rfl (nm_r (nI_1 _) (nm_r (nI_1 i) (by have e := gp_cn_t (p := gp_qn f s N M) (n := i) z; have k := K t' trivial; simp only [e] at k; exact k)))
