theorem gy_in {post : Int32 → Prop} {N M : Int32} {a1 a2 la sm : Nat → Int32} {po : Nat → Int64} {a j : Nat} (ha : a < 2 ^ 31) (hj : j < 32) (y1 : a.testBit j = true → post 1) (y0 : ¬ a.testBit j = true → post 0) : wpY_in post (N, M, a1, a2, la, sm, po) (nI a) (nI j) :=
  ⟨fun z => y1 ((gp_bit1 ha hj).mp z), fun z => y0 (fun q => z ((gp_bit1 ha hj).mpr q))⟩
theorem gy_size {post : Int32 → Prop} {N M : Nat} {f s : Nat → Nat} (H : gp_ok N M f s) {a : Nat} (ha : a < 2 ^ 31) (la sm : Nat → Int32) (po : Nat → Int64) (h : post (nI (gp_sz a M))) : wpY_sizeOf post (nI N, nI M, (fun j => nI (f j)), (fun j => nI (s j)), la, sm, po) (nI a) := by
  have HH := H
  obtain ⟨h1, h6, h8, hb⟩ := HH
  have h2 := gp_p8 h8
  refine pk_loop (σ := Unit) (fun n i _ => wY_sizeOf_4 post (nI a) (nI N) (nI M) (fun j => nI (f j)) (fun j => nI (s j)) la sm po n (nI (gp_sz a i)) (nI i)) (fun _ _ => True) M 0 () (Nat.zero_le _) trivial ?_ ?_
  · intro n _ _
    exact br_t (nI_le (Nat.le_refl _) (by omega)) h
  · intro n i _ hi _ K
    have k := K () trivial
    refine br_f (nI_ge hi (by omega)) (gy_in ha (by omega) (fun c => ?_) (fun c => ?_))
    · have e : gp_sz a (i + 1) = gp_sz a i + 1 := by
        show gp_sz a i + (a.testBit i).toNat = _
        rw [c]; rfl
      simp only [e] at k
      exact br_f (by decide) (nm_r (nI_1 _) (nm_r (nI_1 i) k))
    · have e : gp_sz a (i + 1) = gp_sz a i := by
        show gp_sz a i + (a.testBit i).toNat = _
        rw [Bool.not_eq_true] at c
        rw [c]; rfl
      simp only [e] at k
      exact br_t rfl (nm_r (nI_1 i) k)
theorem gy_spread {post : SY → Prop} {N M : Nat} {f s : Nat → Nat} (H : gp_ok N M f s) {a : Nat} (ha : a < 2 ^ 31) (la sm : Nat → Int32) (po : Nat → Int64) {l : Nat → Nat} (hl : ∀ p, l p ≤ p) (h0 : ∀ p, p < N → la p = nI (l p)) (h : ∀ t : Nat → Int32, (∀ p, p < N → t p = nI (gp_yr f s (fun e => a.testBit e) M l p)) → post (nI N, nI M, (fun j => nI (f j)), (fun j => nI (s j)), t, sm, po)) : wpY_spread post (nI N, nI M, (fun j => nI (f j)), (fun j => nI (s j)), la, sm, po) (nI a) := by
  have HH := H
  obtain ⟨h1, h6, h8, hb⟩ := HH
  have h2 := gp_p8 h8
  refine pk_loop (σ := Nat → Int32) (fun n i t => wY_spread_2 post (nI a) (nI N) (nI M) n (nI i) (fun j => nI (f j)) (fun j => nI (s j)) t sm po) (fun i t => ∀ p, p < N → t p = nI (gp_yr f s (fun e => a.testBit e) i l p)) M 0 la (Nat.zero_le _) h0 ?_ ?_
  · intro n t ht
    exact br_t (nI_le (Nat.le_refl _) (by omega)) (h t ht)
  · intro n i t hi ht K
    have hf := (hb i).1
    have hs := (hb i).2
    have hc : (nI i).toNatClampNeg = i := nI_clamp (by omega)
    have hcf : (nI (f i)).toNatClampNeg = f i := nI_clamp (by omega)
    have hcs : (nI (s i)).toNatClampNeg = s i := nI_clamp (by omega)
    have hin : vp_in (nI i) 9 := vp_in_nI (by omega) (by omega)
    have hif : vp_in (nI (f i)) 6 := vp_in_nI (by omega) (by omega)
    have his : vp_in (nI (s i)) 6 := vp_in_nI (by omega) (by omega)
    refine br_f (nI_ge hi (by omega)) (gy_in ha (by omega) (fun c => br_f (by decide) ?_) (fun c => ?_))
    · have tf := ht (f i) hf
      have ts := ht (s i) hs
      have lf := Nat.le_trans (gp_yr_le f s (fun e => a.testBit e) l i (f i)) (hl (f i))
      have ls := Nat.le_trans (gp_yr_le f s (fun e => a.testBit e) l i (s i)) (hl (s i))
      have fin : wY_spread_69 post (wY_spread_2 post (nI a) (nI N) (nI M) n) (nI a) (nI i) (nI (gp_mi (gp_yr f s (fun e => a.testBit e) i l (f i)) (gp_yr f s (fun e => a.testBit e) i l (s i)))) (nI N) (nI M) (fun j => nI (f j)) (fun j => nI (s j)) t sm po := by
        unfold wY_spread_69
        simp only [hc, hcf, hcs]
        refine ⟨hin, hif, nm_e ⟨hin, his, nm_e (nm_r (nI_1 i) (K _ ?_))⟩⟩
        intro p hp
        rw [gp_yr_s, gp_ys_t c]
        show (if p = s i then _ else if p = f i then _ else t p) = _
        by_cases d : p = s i
        · rw [if_pos d, if_pos d]
        · rw [if_neg d, if_neg d]
          by_cases g : p = f i
          · rw [if_pos g, if_pos g]
          · rw [if_neg g, if_neg g]; exact ht p hp
      simp only [hc, hcf, hcs, tf, ts]
      refine ⟨hin, hif, hin, his, ?_⟩
      by_cases d : gp_yr f s (fun e => a.testBit e) i l (f i) < gp_yr f s (fun e => a.testBit e) i l (s i)
      · have e : gp_mi (gp_yr f s (fun e => a.testBit e) i l (f i)) (gp_yr f s (fun e => a.testBit e) i l (s i)) = gp_yr f s (fun e => a.testBit e) i l (f i) := if_pos d
        rw [e] at fin
        exact br_f (nI_ge d (by omega)) ⟨hin, hif, fin⟩
      · have e : gp_mi (gp_yr f s (fun e => a.testBit e) i l (f i)) (gp_yr f s (fun e => a.testBit e) i l (s i)) = gp_yr f s (fun e => a.testBit e) i l (s i) := if_neg d
        rw [e] at fin
        exact br_t (nI_le (by omega) (by omega)) ⟨hin, his, fin⟩
    · refine br_t rfl (nm_r (nI_1 i) (K t ?_))
      intro p hp
      rw [gp_yr_s, gp_ys_f (A := (fun e => a.testBit e)) c]
      exact ht p hp
theorem gy_parts46 {post : Int32 → SY → Prop} {N M : Nat} {f s : Nat → Nat} (H : gp_ok N M f s) (la sm : Nat → Int32) (po : Nat → Int64) {l : Nat → Nat} (hl : ∀ p, l p ≤ p) (h0 : ∀ p, p < N → la p = nI (l p)) (h : post (nI (gp_cn (fun u => l u = u) N)) (nI N, nI M, (fun j => nI (f j)), (fun j => nI (s j)), la, sm, po)) : ∃ n, wY_partsOf_46 post (nI N) (nI M) (fun j => nI (f j)) (fun j => nI (s j)) la sm po n 0 0 := by
  have HH := H
  obtain ⟨h1, h6, h8, hb⟩ := HH
  have h2 := gp_p8 h8
  refine pk_loop (σ := Unit) (fun n i _ => wY_partsOf_46 post (nI N) (nI M) (fun j => nI (f j)) (fun j => nI (s j)) la sm po n (nI (gp_cn (fun u => l u = u) i)) (nI i)) (fun _ _ => True) N 0 () (Nat.zero_le _) trivial ?_ ?_
  · intro n _ _
    exact br_t (nI_le (Nat.le_refl _) (by omega)) h
  · intro n i _ hi _ K
    have hc : (nI i).toNatClampNeg = i := nI_clamp (by omega)
    have hin : vp_in (nI i) 6 := vp_in_nI (by omega) (by omega)
    have k := K () trivial
    have li := hl i
    refine br_f (nI_ge hi (by omega)) ⟨hin, ?_⟩
    rw [hc, h0 i hi]
    by_cases c : l i = i
    · have e := gp_cn_t (p := fun u => l u = u) (n := i) c
      simp only [e] at k
      exact br_t (by rw [c]) (nm_r (nI_1 _) (nm_r (nI_1 i) k))
    · have e := gp_cn_f (p := fun u => l u = u) (n := i) c
      simp only [e] at k
      exact br_f (fun z => c ((nI_eq (by omega) (by omega)).mp z)) (nm_r (nI_1 i) k)
theorem gy_parts25 {post : Int32 → SY → Prop} {N M : Nat} {f s : Nat → Nat} (H : gp_ok N M f s) {a : Nat} (ha : a < 2 ^ 31) (la sm : Nat → Int32) (po : Nat → Int64) (h0 : ∀ p, p < N → la p = nI p) (h : ∀ t : Nat → Int32, post (nI (gp_ps f s M N a)) (nI N, nI M, (fun j => nI (f j)), (fun j => nI (s j)), t, sm, po)) : ∃ n, wY_partsOf_25 post (nI a) n 0 (nI N) (nI M) (fun j => nI (f j)) (fun j => nI (s j)) la sm po := by
  have HH := H
  obtain ⟨h1, h6, h8, hb⟩ := HH
  have h2 := gp_p8 h8
  refine pk_loop (σ := Nat → Int32) (fun n i t => wY_partsOf_25 post (nI a) n (nI i) (nI N) (nI M) (fun j => nI (f j)) (fun j => nI (s j)) t sm po) (fun i t => ∀ p, p < N → t p = nI (gp_yt f s (fun e => a.testBit e) M i p)) 6 0 la (Nat.zero_le _) h0 ?_ ?_
  · intro n t ht
    exact br_t (nI_le (a := 6) (b := 6) (Nat.le_refl _) (by omega)) (gy_parts46 H t sm po (gp_yt_le f s (fun e => a.testBit e) M 6) ht (h t))
  · intro n i t hi ht K
    refine br_f (nI_ge (b := 6) hi (by omega)) ?_
    exact gy_spread H ha t sm po (gp_yt_le f s (fun e => a.testBit e) M i) ht (fun t' ht' => nm_r (nI_1 i) (K t' ht'))
theorem gy_partsOf {post : Int32 → SY → Prop} {N M : Nat} {f s : Nat → Nat} (H : gp_ok N M f s) {a : Nat} (ha : a < 2 ^ 31) (la sm : Nat → Int32) (po : Nat → Int64) (h : ∀ t : Nat → Int32, post (nI (gp_ps f s M N a)) (nI N, nI M, (fun j => nI (f j)), (fun j => nI (s j)), t, sm, po)) : wpY_partsOf post (nI N, nI M, (fun j => nI (f j)), (fun j => nI (s j)), la, sm, po) (nI a) := by
  have HH := H
  obtain ⟨h1, h6, h8, hb⟩ := HH
  have h2 := gp_p8 h8
  refine pk_loop (σ := Nat → Int32) (fun n i t => wY_partsOf_2 post (nI a) (nI N) (nI M) n (nI i) (fun j => nI (f j)) (fun j => nI (s j)) t sm po) (fun i t => ∀ p, p < i → t p = nI p) N 0 la (Nat.zero_le _) (fun p hp => absurd hp (by omega)) ?_ ?_
  · intro n t ht
    exact br_t (nI_le (Nat.le_refl _) (by omega)) (gy_parts25 H ha t sm po ht h)
  · intro n i t hi ht K
    have hc : (nI i).toNatClampNeg = i := nI_clamp (by omega)
    exact br_f (nI_ge hi (by omega)) ⟨vp_in_nI (by omega) (by omega), nm_r (e' := upd t i (nI i)) (by rw [hc]) (nm_r (nI_1 i) (K _ (gp_up (g := fun j => nI j) ht)))⟩
theorem gy_rank {post : Int32 → SY → Prop} {N M : Nat} {f s : Nat → Nat} (H : gp_ok N M f s) {a : Nat} (ha : a < 2 ^ 31) (la sm : Nat → Int32) (po : Nat → Int64) (h : ∀ t : Nat → Int32, post (nI (gp_rs f s M a)) (nI N, nI M, (fun j => nI (f j)), (fun j => nI (s j)), t, sm, po)) : wpY_rank post (nI N, nI M, (fun j => nI (f j)), (fun j => nI (s j)), la, sm, po) (nI a) := by
  have HH := H
  obtain ⟨h1, h6, h8, hb⟩ := HH
  have h2 := gp_p8 h8
  have e := gp_ps_rs M a hb h6
  have e2 : nI N - nI (gp_ps f s M N a) = nI (gp_rs f s M a) := by
    rw [pk_sub (by omega)]
    exact congrArg nI (by omega)
  unfold wpY_rank
  dsimp only
  refine gy_partsOf H ha la sm po (fun t => ?_)
  dsimp only
  rw [e2]
  exact h t
theorem gy_all {post : Int32 → Prop} {N : Int32} {M : Nat} (h8 : M ≤ 8) {a1 a2 la sm : Nat → Int32} {po : Nat → Int64} (h : post (nI (2 ^ M - 1))) : wpY_all post (N, nI M, a1, a2, la, sm, po) := by
  show post (((1 : Int32) <<< (nI M &&& 31)) - 1)
  rw [gp_full h8]
  exact h
theorem gy_choose {post : Int64 → Prop} {N M : Int32} {a1 a2 la sm : Nat → Int32} {po : Nat → Int64} {a i : Nat} (hi : i ≤ 8) (h : post (gp_cy a i)) : wpY_choose post (N, M, a1, a2, la, sm, po) (nI a) (nI i) := by
  refine pk_loop (σ := Unit) (fun n j _ => wY_choose_5 post (nI a) (nI i) N M a1 a2 la sm po n (gp_cy a j) (nI (j + 1))) (fun _ _ => True) i 0 () (Nat.zero_le _) trivial ?_ ?_
  · intro n _ _
    exact br_t (nI_lt (by omega) (by omega)) h
  · intro n j _ hj _ K
    have nz : ¬ (nI (j + 1)).toInt64 = 0 := by
      rw [nI_l (by omega)]
      intro z
      have := (lN_eq (a := j + 1) (b := 0) (by omega) (by omega)).mp z
      omega
    exact br_f (nI_nlt (by omega) (by omega)) ⟨nz, nm_r (e' := gp_cy a (j + 1)) rfl (nm_r (nI_1 (j + 1)) (K () trivial))⟩
theorem gy_add10 {post : SY → Prop} {J : Int32 → (Nat → Int32) → (Nat → Int32) → (Nat → Int32) → (Nat → Int32) → (Nat → Int64) → Prop} {N M : Int32} {a1 a2 la sm : Nat → Int32} {old : Nat → Int64} {a b i : Nat} (ha : a ≤ 8) (hb : b ≤ 8) (hi : i ≤ a) (h : J (nI (i + 1)) a1 a2 la sm (gp_pl old a b (i + 1) 0)) : ∃ n, wY_addTerm_10 post J (nI a) (nI b) (nI i) N M n 0 a1 a2 la sm (gp_pl old a b i 0) := by
  refine pk_loop (σ := Nat → Int64) (fun n j t => wY_addTerm_10 post J (nI a) (nI b) (nI i) N M n (nI j) a1 a2 la sm t) (fun j t => t = gp_pl old a b i j) (b + 1) 0 _ (Nat.zero_le _) rfl ?_ ?_
  · intro n t ht
    subst ht
    rw [← gp_pl_n] at h
    exact br_t (nI_lt (by omega) (by omega)) (nm_r (nI_1 i) h)
  · intro n j t hj ht K
    subst ht
    have e9 : 9 * nI i + nI j = nI (9 * i + j) := by
      show nI 9 * nI i + nI j = _
      rw [pk_mul, nI_add]
    have ep : ((nI a - nI i) + nI b) - nI j = nI (a - i + b - j) := by
      rw [pk_sub hi, nI_add, pk_sub (by omega)]
    have hc : (nI (9 * i + j)).toNatClampNeg = 9 * i + j := nI_clamp (by omega)
    have hin : vp_in (nI (9 * i + j)) 81 := vp_in_nI (by omega) (by omega)
    refine br_f (nI_nlt (by omega) (by omega)) ?_
    refine gy_choose (by omega) ?_
    refine gy_choose (by omega) ?_
    refine nm_e ?_
    rw [e9, ep, hc]
    refine ⟨hin, by decide, ?_⟩
    by_cases p : (a - i + b - j) % 2 = 0
    · have et : gp_tm a b i j = gp_cy a i * gp_cy b j := if_pos p
      refine br_t ((gp_par _ (by omega)).mpr p) ⟨hin, nm_e (nm_r (nI_1 j) (K _ ?_))⟩
      rw [← et]
      exact gp_pl_s old a b i j (by omega)
    · have et : gp_tm a b i j = -(gp_cy a i * gp_cy b j) := if_neg p
      refine br_f (fun z => p ((gp_par _ (by omega)).mp z)) ⟨hin, nm_e (nm_r (nI_1 j) (K _ ?_))⟩
      rw [← et]
      exact gp_pl_s old a b i j (by omega)
theorem gy_addTerm {post : SY → Prop} {N M : Int32} {a1 a2 la sm : Nat → Int32} {po : Nat → Int64} {A B r : Nat} (hA : A ≤ 8) (hB : B ≤ 8) (hr : r ≤ 8) (h : ∀ t : Nat → Int64, (∀ i j, j < 9 → (t (9 * i + j)).toInt32 = (po (9 * i + j)).toInt32 + gp_ex A r i * gp_ex B r j) → post (N, M, a1, a2, la, sm, t)) : wpY_addTerm post (N, M, a1, a2, la, sm, po) (nI A - nI r) (nI B - nI r) := by
  by_cases c : r ≤ A
  · have eA : nI A - nI r = nI (A - r) := pk_sub c
    rw [eA]
    by_cases d : r ≤ B
    · have eB : nI B - nI r = nI (B - r) := pk_sub d
      rw [eB]
      refine pk_loop (σ := Nat → Int64) (fun n i t => wY_addTerm_2 post (nI (A - r)) (nI (B - r)) N M n (nI i) a1 a2 la sm t) (fun i t => t = gp_pl po (A - r) (B - r) i 0) (A - r + 1) 0 po (Nat.zero_le _) (gp_pl_0 _ _ _).symm ?_ ?_
      · intro n t ht
        subst ht
        exact br_t (nI_lt (by omega) (by omega)) (h _ (fun i j hj => gp_pl_v (by omega) (by omega) c d hj))
      · intro n i t hi ht K
        subst ht
        exact br_f (nI_nlt (by omega) (by omega)) (gy_add10 (by omega) (by omega) (by omega) (K _ rfl))
    · have hneg : nI B - nI r < 0 := pk_sneg (by omega) (by omega)
      have hz : ∀ j, gp_ex B r j = 0 := fun j => if_neg (by omega)
      refine pk_loop (σ := Unit) (fun n i _ => wY_addTerm_2 post (nI (A - r)) (nI B - nI r) N M n (nI i) a1 a2 la sm po) (fun _ _ => True) (A - r + 1) 0 () (Nat.zero_le _) trivial ?_ ?_
      · intro n _ _
        exact br_t (nI_lt (by omega) (by omega)) (h _ (fun i j hj => by rw [hz, Int32.mul_zero, Int32.add_zero]))
      · intro n i _ hi _ K
        exact br_f (nI_nlt (by omega) (by omega)) ⟨1, br_t hneg (nm_r (nI_1 i) (K () trivial))⟩
  · have hneg : nI A - nI r < 0 := pk_sneg (by omega) (by omega)
    have hz : ∀ i, gp_ex A r i = 0 := fun i => if_neg (by omega)
    exact ⟨1, br_t hneg (h _ (fun i j hj => by rw [hz, Int32.zero_mul, Int32.add_zero]))⟩
