theorem gy_bal86 {post : Int32 → SY → Prop} {N M : Nat} {f s : Nat → Nat} (H : gp_ok N M f s) {b c : Nat} (hk : b ≤ 3) (la sm : Nat → Int32) (po : Nat → Int64) (hu : ∀ p, p < N → sm p = gp_sv f s (gp_wv b c) M p) (y1 : gp_ql f s N M b c → post 1 (nI N, nI M, (fun j => nI (f j)), (fun j => nI (s j)), la, sm, po)) (y0 : ¬ gp_ql f s N M b c → post 0 (nI N, nI M, (fun j => nI (f j)), (fun j => nI (s j)), la, sm, po)) : ∃ n, wY_balanced_86 post (nI (b + 1)) (nI N) (nI M) (fun j => nI (f j)) (fun j => nI (s j)) la sm po n 0 := by
  have HH := H
  obtain ⟨h1, h6, h8, hb⟩ := HH
  have h2 := gp_p8 h8
  refine pk_loop (σ := Unit) (fun n i _ => wY_balanced_86 post (nI (b + 1)) (nI N) (nI M) (fun j => nI (f j)) (fun j => nI (s j)) la sm po n (nI i)) (fun i _ => ∀ p, p < i → gp_sv f s (gp_wv b c) M p - gp_sv f s (gp_wv b c) M p / nI (b + 1) * nI (b + 1) = 0) N 0 () (Nat.zero_le _) (fun e he => absurd he (by omega)) ?_ ?_
  · intro n _ ht
    exact br_t (nI_le (Nat.le_refl _) (by omega)) (y1 ht)
  · intro n i _ hi ht K
    have hc : (nI i).toNatClampNeg = i := nI_clamp (by omega)
    have hin : vp_in (nI i) 6 := vp_in_nI (by omega) (by omega)
    refine br_f (nI_ge hi (by omega)) ⟨hin, br_t (nI_le (a := 1) (by omega) (by omega)) ⟨nI_ne0 (by omega) (by omega), ?_⟩⟩
    rw [hc, hu i hi]
    by_cases d : gp_sv f s (gp_wv b c) M i - gp_sv f s (gp_wv b c) M i / nI (b + 1) * nI (b + 1) = 0
    · exact br_t d (nm_r (nI_1 i) (K () (lt_s ht d)))
    · exact br_f d (y0 (fun z => d (z i hi)))
theorem gy_bal25 {post : Int32 → SY → Prop} {N M : Nat} {f s : Nat → Nat} (H : gp_ok N M f s) {b c : Nat} (hk : b ≤ 3) (hb1 : 1 ≤ b ∨ M = 0) (hc31 : c < 2 ^ 31) (la sm : Nat → Int32) (po : Nat → Int64) (h0 : ∀ p, p < N → sm p = 0) (y1 : gp_ql f s N M b c → ∀ t : Nat → Int32, post 1 (nI N, nI M, (fun j => nI (f j)), (fun j => nI (s j)), la, t, po)) (y0 : ¬ gp_ql f s N M b c → ∀ t : Nat → Int32, post 0 (nI N, nI M, (fun j => nI (f j)), (fun j => nI (s j)), la, t, po)) : ∃ n, wY_balanced_25 post (nI c) (nI (b + 1)) (nI N) (nI M) n 0 (fun j => nI (f j)) (fun j => nI (s j)) la sm po := by
  have HH := H
  obtain ⟨h1, h6, h8, hb⟩ := HH
  have h2 := gp_p8 h8
  refine pk_loop (σ := Nat → Int32) (fun n i t => wY_balanced_25 post (nI c) (nI (b + 1)) (nI N) (nI M) n (nI i) (fun j => nI (f j)) (fun j => nI (s j)) la t po) (fun i t => ∀ p, p < N → t p = gp_sv f s (gp_wv b c) i p) M 0 sm (Nat.zero_le _) h0 ?_ ?_
  · intro n t ht
    exact br_t (nI_le (Nat.le_refl _) (by omega)) (gy_bal86 H hk la t po ht (fun z => y1 z t) (fun z => y0 z t))
  · intro n i t hi ht K
    have hf := (hb i).1
    have hs := (hb i).2
    have hc : (nI i).toNatClampNeg = i := nI_clamp (by omega)
    have hcf : (nI (f i)).toNatClampNeg = f i := nI_clamp (by omega)
    have hcs : (nI (s i)).toNatClampNeg = s i := nI_clamp (by omega)
    have hin : vp_in (nI i) 9 := vp_in_nI (by omega) (by omega)
    have hif : vp_in (nI (f i)) 6 := vp_in_nI (by omega) (by omega)
    have his : vp_in (nI (s i)) 6 := vp_in_nI (by omega) (by omega)
    have ew : 1 + nI (gp_dg b c i) = gp_wv b c i := by
      rw [Int32.add_comm, nI_1]; rfl
    refine br_f (nI_ge hi (by omega)) ?_
    rw [nI_pred b]
    refine gy_digit (by omega) (by omega) hc31 (by omega) ?_
    simp only [hc, hcf, hcs]
    refine nm_r ew ⟨hin, hif, hif, nm_e ⟨hin, his, his, nm_e (nm_r (nI_1 i) (K _ ?_))⟩⟩
    exact gp_sp_c (hb i) ht
theorem gy_bal {post : Int32 → SY → Prop} {N M : Nat} {f s : Nat → Nat} (H : gp_ok N M f s) {b c : Nat} (hk : b ≤ 3) (hb1 : 1 ≤ b ∨ M = 0) (hc31 : c < 2 ^ 31) (la sm : Nat → Int32) (po : Nat → Int64) (y1 : gp_ql f s N M b c → ∀ t : Nat → Int32, post 1 (nI N, nI M, (fun j => nI (f j)), (fun j => nI (s j)), la, t, po)) (y0 : ¬ gp_ql f s N M b c → ∀ t : Nat → Int32, post 0 (nI N, nI M, (fun j => nI (f j)), (fun j => nI (s j)), la, t, po)) : wpY_balanced post (nI N, nI M, (fun j => nI (f j)), (fun j => nI (s j)), la, sm, po) (nI c) (nI (b + 1)) := by
  have HH := H
  obtain ⟨h1, h6, h8, hb⟩ := HH
  have h2 := gp_p8 h8
  refine pk_loop (σ := Nat → Int32) (fun n i t => wY_balanced_2 post (nI c) (nI (b + 1)) (nI N) (nI M) n (nI i) (fun j => nI (f j)) (fun j => nI (s j)) la t po) (fun i t => ∀ p, p < i → t p = 0) N 0 sm (Nat.zero_le _) (fun p hp => absurd hp (by omega)) ?_ ?_
  · intro n t ht
    exact br_t (nI_le (Nat.le_refl _) (by omega)) (gy_bal25 H hk hb1 hc31 la t po ht y1 y0)
  · intro n i t hi ht K
    have hc : (nI i).toNatClampNeg = i := nI_clamp (by omega)
    exact br_f (nI_ge hi (by omega)) ⟨vp_in_nI (by omega) (by omega), nm_r (e' := upd t i 0) (by rw [hc]) (nm_r (nI_1 i) (K _ (gp_up (g := fun _ => 0) ht)))⟩
theorem gy_flo29 {post : Int32 → SY → Prop} {N M : Nat} {f s : Nat → Nat} (H : gp_ok N M f s) {b : Nat} (hk : b ≤ 3) (la sm : Nat → Int32) (po : Nat → Int64) (h : ∀ t : Nat → Int32, post (nI (gp_cn (gp_ql f s N M b) (b ^ M))) (nI N, nI M, (fun j => nI (f j)), (fun j => nI (s j)), la, t, po)) : ∃ n, wY_flows_29 post (nI (b + 1)) (nI (b ^ M)) n 0 0 (nI N) (nI M) (fun j => nI (f j)) (fun j => nI (s j)) la sm po := by
  have HH := H
  obtain ⟨h1, h6, h8, hb⟩ := HH
  have h2 := gp_p8 h8
  have hw := gp_pw (b := b) (by omega) h8
  refine pk_loop (σ := Nat → Int32) (fun n i t => wY_flows_29 post (nI (b + 1)) (nI (b ^ M)) n (nI (gp_cn (gp_ql f s N M b) i)) (nI i) (nI N) (nI M) (fun j => nI (f j)) (fun j => nI (s j)) la t po) (fun _ _ => True) (b ^ M) 0 sm (Nat.zero_le _) trivial ?_ ?_
  · intro n t _
    exact br_t (nI_le (Nat.le_refl _) hw) (h t)
  · intro n i t hi _ K
    have hb1 : 1 ≤ b ∨ M = 0 := by
      refine Classical.byContradiction (fun z => ?_)
      have k0 : b = 0 := by omega
      rw [k0, Nat.zero_pow (by omega)] at hi
      omega
    refine br_f (nI_ge hi hw) ?_
    refine gy_bal H hk hb1 (by omega) la t po (fun z t2 => ?_) (fun z t2 => ?_)
    · refine br_f (by decide) (nm_r (nI_1 _) (nm_r (nI_1 i) ?_))
      have e := gp_cn_t (p := gp_ql f s N M b) (n := i) z
      have k := K t2 trivial
      simp only [e] at k
      exact k
    · refine br_t rfl (nm_r (nI_1 i) ?_)
      have e := gp_cn_f (p := gp_ql f s N M b) (n := i) z
      have k := K t2 trivial
      simp only [e] at k
      exact k
theorem gy_flo {post : Int32 → SY → Prop} {N M : Nat} {f s : Nat → Nat} (H : gp_ok N M f s) {b : Nat} (hk : b ≤ 3) (la sm : Nat → Int32) (po : Nat → Int64) (h : ∀ t : Nat → Int32, post (nI (gp_cn (gp_ql f s N M b) (b ^ M))) (nI N, nI M, (fun j => nI (f j)), (fun j => nI (s j)), la, t, po)) : wpY_flows post (nI N, nI M, (fun j => nI (f j)), (fun j => nI (s j)), la, sm, po) (nI (b + 1)) := by
  refine br_f (nI_nlt (b := 1) (by omega) (by omega)) (br_t (nI_le (b := 4) (by omega) (by omega)) ?_)
  rw [nI_pred b]
  exact gy_power H.2.2.1 (gy_flo29 H hk la sm po h)
theorem gy_nc142 {post : Int32 → SY → Prop} {N M : Nat} {f s : Nat → Nat} (H : gp_ok N M f s) {a : Nat} (la sm : Nat → Int32) (po : Nat → Int64) (hr : ∀ p, p < N → la p = nI (gp_lt (gp_fr f s a) (gp_to f s a) M (N + 1) p)) (y1 : ¬ (∃ u, u < N ∧ N ≤ gp_lt (gp_fr f s a) (gp_to f s a) M (N + 1) u) → post 1 (nI N, nI M, (fun j => nI (f j)), (fun j => nI (s j)), la, sm, po)) (y0 : (∃ u, u < N ∧ N ≤ gp_lt (gp_fr f s a) (gp_to f s a) M (N + 1) u) → post 0 (nI N, nI M, (fun j => nI (f j)), (fun j => nI (s j)), la, sm, po)) : ∃ n, wY_noCircle_142 post (nI N) (nI M) (fun j => nI (f j)) (fun j => nI (s j)) la sm po n 0 := by
  have HH := H
  obtain ⟨h1, h6, h8, hb⟩ := HH
  have h2 := gp_p8 h8
  have bd : ∀ p, gp_lt (gp_fr f s a) (gp_to f s a) M (N + 1) p ≤ 56 := fun p => Nat.le_trans (gp_lt_bd (gp_fr f s a) (gp_to f s a) M (N + 1) p) (Nat.mul_le_mul (by omega : N + 1 ≤ 7) h8)
  refine pk_loop (σ := Unit) (fun n i _ => wY_noCircle_142 post (nI N) (nI M) (fun j => nI (f j)) (fun j => nI (s j)) la sm po n (nI i)) (fun i _ => ∀ p, p < i → ¬ N ≤ gp_lt (gp_fr f s a) (gp_to f s a) M (N + 1) p) N 0 () (Nat.zero_le _) (fun e he => absurd he (by omega)) ?_ ?_
  · intro n _ ht
    exact br_t (nI_le (Nat.le_refl _) (by omega)) (y1 (fun ⟨p, hp, z⟩ => ht p hp z))
  · intro n i _ hi ht K
    have hc : (nI i).toNatClampNeg = i := nI_clamp (by omega)
    have hin : vp_in (nI i) 6 := vp_in_nI (by omega) (by omega)
    have l := bd i
    refine br_f (nI_ge hi (by omega)) ⟨hin, ?_⟩
    rw [hc, hr i hi]
    by_cases d : N ≤ gp_lt (gp_fr f s a) (gp_to f s a) M (N + 1) i
    · exact br_f (nI_nlt d (by omega)) (y0 ⟨i, hi, d⟩)
    · exact br_t (nI_lt (by omega) (by omega)) (nm_r (nI_1 i) (K () (lt_s ht d)))
theorem gy_nc35 {post : Int32 → SY → Prop} {J : Int32 → (Nat → Int32) → (Nat → Int32) → (Nat → Int32) → (Nat → Int32) → (Nat → Int64) → Prop} {N M : Nat} {f s : Nat → Nat} (H : gp_ok N M f s) {a r : Nat} (ha : a < 2 ^ 31) {l : Nat → Nat} (bl : ∀ p, l p ≤ 48) (la sm : Nat → Int32) (po : Nat → Int64) (hr : ∀ p, p < N → la p = nI (l p)) (y : ∀ t : Nat → Int32, (∀ p, p < N → t p = nI (gp_lk (gp_fr f s a) (gp_to f s a) M l p)) → J (nI (r + 1)) (fun j => nI (f j)) (fun j => nI (s j)) t sm po) : ∃ n, wY_noCircle_35 post J (nI a) (nI r) (nI N) (nI M) n 0 (fun j => nI (f j)) (fun j => nI (s j)) la sm po := by
  have HH := H
  obtain ⟨h1, h6, h8, hb⟩ := HH
  have h2 := gp_p8 h8
  refine pk_loop (σ := Nat → Int32) (fun n i t => wY_noCircle_35 post J (nI a) (nI r) (nI N) (nI M) n (nI i) (fun j => nI (f j)) (fun j => nI (s j)) t sm po) (fun i t => ∀ p, p < N → t p = nI (gp_lk (gp_fr f s a) (gp_to f s a) i l p)) M 0 la (Nat.zero_le _) hr ?_ ?_
  · intro n t ht
    exact br_t (nI_le (Nat.le_refl _) (by omega)) (nm_r (nI_1 r) (y t ht))
  · intro n i t hi ht K
    have hf := (hb i).1
    have hs := (hb i).2
    have hc : (nI i).toNatClampNeg = i := nI_clamp (by omega)
    have hcf : (nI (f i)).toNatClampNeg = f i := nI_clamp (by omega)
    have hcs : (nI (s i)).toNatClampNeg = s i := nI_clamp (by omega)
    have hin : vp_in (nI i) 9 := vp_in_nI (by omega) (by omega)
    have hif : vp_in (nI (f i)) 6 := vp_in_nI (by omega) (by omega)
    have his : vp_in (nI (s i)) 6 := vp_in_nI (by omega) (by omega)
    have bd := fun p => gp_lk_bd (fr := (gp_fr f s a)) (to := (gp_to f s a)) bl i p
    have fin : ∀ q g : Nat, q = gp_fr f s a i → g = gp_to f s a i → wY_noCircle_93 post J (wY_noCircle_35 post J (nI a) (nI r) (nI N) (nI M) n) (nI a) (nI r) (nI i) (nI q) (nI g) (nI N) (nI M) (fun j => nI (f j)) (fun j => nI (s j)) t sm po := by
      intro q g hq hg
      have lq : q < N := hq ▸ (gp_ft a hb i).1
      have lg : g < N := hg ▸ (gp_ft a hb i).2
      have hcq : (nI q).toNatClampNeg = q := nI_clamp (by omega)
      have hiq : vp_in (nI q) 6 := vp_in_nI (by omega) (by omega)
      have hcg : (nI g).toNatClampNeg = g := nI_clamp (by omega)
      have hig : vp_in (nI g) 6 := vp_in_nI (by omega) (by omega)
      have tq := ht q lq
      have tg := ht g lg
      have bq := bd q
      have bg := bd g
      unfold wY_noCircle_93
      simp only [hcq, hcg, tq, tg]
      refine ⟨hiq, hig, ?_⟩
      by_cases d : gp_lk (gp_fr f s a) (gp_to f s a) i l q ≤ gp_lk (gp_fr f s a) (gp_to f s a) i l g
      · refine br_f (nI_nlt d (by omega)) ⟨hig, hiq, nm_e (nm_r (nI_1 i) (K _ ?_))⟩
        intro p hp
        have d2 : gp_lk (gp_fr f s a) (gp_to f s a) i l (gp_fr f s a i) ≤ gp_lk (gp_fr f s a) (gp_to f s a) i l (gp_to f s a i) := by rw [← hq, ← hg]; exact d
        rw [gp_lk_s, gp_lr_t d2, nI_1, ← hq, ← hg]
        show (if p = q then _ else t p) = _
        by_cases m : p = q
        · rw [if_pos m, if_pos m]
        · rw [if_neg m, if_neg m]; exact ht p hp
      · refine br_t (nI_lt (by omega) (by omega)) (nm_r (nI_1 i) (K t ?_))
        intro p hp
        have d2 : ¬ gp_lk (gp_fr f s a) (gp_to f s a) i l (gp_fr f s a i) ≤ gp_lk (gp_fr f s a) (gp_to f s a) i l (gp_to f s a i) := by rw [← hq, ← hg]; exact d
        rw [gp_lk_s, gp_lr_f d2]
        exact ht p hp
    refine br_f (nI_ge hi (by omega)) (gy_in ha (by omega) (fun c => ?_) (fun c => ?_))
    · refine br_f (by decide) ⟨hin, ?_⟩
      refine gy_in ha (by omega) (fun _ => br_f (by decide) ⟨hin, ?_⟩) (fun c2 => absurd c c2)
      rw [hc]
      exact fin (s i) (f i) (if_pos c).symm (if_pos c).symm
    · refine br_t rfl ⟨hin, ?_⟩
      refine gy_in ha (by omega) (fun c2 => absurd c2 c) (fun _ => br_t rfl ⟨hin, ?_⟩)
      rw [hc]
      exact fin (f i) (s i) (if_neg c).symm (if_neg c).symm
theorem gy_nc25 {post : Int32 → SY → Prop} {N M : Nat} {f s : Nat → Nat} (H : gp_ok N M f s) {a : Nat} (ha : a < 2 ^ 31) (la sm : Nat → Int32) (po : Nat → Int64) (hr : ∀ p, p < N → la p = 0) (y1 : ¬ (∃ u, u < N ∧ N ≤ gp_lt (gp_fr f s a) (gp_to f s a) M (N + 1) u) → ∀ t : Nat → Int32, post 1 (nI N, nI M, (fun j => nI (f j)), (fun j => nI (s j)), t, sm, po)) (y0 : (∃ u, u < N ∧ N ≤ gp_lt (gp_fr f s a) (gp_to f s a) M (N + 1) u) → ∀ t : Nat → Int32, post 0 (nI N, nI M, (fun j => nI (f j)), (fun j => nI (s j)), t, sm, po)) : ∃ n, wY_noCircle_25 post (nI a) (nI N) (nI M) n 0 (fun j => nI (f j)) (fun j => nI (s j)) la sm po := by
  have HH := H
  obtain ⟨h1, h6, h8, hb⟩ := HH
  have h2 := gp_p8 h8
  refine pk_loop (σ := Nat → Int32) (fun n i t => wY_noCircle_25 post (nI a) (nI N) (nI M) n (nI i) (fun j => nI (f j)) (fun j => nI (s j)) t sm po) (fun i t => ∀ p, p < N → t p = nI (gp_lt (gp_fr f s a) (gp_to f s a) M i p)) (N + 1) 0 la (Nat.zero_le _) hr ?_ ?_
  · intro n t ht
    exact br_t (nI_lt (by omega) (by omega)) (gy_nc142 (a := a) H t sm po ht (fun z => y1 z t) (fun z => y0 z t))
  · intro n i t hi ht K
    have bd : ∀ p, gp_lt (gp_fr f s a) (gp_to f s a) M i p ≤ 48 := fun p => Nat.le_trans (gp_lt_bd (gp_fr f s a) (gp_to f s a) M i p) (Nat.mul_le_mul (by omega : i ≤ 6) h8)
    exact br_f (nI_nlt (by omega) (by omega)) (gy_nc35 H ha bd t sm po ht K)
theorem gy_nc {post : Int32 → SY → Prop} {N M : Nat} {f s : Nat → Nat} (H : gp_ok N M f s) {a : Nat} (ha : a < 2 ^ 31) (la sm : Nat → Int32) (po : Nat → Int64) (y1 : ¬ (∃ u, u < N ∧ N ≤ gp_lt (gp_fr f s a) (gp_to f s a) M (N + 1) u) → ∀ t : Nat → Int32, post 1 (nI N, nI M, (fun j => nI (f j)), (fun j => nI (s j)), t, sm, po)) (y0 : (∃ u, u < N ∧ N ≤ gp_lt (gp_fr f s a) (gp_to f s a) M (N + 1) u) → ∀ t : Nat → Int32, post 0 (nI N, nI M, (fun j => nI (f j)), (fun j => nI (s j)), t, sm, po)) : wpY_noCircle post (nI N, nI M, (fun j => nI (f j)), (fun j => nI (s j)), la, sm, po) (nI a) := by
  have HH := H
  obtain ⟨h1, h6, h8, hb⟩ := HH
  have h2 := gp_p8 h8
  refine pk_loop (σ := Nat → Int32) (fun n i t => wY_noCircle_2 post (nI a) (nI N) (nI M) n (nI i) (fun j => nI (f j)) (fun j => nI (s j)) t sm po) (fun i t => ∀ p, p < i → t p = 0) N 0 la (Nat.zero_le _) (fun p hp => absurd hp (by omega)) ?_ ?_
  · intro n t ht
    exact br_t (nI_le (Nat.le_refl _) (by omega)) (gy_nc25 H ha t sm po ht y1 y0)
  · intro n i t hi ht K
    have hc : (nI i).toNatClampNeg = i := nI_clamp (by omega)
    exact br_f (nI_ge hi (by omega)) ⟨vp_in_nI (by omega) (by omega), nm_r (e' := upd t i 0) (by rw [hc]) (nm_r (nI_1 i) (K _ (gp_up (g := fun _ => 0) ht)))⟩
theorem gy_acy {post : Int32 → SY → Prop} {N M : Nat} {f s : Nat → Nat} (H : gp_ok N M f s) (la sm : Nat → Int32) (po : Nat → Int64) (h : ∀ t : Nat → Int32, post (nI (gp_cn (gp_qn f s N M) (2 ^ M))) (nI N, nI M, (fun j => nI (f j)), (fun j => nI (s j)), t, sm, po)) : wpY_acyclic post (nI N, nI M, (fun j => nI (f j)), (fun j => nI (s j)), la, sm, po) := by
  have HH := H
  obtain ⟨h1, h6, h8, hb⟩ := HH
  have h2 := gp_p8 h8
  refine pk_loop (σ := Nat → Int32) (fun n i t => wY_acyclic_4 post n (nI (gp_cn (gp_qn f s N M) i)) (nI i) (nI N) (nI M) (fun j => nI (f j)) (fun j => nI (s j)) t sm po) (fun _ _ => True) (2 ^ M) 0 la (Nat.zero_le _) trivial ?_ ?_
  · intro n t _
    rw [wY_acyclic_4]
    refine gy_all h8 ?_
    exact br_t (nI_lt (by omega) (by omega)) (h t)
  · intro n i t hi _ K
    have cir := gp_circle (M := M) (gp_ft i hb)
    rw [wY_acyclic_4]
    refine gy_all h8 ?_
    refine br_f (nI_nlt (by omega) (by omega)) ?_
    refine gy_nc H (a := i) (by omega) t sm po (fun z t' => ?_) (fun z t' => ?_)
    · refine br_f (by decide) (nm_r (nI_1 _) (nm_r (nI_1 i) ?_))
      have e := gp_cn_t (p := gp_qn f s N M) (n := i) (fun g => z (cir.mp g))
      have k := K t' trivial
      simp only [e] at k
      exact k
    · refine br_t rfl (nm_r (nI_1 i) ?_)
      have e := gp_cn_f (p := gp_qn f s N M) (n := i) (fun g => g (cir.mpr z))
      have k := K t' trivial
      simp only [e] at k
      exact k
