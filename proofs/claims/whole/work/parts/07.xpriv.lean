theorem gx_cd {post : Int32 → Prop} {N M : Nat} {f s : Nat → Nat} (H : gp_ok N M f s) (pa co fl su re : Nat → Int32) (y1 : (∀ e, e < M → ¬ co (f e) = co (s e)) → post 1) (y0 : ¬ (∀ e, e < M → ¬ co (f e) = co (s e)) → post 0) : wpX_coloursDiffer post (nI N, nI M, (fun j => nI (f j)), (fun j => nI (s j)), pa, co, fl, su, re) := by
  obtain ⟨h1, h6, h8, hb⟩ := H
  refine pk_loop (σ := Unit) (fun n i _ => wX_coloursDiffer_2 post (nI N) (nI M) (fun j => nI (f j)) (fun j => nI (s j)) pa co fl su re n (nI i)) (fun i _ => ∀ e, e < i → ¬ co (f e) = co (s e)) M 0 () (Nat.zero_le _) (fun e he => absurd he (by omega)) ?_ ?_
  · intro n _ ht
    exact br_t (nI_le (Nat.le_refl _) (by omega)) (y1 ht)
  · intro n i _ hi ht K
    have hf := (hb i).1
    have hs := (hb i).2
    have hc : (nI i).toNatClampNeg = i := nI_clamp (by omega)
    have hcf : (nI (f i)).toNatClampNeg = f i := nI_clamp (by omega)
    have hcs : (nI (s i)).toNatClampNeg = s i := nI_clamp (by omega)
    have hin : vp_in (nI i) 8 := vp_in_nI (by omega) (by omega)
    have hif : vp_in (nI (f i)) 6 := vp_in_nI (by omega) (by omega)
    have his : vp_in (nI (s i)) 6 := vp_in_nI (by omega) (by omega)
    refine br_f (nI_ge hi (by omega)) ?_
    simp only [hc, hcf, hcs]
    refine ⟨hin, hif, hin, his, ?_⟩
    by_cases c : co (f i) = co (s i)
    · exact br_t c (y0 (fun z => z i hi c))
    · exact br_f c (nm_r (nI_1 i) (K () (lt_s ht c)))
theorem gx_fb81 {post : Int32 → SX → Prop} {N M : Nat} {f s : Nat → Nat} (H : gp_ok N M f s) {w : Nat → Int32} {k : Nat} (hk : 1 ≤ k ∧ k ≤ 6) (pa co fl su re : Nat → Int32) (hu : ∀ p, p < N → su p = gp_sv f s w M p) (y1 : (∀ p, p < N → gp_sv f s w M p - gp_sv f s w M p / nI k * nI k = 0) → post 1 (nI N, nI M, (fun j => nI (f j)), (fun j => nI (s j)), pa, co, fl, su, re)) (y0 : ¬ (∀ p, p < N → gp_sv f s w M p - gp_sv f s w M p / nI k * nI k = 0) → post 0 (nI N, nI M, (fun j => nI (f j)), (fun j => nI (s j)), pa, co, fl, su, re)) : ∃ n, wX_flowBalances_81 post (nI k) (nI N) (nI M) (fun j => nI (f j)) (fun j => nI (s j)) pa co fl su re n 0 := by
  obtain ⟨h1, h6, h8, hb⟩ := H
  refine pk_loop (σ := Unit) (fun n i _ => wX_flowBalances_81 post (nI k) (nI N) (nI M) (fun j => nI (f j)) (fun j => nI (s j)) pa co fl su re n (nI i)) (fun i _ => ∀ p, p < i → gp_sv f s w M p - gp_sv f s w M p / nI k * nI k = 0) N 0 () (Nat.zero_le _) (fun e he => absurd he (by omega)) ?_ ?_
  · intro n _ ht
    exact br_t (nI_le (Nat.le_refl _) (by omega)) (y1 ht)
  · intro n i _ hi ht K
    have hc : (nI i).toNatClampNeg = i := nI_clamp (by omega)
    have hin : vp_in (nI i) 6 := vp_in_nI (by omega) (by omega)
    refine br_f (nI_ge hi (by omega)) ⟨hin, nI_ne0 (by omega) (by omega), ?_⟩
    rw [hc, hu i hi]
    by_cases c : gp_sv f s w M i - gp_sv f s w M i / nI k * nI k = 0
    · exact br_t c (nm_r (nI_1 i) (K () (lt_s ht c)))
    · exact br_f c (y0 (fun z => c (z i hi)))
theorem gx_fb25 {post : Int32 → SX → Prop} {N M : Nat} {f s : Nat → Nat} (H : gp_ok N M f s) {w : Nat → Int32} {k : Nat} (hk : 1 ≤ k ∧ k ≤ 6) (pa co fl su re : Nat → Int32) (hw : ∀ e, e < M → fl e = w e) (h0 : ∀ p, p < N → su p = 0) (y1 : (∀ p, p < N → gp_sv f s w M p - gp_sv f s w M p / nI k * nI k = 0) → ∀ t : Nat → Int32, post 1 (nI N, nI M, (fun j => nI (f j)), (fun j => nI (s j)), pa, co, fl, t, re)) (y0 : ¬ (∀ p, p < N → gp_sv f s w M p - gp_sv f s w M p / nI k * nI k = 0) → ∀ t : Nat → Int32, post 0 (nI N, nI M, (fun j => nI (f j)), (fun j => nI (s j)), pa, co, fl, t, re)) : ∃ n, wX_flowBalances_25 post (nI k) (nI N) (nI M) n 0 (fun j => nI (f j)) (fun j => nI (s j)) pa co fl su re := by
  have HH := H
  obtain ⟨h1, h6, h8, hb⟩ := HH
  refine pk_loop (σ := Nat → Int32) (fun n i t => wX_flowBalances_25 post (nI k) (nI N) (nI M) n (nI i) (fun j => nI (f j)) (fun j => nI (s j)) pa co fl t re) (fun i t => ∀ p, p < N → t p = gp_sv f s w i p) M 0 su (Nat.zero_le _) h0 ?_ ?_
  · intro n t ht
    exact br_t (nI_le (Nat.le_refl _) (by omega)) (gx_fb81 H hk pa co fl t re ht (fun z => y1 z t) (fun z => y0 z t))
  · intro n i t hi ht K
    have hf := (hb i).1
    have hs := (hb i).2
    have hc : (nI i).toNatClampNeg = i := nI_clamp (by omega)
    have hcf : (nI (f i)).toNatClampNeg = f i := nI_clamp (by omega)
    have hcs : (nI (s i)).toNatClampNeg = s i := nI_clamp (by omega)
    have hin : vp_in (nI i) 8 := vp_in_nI (by omega) (by omega)
    have hif : vp_in (nI (f i)) 6 := vp_in_nI (by omega) (by omega)
    have his : vp_in (nI (s i)) 6 := vp_in_nI (by omega) (by omega)
    refine br_f (nI_ge hi (by omega)) ?_
    simp only [hc, hcf, hcs, hw i hi]
    refine ⟨hin, hif, hin, hif, nm_e ⟨hin, his, hin, his, nm_e (nm_r (nI_1 i) (K _ ?_))⟩⟩
    exact gp_sp_c (hb i) ht
theorem gx_fb {post : Int32 → SX → Prop} {N M : Nat} {f s : Nat → Nat} (H : gp_ok N M f s) {w : Nat → Int32} {k : Nat} (hk : 1 ≤ k ∧ k ≤ 6) (pa co fl su re : Nat → Int32) (hw : ∀ e, e < M → fl e = w e) (y1 : (∀ p, p < N → gp_sv f s w M p - gp_sv f s w M p / nI k * nI k = 0) → ∀ t : Nat → Int32, post 1 (nI N, nI M, (fun j => nI (f j)), (fun j => nI (s j)), pa, co, fl, t, re)) (y0 : ¬ (∀ p, p < N → gp_sv f s w M p - gp_sv f s w M p / nI k * nI k = 0) → ∀ t : Nat → Int32, post 0 (nI N, nI M, (fun j => nI (f j)), (fun j => nI (s j)), pa, co, fl, t, re)) : wpX_flowBalances post (nI N, nI M, (fun j => nI (f j)), (fun j => nI (s j)), pa, co, fl, su, re) (nI k) := by
  have HH := H
  obtain ⟨h1, h6, h8, hb⟩ := HH
  refine pk_loop (σ := Nat → Int32) (fun n i t => wX_flowBalances_2 post (nI k) (nI N) (nI M) n (nI i) (fun j => nI (f j)) (fun j => nI (s j)) pa co fl t re) (fun i t => ∀ p, p < i → t p = 0) N 0 su (Nat.zero_le _) (fun p hp => absurd hp (by omega)) ?_ ?_
  · intro n t ht
    exact br_t (nI_le (Nat.le_refl _) (by omega)) (gx_fb25 H hk pa co fl t re hw ht y1 y0)
  · intro n i t hi ht K
    have hc : (nI i).toNatClampNeg = i := nI_clamp (by omega)
    exact br_f (nI_ge hi (by omega)) ⟨vp_in_nI (by omega) (by omega), nm_r (e' := upd t i 0) (by rw [hc]) (nm_r (nI_1 i) (K _ (gp_up (g := fun _ => 0) ht)))⟩
def gp_fr (f s : Nat → Nat) (a e : Nat) : Nat := if a.testBit e = true then s e else f e
def gp_to (f s : Nat → Nat) (a e : Nat) : Nat := if a.testBit e = true then f e else s e
theorem gp_ft {f s : Nat → Nat} {N : Nat} (a : Nat) (hb : ∀ e, f e < N ∧ s e < N) (e : Nat) : gp_fr f s a e < N ∧ gp_to f s a e < N := by
  unfold gp_fr gp_to
  by_cases c : a.testBit e = true
  · rw [if_pos c, if_pos c]; exact ⟨(hb e).2, (hb e).1⟩
  · rw [if_neg c, if_neg c]; exact hb e
theorem gx_hc173 {post : Int32 → SX → Prop} {N M : Nat} {f s : Nat → Nat} (H : gp_ok N M f s) {a : Nat} (pa co fl su re : Nat → Int32) (hr : ∀ p, p < N → re p = nI (gp_wk (gp_fr f s a) (gp_to f s a) N M N p)) (y1 : (∃ p, p < N ∧ (gp_wk (gp_fr f s a) (gp_to f s a) N M N p).testBit p = true) → post 1 (nI N, nI M, (fun j => nI (f j)), (fun j => nI (s j)), pa, co, fl, su, re)) (y0 : ¬ (∃ p, p < N ∧ (gp_wk (gp_fr f s a) (gp_to f s a) N M N p).testBit p = true) → post 0 (nI N, nI M, (fun j => nI (f j)), (fun j => nI (s j)), pa, co, fl, su, re)) : ∃ n, wX_hasCircle_173 post (nI N) (nI M) (fun j => nI (f j)) (fun j => nI (s j)) pa co fl su re n 0 := by
  obtain ⟨h1, h6, h8, hb⟩ := H
  have lt := fun k p => gp_wk_lt (fr := (gp_fr f s a)) (to := (gp_to f s a)) (N := N) (M := M) (fun e => Nat.lt_of_lt_of_le (gp_ft a hb e).2 h6) k p
  refine pk_loop (σ := Unit) (fun n i _ => wX_hasCircle_173 post (nI N) (nI M) (fun j => nI (f j)) (fun j => nI (s j)) pa co fl su re n (nI i)) (fun i _ => ∀ p, p < i → ¬ (gp_wk (gp_fr f s a) (gp_to f s a) N M N p).testBit p = true) N 0 () (Nat.zero_le _) (fun e he => absurd he (by omega)) ?_ ?_
  · intro n _ ht
    exact br_t (nI_le (Nat.le_refl _) (by omega)) (y0 (fun ⟨p, hp, z⟩ => ht p hp z))
  · intro n i _ hi ht K
    have hc : (nI i).toNatClampNeg = i := nI_clamp (by omega)
    have hin : vp_in (nI i) 6 := vp_in_nI (by omega) (by omega)
    have l := lt N i
    have bt := gp_bit1 (k := gp_wk (gp_fr f s a) (gp_to f s a) N M N i) (j := i) (by omega) (by omega)
    refine br_f (nI_ge hi (by omega)) ⟨hin, ?_⟩
    rw [hc, hr i hi]
    by_cases c : (gp_wk (gp_fr f s a) (gp_to f s a) N M N i).testBit i = true
    · exact br_t (bt.mpr c) (y1 ⟨i, hi, c⟩)
    · exact br_f (fun z => c (bt.mp z)) (nm_r (nI_1 i) (K () (lt_s ht c)))
theorem gx_hc122 {post : Int32 → SX → Prop} {J : Int32 → (Nat → Int32) → (Nat → Int32) → (Nat → Int32) → (Nat → Int32) → (Nat → Int32) → (Nat → Int32) → (Nat → Int32) → Prop} {N M : Nat} {f s : Nat → Nat} (H : gp_ok N M f s) {k : Nat} (hk : k < N) {r : Nat → Nat} (lr : ∀ p, r p < 2 ^ 6) (pa co fl su re : Nat → Int32) (hr : ∀ p, p < N → re p = nI (r p)) (y : ∀ t : Nat → Int32, (∀ p, p < N → t p = nI (gp_ws N k r p)) → J (nI (k + 1)) (fun j => nI (f j)) (fun j => nI (s j)) pa co fl su t) : ∃ n, wX_hasCircle_122 post J (nI k) (nI N) (nI M) n 0 (fun j => nI (f j)) (fun j => nI (s j)) pa co fl su re := by
  obtain ⟨h1, h6, h8, hb⟩ := H
  refine pk_loop (σ := Nat → Int32) (fun n i t => wX_hasCircle_122 post J (nI k) (nI N) (nI M) n (nI i) (fun j => nI (f j)) (fun j => nI (s j)) pa co fl su t) (fun i t => ∀ p, p < N → t p = nI (gp_wi k r i p)) N 0 re (Nat.zero_le _) (fun p hp => by
    rw [hr p hp]
    show nI (r p) = nI (if p < 0 ∧ (r p).testBit k = true then r p ||| r k else r p)
    rw [if_neg (by omega)]) ?_ ?_
  · intro n t ht
    exact br_t (nI_le (Nat.le_refl _) (by omega)) (nm_r (nI_1 k) (y t ht))
  · intro n i t hi ht K
    have hc : (nI i).toNatClampNeg = i := nI_clamp (by omega)
    have hck : (nI k).toNatClampNeg = k := nI_clamp (by omega)
    have hin : vp_in (nI i) 6 := vp_in_nI (by omega) (by omega)
    have hik : vp_in (nI k) 6 := vp_in_nI (by omega) (by omega)
    have ti : t i = nI (r i) := by
      rw [ht i hi]
      show nI (if i < i ∧ (r i).testBit k = true then r i ||| r k else r i) = nI (r i)
      rw [if_neg (by omega)]
    have tk : t k = nI (r k) := by
      rw [ht k hk]
      show nI (if k < i ∧ (r k).testBit k = true then r k ||| r k else r k) = nI (r k)
      by_cases c : k < i ∧ (r k).testBit k = true
      · rw [if_pos c, Nat.or_self]
      · rw [if_neg c]
    have l := lr i
    have bt := gp_bit1 (k := r i) (j := k) (by omega) (by omega)
    refine br_f (nI_ge hi (by omega)) ?_
    simp only [hc, hck, ti, tk]
    refine ⟨hin, ?_⟩
    by_cases c : (r i).testBit k = true
    · refine br_t (bt.mpr c) ⟨hin, hik, hin, nm_e (nm_r (nI_1 i) (K _ ?_))⟩
      intro p hp
      rw [gp_or]
      show (if p = i then nI (r i ||| r k) else t p) = nI (if p < i + 1 ∧ (r p).testBit k = true then r p ||| r k else r p)
      by_cases d : p = i
      · subst d
        rw [if_pos rfl, if_pos ⟨by omega, c⟩]
      · rw [if_neg d, ht p hp]
        show nI (if p < i ∧ (r p).testBit k = true then r p ||| r k else r p) = _
        by_cases g : p < i ∧ (r p).testBit k = true
        · rw [if_pos g, if_pos ⟨by omega, g.2⟩]
        · rw [if_neg g, if_neg (fun z => g ⟨by omega, z.2⟩)]
    · refine br_f (fun z => c (bt.mp z)) (nm_r (nI_1 i) (K _ ?_))
      intro p hp
      rw [ht p hp]
      show nI (if p < i ∧ (r p).testBit k = true then r p ||| r k else r p) = nI (if p < i + 1 ∧ (r p).testBit k = true then r p ||| r k else r p)
      by_cases g : p < i ∧ (r p).testBit k = true
      · rw [if_pos g, if_pos ⟨by omega, g.2⟩]
      · have nn : ¬ (p < i + 1 ∧ (r p).testBit k = true) := by
          rintro ⟨z1, z2⟩
          by_cases d : p = i
          · subst d; exact c z2
          · exact g ⟨by omega, z2⟩
        rw [if_neg g, if_neg nn]
theorem gx_hc112 {post : Int32 → SX → Prop} {N M : Nat} {f s : Nat → Nat} (H : gp_ok N M f s) {a : Nat} (pa co fl su re : Nat → Int32) (hr : ∀ p, p < N → re p = nI (gp_wk (gp_fr f s a) (gp_to f s a) N M 0 p)) (y1 : (∃ p, p < N ∧ (gp_wk (gp_fr f s a) (gp_to f s a) N M N p).testBit p = true) → ∀ t : Nat → Int32, post 1 (nI N, nI M, (fun j => nI (f j)), (fun j => nI (s j)), pa, co, fl, su, t)) (y0 : ¬ (∃ p, p < N ∧ (gp_wk (gp_fr f s a) (gp_to f s a) N M N p).testBit p = true) → ∀ t : Nat → Int32, post 0 (nI N, nI M, (fun j => nI (f j)), (fun j => nI (s j)), pa, co, fl, su, t)) : ∃ n, wX_hasCircle_112 post (nI N) (nI M) n 0 (fun j => nI (f j)) (fun j => nI (s j)) pa co fl su re := by
  have HH := H
  obtain ⟨h1, h6, h8, hb⟩ := HH
  refine pk_loop (σ := Nat → Int32) (fun n i t => wX_hasCircle_112 post (nI N) (nI M) n (nI i) (fun j => nI (f j)) (fun j => nI (s j)) pa co fl su t) (fun i t => ∀ p, p < N → t p = nI (gp_wk (gp_fr f s a) (gp_to f s a) N M i p)) N 0 re (Nat.zero_le _) hr ?_ ?_
  · intro n t ht
    exact br_t (nI_le (Nat.le_refl _) (by omega)) (gx_hc173 (a := a) H pa co fl su t ht (fun z => y1 z t) (fun z => y0 z t))
  · intro n i t hi ht K
    have lt := gp_wk_lt (fr := (gp_fr f s a)) (to := (gp_to f s a)) (N := N) (M := M) (fun e => Nat.lt_of_lt_of_le (gp_ft a hb e).2 h6) i
    exact br_f (nI_ge hi (by omega)) (gx_hc122 H hi lt pa co fl su t ht K)
theorem gx_hc25 {post : Int32 → SX → Prop} {N M : Nat} {f s : Nat → Nat} (H : gp_ok N M f s) {a : Nat} (ha : a < 2 ^ 31) (pa co fl su re : Nat → Int32) (hr : ∀ p, p < N → re p = 0) (y1 : (∃ p, p < N ∧ (gp_wk (gp_fr f s a) (gp_to f s a) N M N p).testBit p = true) → ∀ t : Nat → Int32, post 1 (nI N, nI M, (fun j => nI (f j)), (fun j => nI (s j)), pa, co, fl, su, t)) (y0 : ¬ (∃ p, p < N ∧ (gp_wk (gp_fr f s a) (gp_to f s a) N M N p).testBit p = true) → ∀ t : Nat → Int32, post 0 (nI N, nI M, (fun j => nI (f j)), (fun j => nI (s j)), pa, co, fl, su, t)) : ∃ n, wX_hasCircle_25 post (nI a) (nI N) (nI M) n 0 (fun j => nI (f j)) (fun j => nI (s j)) pa co fl su re := by
  have HH := H
  obtain ⟨h1, h6, h8, hb⟩ := HH
  refine pk_loop (σ := Nat → Int32) (fun n i t => wX_hasCircle_25 post (nI a) (nI N) (nI M) n (nI i) (fun j => nI (f j)) (fun j => nI (s j)) pa co fl su t) (fun i t => ∀ p, p < N → t p = nI (gp_ek (gp_fr f s a) (gp_to f s a) i p)) M 0 re (Nat.zero_le _) hr ?_ ?_
  · intro n t ht
    exact br_t (nI_le (Nat.le_refl _) (by omega)) (gx_hc112 H pa co fl su t ht y1 y0)
  · intro n i t hi ht K
    have hf := (hb i).1
    have hs := (hb i).2
    have hc : (nI i).toNatClampNeg = i := nI_clamp (by omega)
    have hcf : (nI (f i)).toNatClampNeg = f i := nI_clamp (by omega)
    have hcs : (nI (s i)).toNatClampNeg = s i := nI_clamp (by omega)
    have hin : vp_in (nI i) 8 := vp_in_nI (by omega) (by omega)
    have hif : vp_in (nI (f i)) 6 := vp_in_nI (by omega) (by omega)
    have his : vp_in (nI (s i)) 6 := vp_in_nI (by omega) (by omega)
    have bt := gp_bit1 (k := a) (j := i) ha (by omega)
    have fin : ∀ q r : Nat, q = gp_fr f s a i → r = gp_to f s a i → wX_hasCircle_88 post (wX_hasCircle_25 post (nI a) (nI N) (nI M) n) (nI a) (nI i) (nI q) (nI r) (nI N) (nI M) (fun j => nI (f j)) (fun j => nI (s j)) pa co fl su t := by
      intro q r hq hr2
      have lq : q < N := hq ▸ (gp_ft a hb i).1
      have lr : r < N := hr2 ▸ (gp_ft a hb i).2
      have hcq : (nI q).toNatClampNeg = q := nI_clamp (by omega)
      have hiq : vp_in (nI q) 6 := vp_in_nI (by omega) (by omega)
      refine ⟨hiq, hiq, nm_r (e' := upd t q (nI (gp_ek (gp_fr f s a) (gp_to f s a) i q ||| 2 ^ r))) ?_ (nm_r (nI_1 i) (K _ ?_))⟩
      · rw [hcq, ht q lq, gp_shl (by omega), gp_or]
      · intro p hp
        show (if p = q then nI (gp_ek (gp_fr f s a) (gp_to f s a) i q ||| 2 ^ r) else t p) = nI (if p = gp_fr f s a i then gp_ek (gp_fr f s a) (gp_to f s a) i p ||| 2 ^ (gp_to f s a i) else gp_ek (gp_fr f s a) (gp_to f s a) i p)
        rw [← hq, ← hr2]
        by_cases d : p = q
        · rw [if_pos d, if_pos d, d]
        · rw [if_neg d, if_neg d, ht p hp]
    refine br_f (nI_ge hi (by omega)) ?_
    by_cases c : a.testBit i = true
    · refine br_t (bt.mpr c) (br_f (by decide) ⟨hin, br_f (by decide) ⟨hin, ?_⟩⟩)
      rw [hc]
      exact fin (s i) (f i) (if_pos c).symm (if_pos c).symm
    · refine br_f (fun z => c (bt.mp z)) (br_t rfl ⟨hin, br_t rfl ⟨hin, ?_⟩⟩)
      rw [hc]
      exact fin (f i) (s i) (if_neg c).symm (if_neg c).symm
theorem gx_hc {post : Int32 → SX → Prop} {N M : Nat} {f s : Nat → Nat} (H : gp_ok N M f s) {a : Nat} (ha : a < 2 ^ 31) (pa co fl su re : Nat → Int32) (y1 : (∃ p, p < N ∧ (gp_wk (gp_fr f s a) (gp_to f s a) N M N p).testBit p = true) → ∀ t : Nat → Int32, post 1 (nI N, nI M, (fun j => nI (f j)), (fun j => nI (s j)), pa, co, fl, su, t)) (y0 : ¬ (∃ p, p < N ∧ (gp_wk (gp_fr f s a) (gp_to f s a) N M N p).testBit p = true) → ∀ t : Nat → Int32, post 0 (nI N, nI M, (fun j => nI (f j)), (fun j => nI (s j)), pa, co, fl, su, t)) : wpX_hasCircle post (nI N, nI M, (fun j => nI (f j)), (fun j => nI (s j)), pa, co, fl, su, re) (nI a) := by
  have HH := H
  obtain ⟨h1, h6, h8, hb⟩ := HH
  refine pk_loop (σ := Nat → Int32) (fun n i t => wX_hasCircle_2 post (nI a) (nI N) (nI M) n (nI i) (fun j => nI (f j)) (fun j => nI (s j)) pa co fl su t) (fun i t => ∀ p, p < i → t p = 0) N 0 re (Nat.zero_le _) (fun p hp => absurd hp (by omega)) ?_ ?_
  · intro n t ht
    exact br_t (nI_le (Nat.le_refl _) (by omega)) (gx_hc25 H ha pa co fl su t ht y1 y0)
  · intro n i t hi ht K
    have hc : (nI i).toNatClampNeg = i := nI_clamp (by omega)
    exact br_f (nI_ge hi (by omega)) ⟨vp_in_nI (by omega) (by omega), nm_r (e' := upd t i 0) (by rw [hc]) (nm_r (nI_1 i) (K _ (gp_up (g := fun _ => 0) ht)))⟩
