theorem gx_rep_firstEnd {post : SX → Prop} (N M : Int32) (a1 a2 pa co fl su re : Nat → Int32) {C : Nat} (hC : C ≤ 8) (old fresh : Int32) (h : post (N, M, gq_rp a1 old fresh C, a2, pa, co, fl, su, re)) : wpX_replace__firstEnd post (N, M, a1, a2, pa, co, fl, su, re) (nI C) old fresh := by
  refine pk_loop (σ := Nat → Int32) (fun n i t => wX_replace__firstEnd_3 post (nI C) old fresh N M n (nI i) t a2 pa co fl su re) (fun i t => t = gq_rp a1 old fresh i) C 0 a1 (Nat.zero_le _) (gq_rp_0 _ _ _).symm ?_ ?_
  · intro n t ht
    subst ht
    exact br_t (nI_le (Nat.le_refl _) (by omega)) h
  · intro n i t hi ht K
    have hc : (nI i).toNatClampNeg = i := nI_clamp (by omega)
    have hv : t i = a1 i := by rw [ht]; exact gq_rp_at _ _ _ _
    have hin : vp_in (nI i) 8 := vp_in_nI (by omega) (by omega)
    refine br_f (nI_ge hi (by omega)) ⟨hin, ?_⟩
    rw [hc]
    by_cases c : t i = old
    · refine br_t c ⟨hin, nm_r (e' := gq_rp a1 old fresh (i + 1)) ?_ (nm_r (nI_1 i) (K _ rfl))⟩
      rw [ht]
      exact gq_rp_t (hv.symm.trans c)
    · exact br_f c (nm_r (nI_1 i) (K _ (ht.trans (gq_rp_f (fun z => c (hv.trans z))))))
theorem gx_rep_secondEnd {post : SX → Prop} (N M : Int32) (a1 a2 pa co fl su re : Nat → Int32) {C : Nat} (hC : C ≤ 8) (old fresh : Int32) (h : post (N, M, a1, gq_rp a2 old fresh C, pa, co, fl, su, re)) : wpX_replace__secondEnd post (N, M, a1, a2, pa, co, fl, su, re) (nI C) old fresh := by
  refine pk_loop (σ := Nat → Int32) (fun n i t => wX_replace__secondEnd_3 post (nI C) old fresh N M n (nI i) a1 t pa co fl su re) (fun i t => t = gq_rp a2 old fresh i) C 0 a2 (Nat.zero_le _) (gq_rp_0 _ _ _).symm ?_ ?_
  · intro n t ht
    subst ht
    exact br_t (nI_le (Nat.le_refl _) (by omega)) h
  · intro n i t hi ht K
    have hc : (nI i).toNatClampNeg = i := nI_clamp (by omega)
    have hv : t i = a2 i := by rw [ht]; exact gq_rp_at _ _ _ _
    have hin : vp_in (nI i) 8 := vp_in_nI (by omega) (by omega)
    refine br_f (nI_ge hi (by omega)) ⟨hin, ?_⟩
    rw [hc]
    by_cases c : t i = old
    · refine br_t c ⟨hin, nm_r (e' := gq_rp a2 old fresh (i + 1)) ?_ (nm_r (nI_1 i) (K _ rfl))⟩
      rw [ht]
      exact gq_rp_t (hv.symm.trans c)
    · exact br_f c (nm_r (nI_1 i) (K _ (ht.trans (gq_rp_f (fun z => c (hv.trans z))))))
theorem gx_rep_partOf {post : SX → Prop} (N M : Int32) (a1 a2 pa co fl su re : Nat → Int32) {C : Nat} (hC : C ≤ 6) (old fresh : Int32) (h : post (N, M, a1, a2, gq_rp pa old fresh C, co, fl, su, re)) : wpX_replace__partOf post (N, M, a1, a2, pa, co, fl, su, re) (nI C) old fresh := by
  refine pk_loop (σ := Nat → Int32) (fun n i t => wX_replace__partOf_3 post (nI C) old fresh N M n (nI i) a1 a2 t co fl su re) (fun i t => t = gq_rp pa old fresh i) C 0 pa (Nat.zero_le _) (gq_rp_0 _ _ _).symm ?_ ?_
  · intro n t ht
    subst ht
    exact br_t (nI_le (Nat.le_refl _) (by omega)) h
  · intro n i t hi ht K
    have hc : (nI i).toNatClampNeg = i := nI_clamp (by omega)
    have hv : t i = pa i := by rw [ht]; exact gq_rp_at _ _ _ _
    have hin : vp_in (nI i) 6 := vp_in_nI (by omega) (by omega)
    refine br_f (nI_ge hi (by omega)) ⟨hin, ?_⟩
    rw [hc]
    by_cases c : t i = old
    · refine br_t c ⟨hin, nm_r (e' := gq_rp pa old fresh (i + 1)) ?_ (nm_r (nI_1 i) (K _ rfl))⟩
      rw [ht]
      exact gq_rp_t (hv.symm.trans c)
    · exact br_f c (nm_r (nI_1 i) (K _ (ht.trans (gq_rp_f (fun z => c (hv.trans z))))))
theorem gx_dig_colourOf {post : SX → Prop} (N M : Int32) (a1 a2 pa co fl su re : Nat → Int32) {b c C : Nat} (hC : C ≤ 6) (hb : 1 ≤ b ∨ C = 0) (hb6 : b ≤ 6) (hc31 : c < 2 ^ 31) (h : ∀ t : Nat → Int32, (∀ j, j < C → t j = nI (gp_dg b c j + 1)) → post (N, M, a1, a2, pa, t, fl, su, re)) : wpX_writeDigits__colourOf post (N, M, a1, a2, pa, co, fl, su, re) (nI c) (nI b) (nI C) := by
  by_cases hb1 : 1 ≤ b
  · refine br_t (nI_le hb1 (by omega)) ?_
    have q : ∃ n, wX_writeDigits__colourOf_12 post (nI b) (nI C) N M n (nI (c / b ^ 0)) (nI 0) a1 a2 pa co fl su re := by
      refine pk_loop (σ := Nat → Int32) (fun n i t => wX_writeDigits__colourOf_12 post (nI b) (nI C) N M n (nI (c / b ^ i)) (nI i) a1 a2 pa t fl su re) (fun i t => ∀ j, j < i → t j = nI (gp_dg b c j + 1)) C 0 co (Nat.zero_le _) (fun j hj => absurd hj (by omega)) (fun n t ht => br_t (nI_le (Nat.le_refl _) (by omega)) (h t ht)) ?_
      intro n i t hi ht K
      have hc : (nI i).toNatClampNeg = i := nI_clamp (by omega)
      have hin : vp_in (nI i) 6 := vp_in_nI (by omega) (by omega)
      have hd : c / b ^ i < 2 ^ 31 := Nat.lt_of_le_of_lt (Nat.div_le_self _ _) hc31
      have hz : ¬ nI b = 0 := nI_ne0 (by omega) (by omega)
      have e1 : nI (c / b ^ i) - nI (c / b ^ i) / nI b * nI b + 1 = nI (gp_dg b c i + 1) := by
        rw [pk_rem hd (by omega) (by omega), nI_1]; rfl
      have e2 : nI (c / b ^ i) / nI b = nI (c / b ^ (i + 1)) := by
        rw [pk_div hd (by omega) (by omega), gp_dv]
      refine br_f (nI_ge hi (by omega)) ⟨hz, hin, nm_r (e' := upd t i (nI (gp_dg b c i + 1))) (by rw [hc, e1]) ⟨hz, nm_r e2 (nm_r (nI_1 i) (K _ ?_))⟩⟩
      exact gp_up (g := fun j => nI (gp_dg b c j + 1)) ht
    rw [Nat.pow_zero, Nat.div_one] at q
    exact q
  · refine br_f (nI_ge (a := b) (b := 1) (by omega) (by omega)) (h _ (fun j hj => absurd hj (by omega)))
theorem gx_dig_flowOver {post : SX → Prop} (N M : Int32) (a1 a2 pa co fl su re : Nat → Int32) {b c C : Nat} (hC : C ≤ 8) (hb : 1 ≤ b ∨ C = 0) (hb6 : b ≤ 6) (hc31 : c < 2 ^ 31) (h : ∀ t : Nat → Int32, (∀ j, j < C → t j = nI (gp_dg b c j + 1)) → post (N, M, a1, a2, pa, co, t, su, re)) : wpX_writeDigits__flowOver post (N, M, a1, a2, pa, co, fl, su, re) (nI c) (nI b) (nI C) := by
  by_cases hb1 : 1 ≤ b
  · refine br_t (nI_le hb1 (by omega)) ?_
    have q : ∃ n, wX_writeDigits__flowOver_12 post (nI b) (nI C) N M n (nI (c / b ^ 0)) (nI 0) a1 a2 pa co fl su re := by
      refine pk_loop (σ := Nat → Int32) (fun n i t => wX_writeDigits__flowOver_12 post (nI b) (nI C) N M n (nI (c / b ^ i)) (nI i) a1 a2 pa co t su re) (fun i t => ∀ j, j < i → t j = nI (gp_dg b c j + 1)) C 0 fl (Nat.zero_le _) (fun j hj => absurd hj (by omega)) (fun n t ht => br_t (nI_le (Nat.le_refl _) (by omega)) (h t ht)) ?_
      intro n i t hi ht K
      have hc : (nI i).toNatClampNeg = i := nI_clamp (by omega)
      have hin : vp_in (nI i) 8 := vp_in_nI (by omega) (by omega)
      have hd : c / b ^ i < 2 ^ 31 := Nat.lt_of_le_of_lt (Nat.div_le_self _ _) hc31
      have hz : ¬ nI b = 0 := nI_ne0 (by omega) (by omega)
      have e1 : nI (c / b ^ i) - nI (c / b ^ i) / nI b * nI b + 1 = nI (gp_dg b c i + 1) := by
        rw [pk_rem hd (by omega) (by omega), nI_1]; rfl
      have e2 : nI (c / b ^ i) / nI b = nI (c / b ^ (i + 1)) := by
        rw [pk_div hd (by omega) (by omega), gp_dv]
      refine br_f (nI_ge hi (by omega)) ⟨hz, hin, nm_r (e' := upd t i (nI (gp_dg b c i + 1))) (by rw [hc, e1]) ⟨hz, nm_r e2 (nm_r (nI_1 i) (K _ ?_))⟩⟩
      exact gp_up (g := fun j => nI (gp_dg b c j + 1)) ht
    rw [Nat.pow_zero, Nat.div_one] at q
    exact q
  · refine br_f (nI_ge (a := b) (b := 1) (by omega) (by omega)) (h _ (fun j hj => absurd hj (by omega)))
def gp_ok (N M : Nat) (f s : Nat → Nat) : Prop := 1 ≤ N ∧ N ≤ 6 ∧ M ≤ 8 ∧ ∀ e, f e < N ∧ s e < N
theorem gx_takeOut {post : SX → Prop} {N m i : Nat} {f s : Nat → Nat} (pa co fl su re : Nat → Int32) (hm : m ≤ 7) (hi : i ≤ m) (h : post (nI N, nI m, (fun j => nI (gp_sh f i m j)), (fun j => nI (gp_sh s i m j)), pa, co, fl, su, re)) : wpX_takeOut post (nI N, nI (m + 1), (fun j => nI (f j)), (fun j => nI (s j)), pa, co, fl, su, re) (nI i) := by
  refine nm_r (nI_pred m) ?_
  refine pk_loop (σ := (Nat → Int32) × (Nat → Int32)) (fun n e t => wX_takeOut_12 post (nI N) (nI m) n (nI e) t.1 t.2 pa co fl su re) (fun e t => i ≤ e ∧ t = ((fun j => nI (gp_sh f i e j)), (fun j => nI (gp_sh s i e j)))) m i ((fun j => nI (f j)), (fun j => nI (s j))) hi ⟨Nat.le_refl _, by rw [gp_sh_0, gp_sh_0]⟩ ?_ ?_
  · intro n t ht
    obtain ⟨_, rfl⟩ := ht
    exact br_t (nI_le (Nat.le_refl _) (by omega)) h
  · intro n e t he ht K
    obtain ⟨hie, rfl⟩ := ht
    have hc : (nI e).toNatClampNeg = e := nI_clamp (by omega)
    have hc1 : (nI e + 1).toNatClampNeg = e + 1 := by rw [nI_1]; exact nI_clamp (by omega)
    have hin : vp_in (nI e) 8 := vp_in_nI (by omega) (by omega)
    have hin1 : vp_in (nI e + 1) 8 := by rw [nI_1]; exact vp_in_nI (by omega) (by omega)
    have g : ∀ w : Nat → Nat, upd (fun j => nI (gp_sh w i e j)) (nI e).toNatClampNeg ((fun j => nI (gp_sh w i e j)) (nI e + 1).toNatClampNeg) = fun j => nI (gp_sh w i (e + 1) j) := by
      intro w
      rw [hc, hc1]
      show upd (fun j => nI (gp_sh w i e j)) e (nI (gp_sh w i e (e + 1))) = _
      rw [gp_sh_at]
      exact gp_sh_s w hie
    exact br_f (nI_ge he (by omega)) ⟨hin1, hin, nm_r (g f) ⟨hin1, hin, nm_r (g s) (nm_r (nI_1 e) (K ((fun j => nI (gp_sh f i (e + 1) j)), (fun j => nI (gp_sh s i (e + 1) j))) ⟨by omega, rfl⟩))⟩⟩
theorem gx_size {post : Int32 → Prop} {a : Nat} (ha : a < 2 ^ 31) (h : post (nI (gp_sz a 8))) : wpX_size post (nI a) := by
  refine pk_loop (σ := Unit) (fun n i _ => wX_size_4 post (nI a) n (nI (gp_sz a i)) (nI i)) (fun _ _ => True) 8 0 () (Nat.zero_le _) trivial ?_ ?_
  · intro n _ _
    exact br_t (nI_le (a := 8) (b := 8) (Nat.le_refl _) (by omega)) h
  · intro n i _ hi _ K
    refine br_f (nI_ge (b := 8) hi (by omega)) (nm_r (e' := nI (gp_sz a (i + 1))) ?_ (nm_r (nI_1 i) (K () trivial)))
    rw [gp_bit ha (by omega), nI_add]
    rfl
theorem gx_exp {post : Int32 → Prop} {A r i : Nat} (hA : A ≤ 8) (hr : r ≤ 8) (hi : i ≤ 8) (h : post (gp_ex A r i)) : wpX_expanded post (nI A - nI r) (nI i) := by
  by_cases c : r + i ≤ A
  · have e : nI A - nI r = nI (A - r) := pk_sub (by omega)
    have h2 : post (gp_sg (A - r - i) (gp_cx (A - r) i)) := by
      have e2 : gp_ex A r i = gp_sg (A - r - i) (gp_cx (A - r) i) := if_pos c
      rw [← e2]; exact h
    rw [e]
    refine br_t (nI_le (by omega) (by omega)) ?_
    refine pk_loop (σ := Unit) (fun n j _ => wX_expanded_11 post (nI (A - r)) (nI i) n (gp_cx (A - r) j) (nI (j + 1))) (fun _ _ => True) i 0 () (Nat.zero_le _) trivial ?_ ?_
    · intro n _ _
      refine br_t (nI_lt (by omega) (by omega)) ⟨by decide, ?_⟩
      rw [pk_sub (a := A - r) (b := i) (by omega)]
      by_cases p : (A - r - i) % 2 = 0
      · refine br_t ((gp_par _ (by omega)).mpr p) ?_
        have e3 : gp_sg (A - r - i) (gp_cx (A - r) i) = gp_cx (A - r) i := if_pos p
        rw [e3] at h2; exact h2
      · refine br_f (fun z => p ((gp_par _ (by omega)).mp z)) ?_
        have e3 : gp_sg (A - r - i) (gp_cx (A - r) i) = -gp_cx (A - r) i := if_neg p
        rw [e3] at h2; exact h2
    · intro n j _ hj _ K
      exact br_f (nI_nlt (by omega) (by omega)) ⟨nI_ne0 (by omega) (by omega), nm_r (e' := gp_cx (A - r) (j + 1)) rfl (nm_r (nI_1 (j + 1)) (K () trivial))⟩
  · have e2 : gp_ex A r i = 0 := if_neg c
    rw [e2] at h
    refine br_f ?_ h
    rw [Int32.le_iff_toInt_le, pk_sub_toInt (by omega) (by omega), nI_toInt (by omega)]
    omega
theorem gx_power {post : Int32 → Prop} {b C : Nat} (hC : C ≤ 8) (h : post (nI (b ^ C))) : wpX_power post (nI b) (nI C) := by
  refine pk_loop (σ := Unit) (fun n i _ => wX_power_4 post (nI b) (nI C) n (nI (b ^ i)) (nI i)) (fun _ _ => True) C 0 () (Nat.zero_le _) trivial ?_ ?_
  · intro n _ _
    exact br_t (nI_le (Nat.le_refl _) (by omega)) h
  · intro n i _ hi _ K
    exact br_f (nI_ge hi (by omega)) (nm_r (e' := nI (b ^ (i + 1))) (by rw [pk_mul, Nat.pow_succ]) (nm_r (nI_1 i) (K () trivial)))
theorem gx_rank27 {post : Int32 → SX → Prop} {N M : Nat} {f s : Nat → Nat} (H : gp_ok N M f s) {a : Nat} (ha : a < 2 ^ 31) (pa co fl su re : Nat → Int32) (h0 : ∀ p, p < N → pa p = nI p) (hp : ∀ t : Nat → Int32, post (nI (gp_rs f s M a)) (nI N, nI M, (fun j => nI (f j)), (fun j => nI (s j)), t, co, fl, su, re)) : ∃ n, wX_rank_27 post (nI a) n 0 0 (nI N) (nI M) (fun j => nI (f j)) (fun j => nI (s j)) pa co fl su re := by
  obtain ⟨h1, h6, h8, hb⟩ := H
  refine pk_loop (σ := Nat → Int32) (fun n i t => wX_rank_27 post (nI a) n (nI (gp_xt f s (fun e => a.testBit e) i).2) (nI i) (nI N) (nI M) (fun j => nI (f j)) (fun j => nI (s j)) t co fl su re) (fun i t => ∀ p, p < N → t p = nI ((gp_xt f s (fun e => a.testBit e) i).1 p)) M 0 pa (Nat.zero_le _) h0 ?_ ?_
  · intro n t ht
    exact br_t (nI_le (Nat.le_refl _) (by omega)) (hp t)
  · intro n i t hi ht K
    have hf := (hb i).1
    have hs := (hb i).2
    have hc : (nI i).toNatClampNeg = i := nI_clamp (by omega)
    have hcf : (nI (f i)).toNatClampNeg = f i := nI_clamp (by omega)
    have hcs : (nI (s i)).toNatClampNeg = s i := nI_clamp (by omega)
    have hin : vp_in (nI i) 8 := vp_in_nI (by omega) (by omega)
    have hif : vp_in (nI (f i)) 6 := vp_in_nI (by omega) (by omega)
    have his : vp_in (nI (s i)) 6 := vp_in_nI (by omega) (by omega)
    refine br_f (nI_ge hi (by omega)) ?_
    simp only [hc, hcf, hcs]
    refine ⟨hin, hif, nm_r (ht (f i) hf) ⟨hin, his, nm_r (ht (s i) hs) ?_⟩⟩
    have lf := gp_xt_lt (A := fun e => a.testBit e) hb i (f i) hf
    have ls := gp_xt_lt (A := fun e => a.testBit e) hb i (s i) hs
    by_cases hA : a.testBit i = true
    · refine br_t ((gp_bit1 ha (by omega)).mpr hA) ?_
      by_cases hne : (gp_xt f s (fun e => a.testBit e) i).1 (f i) = (gp_xt f s (fun e => a.testBit e) i).1 (s i)
      · have e : gp_xt f s (fun e => a.testBit e) (i + 1) = (gp_xt f s (fun e => a.testBit e) i) := gp_xs_f (fun z => z.2 hne)
        have k := K t (by rw [e]; exact ht)
        simp only [e] at k
        exact br_t (by rw [hne]) (nm_r (nI_1 i) k)
      · have e : gp_xt f s (fun e => a.testBit e) (i + 1) = (gp_jn (gp_xt f s (fun e => a.testBit e) i).1 ((gp_xt f s (fun e => a.testBit e) i).1 (f i)) ((gp_xt f s (fun e => a.testBit e) i).1 (s i)), (gp_xt f s (fun e => a.testBit e) i).2 + 1) := gp_xs_t ⟨hA, hne⟩
        refine br_f (fun z => hne ((nI_eq (by omega) (by omega)).mp z)) ?_
        refine gx_rep_partOf _ _ _ _ _ _ _ _ _ h6 _ _ ?_
        refine nm_r (nI_1 _) (nm_r (nI_1 i) ?_)
        have k := K (gq_rp t (nI ((gp_xt f s (fun e => a.testBit e) i).1 (s i))) (nI ((gp_xt f s (fun e => a.testBit e) i).1 (f i))) N) (by
          intro p hp2
          rw [e]
          have lp := gp_xt_lt (A := fun e => a.testBit e) hb i p hp2
          have eq := ht p hp2
          show (if p < N ∧ t p = nI ((gp_xt f s (fun e => a.testBit e) i).1 (s i)) then nI ((gp_xt f s (fun e => a.testBit e) i).1 (f i)) else t p) = nI (if (gp_xt f s (fun e => a.testBit e) i).1 p = (gp_xt f s (fun e => a.testBit e) i).1 (s i) then (gp_xt f s (fun e => a.testBit e) i).1 (f i) else (gp_xt f s (fun e => a.testBit e) i).1 p)
          by_cases d : (gp_xt f s (fun e => a.testBit e) i).1 p = (gp_xt f s (fun e => a.testBit e) i).1 (s i)
          · rw [if_pos d, if_pos ⟨hp2, by rw [eq, d]⟩]
          · rw [if_neg d, if_neg (fun z => d ((nI_eq (by omega) (by omega)).mp (eq.symm.trans z.2))), eq])
        simp only [e] at k
        exact k
    · have e : gp_xt f s (fun e => a.testBit e) (i + 1) = (gp_xt f s (fun e => a.testBit e) i) := gp_xs_f (fun z => hA z.1)
      have k := K t (by rw [e]; exact ht)
      simp only [e] at k
      exact br_f (fun z => hA ((gp_bit1 ha (by omega)).mp z)) (nm_r (nI_1 i) k)
theorem gx_rank {post : Int32 → SX → Prop} {N M : Nat} {f s : Nat → Nat} (H : gp_ok N M f s) {a : Nat} (ha : a < 2 ^ 31) (pa co fl su re : Nat → Int32) (hp : ∀ t : Nat → Int32, post (nI (gp_rs f s M a)) (nI N, nI M, (fun j => nI (f j)), (fun j => nI (s j)), t, co, fl, su, re)) : wpX_rank post (nI N, nI M, (fun j => nI (f j)), (fun j => nI (s j)), pa, co, fl, su, re) (nI a) := by
  have HH := H
  obtain ⟨h1, h6, h8, hb⟩ := HH
  refine pk_loop (σ := Nat → Int32) (fun n i t => wX_rank_2 post (nI a) (nI N) (nI M) n (nI i) (fun j => nI (f j)) (fun j => nI (s j)) t co fl su re) (fun i t => ∀ p, p < i → t p = nI p) N 0 pa (Nat.zero_le _) (fun p hp => absurd hp (by omega)) ?_ ?_
  · intro n t ht
    exact br_t (nI_le (Nat.le_refl _) (by omega)) (gx_rank27 H ha t co fl su re ht hp)
  · intro n i t hi ht K
    have hc : (nI i).toNatClampNeg = i := nI_clamp (by omega)
    exact br_f (nI_ge hi (by omega)) ⟨vp_in_nI (by omega) (by omega), nm_r (e' := upd t i (nI i)) (by rw [hc]) (nm_r (nI_1 i) (K _ (gp_up (g := fun j => nI j) ht)))⟩
theorem gx_full {post : Int32 → SX → Prop} {N M : Nat} {f s : Nat → Nat} (H : gp_ok N M f s) (pa co fl su re : Nat → Int32) (hp : ∀ t : Nat → Int32, post (nI (gp_rs f s M (2 ^ M - 1))) (nI N, nI M, (fun j => nI (f j)), (fun j => nI (s j)), t, co, fl, su, re)) : wpX_fullRank post (nI N, nI M, (fun j => nI (f j)), (fun j => nI (s j)), pa, co, fl, su, re) := by
  have h8 := gp_p8 H.2.2.1
  unfold wpX_fullRank
  dsimp only
  rw [gp_full H.2.2.1]
  exact gx_rank H (by omega) pa co fl su re hp
