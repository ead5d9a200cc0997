theorem gy_drop {post : Int32 → SY → Prop} {N m j : Nat} {f s : Nat → Nat} (la sm : Nat → Int32) (po : Nat → Int64) (hm : m ≤ 7) (hj : j ≤ m) (h : post (nI m) (nI N, nI m, (fun q => nI (gp_sh f j m q)), (fun q => nI (gp_sh s j m q)), la, sm, po)) : wpY_drop post (nI N, nI (m + 1), (fun j => nI (f j)), (fun j => nI (s j)), la, sm, po) (nI j) := by
  refine br_f (nI_pos (by omega)) (br_f (nI_ge (by omega) (by omega)) (br_f (by decide) ?_))
  refine pk_loop (σ := (Nat → Int32) × (Nat → Int32)) (fun n e t => wY_drop_12 post (nI N) (nI (m + 1)) n (nI e) t.1 t.2 la sm po) (fun e t => j ≤ e ∧ t = ((fun q => nI (gp_sh f j e q)), (fun q => nI (gp_sh s j e q)))) m j ((fun j => nI (f j)), (fun j => nI (s j))) hj ⟨Nat.le_refl _, by rw [gp_sh_0, gp_sh_0]⟩ ?_ ?_
  · intro n t ht
    obtain ⟨_, rfl⟩ := ht
    refine br_t (by rw [nI_pred]; exact nI_le (Nat.le_refl _) (by omega)) (nm_r (nI_pred m) h)
  · intro n e t he ht K
    obtain ⟨hie, rfl⟩ := ht
    have hc : (nI e).toNatClampNeg = e := nI_clamp (by omega)
    have hc1 : (nI e + 1).toNatClampNeg = e + 1 := by rw [nI_1]; exact nI_clamp (by omega)
    have hin : vp_in (nI e) 9 := vp_in_nI (by omega) (by omega)
    have hin1 : vp_in (nI e + 1) 9 := by rw [nI_1]; exact vp_in_nI (by omega) (by omega)
    have g : ∀ w : Nat → Nat, upd (fun q => nI (gp_sh w j e q)) (nI e).toNatClampNeg ((fun q => nI (gp_sh w j e q)) (nI e + 1).toNatClampNeg) = fun q => nI (gp_sh w j (e + 1) q) := by
      intro w
      rw [hc, hc1]
      show upd (fun q => nI (gp_sh w j e q)) e (nI (gp_sh w j e (e + 1))) = _
      rw [gp_sh_at]
      exact gp_sh_s w hie
    exact br_f (by rw [nI_pred]; exact nI_ge he (by omega)) ⟨hin1, hin, nm_r (g f) ⟨hin1, hin, nm_r (g s) (nm_r (nI_1 e) (K ((fun q => nI (gp_sh f j (e + 1) q)), (fun q => nI (gp_sh s j (e + 1) q))) ⟨by omega, rfl⟩))⟩⟩
theorem gx_merge50 {post : Int32 → SX → Prop} {N m j hi lo : Nat} {f s : Nat → Nat} (pa co fl su re : Nat → Int32) (h6 : N ≤ 6) (hb : ∀ e, f e < N ∧ s e < N) (hm : m ≤ 7) (hj : j ≤ m) (hh : hi < N) (h : post (nI m) (nI N, nI m, (fun q => nI (gp_rp (gp_sh f j m) hi lo m q)), (fun q => nI (gp_rp (gp_sh s j m) hi lo m q)), pa, co, fl, su, re)) : wX_merge_50 post (nI j) (nI lo) (nI hi) (nI N) (nI (m + 1)) (fun j => nI (f j)) (fun j => nI (s j)) pa co fl su re := by
  have e1 := gq_rp_n (f := gp_sh f j m) (hi := hi) (lo := lo) m (fun q => gp_sh_lt (fun e => (hb e).1) q) h6 hh
  have e2 := gq_rp_n (f := gp_sh s j m) (hi := hi) (lo := lo) m (fun q => gp_sh_lt (fun e => (hb e).2) q) h6 hh
  unfold wX_merge_50
  refine gx_takeOut pa co fl su re hm hj ?_
  dsimp only
  refine gx_rep_firstEnd _ _ _ _ _ _ _ _ _ (by omega) _ _ ?_
  dsimp only
  refine gx_rep_secondEnd _ _ _ _ _ _ _ _ _ (by omega) _ _ ?_
  dsimp only
  rw [e1, e2]
  exact h
theorem gy_merge81 {post : Int32 → SY → Prop} {N m hi lo : Nat} {f s : Nat → Nat} (la sm : Nat → Int32) (po : Nat → Int64) (h6 : N ≤ 6) (hb : ∀ e, f e < N ∧ s e < N) (hm : m ≤ 7) (hh : hi < N) (h : post (nI m) (nI N, nI m, (fun q => nI (gp_rp f hi lo m q)), (fun q => nI (gp_rp s hi lo m q)), la, sm, po)) : ∃ n, wY_merge_81 post (nI lo) (nI hi) (nI N) (nI m) n 0 (fun j => nI (f j)) (fun j => nI (s j)) la sm po := by
  refine pk_loop (σ := (Nat → Int32) × (Nat → Int32)) (fun n i t => wY_merge_81 post (nI lo) (nI hi) (nI N) (nI m) n (nI i) t.1 t.2 la sm po) (fun i t => t = ((fun q => nI (gp_rp f hi lo i q)), (fun q => nI (gp_rp s hi lo i q)))) m 0 ((fun j => nI (f j)), (fun j => nI (s j))) (Nat.zero_le _) (by rw [gp_rp_0, gp_rp_0]) ?_ ?_
  · intro n t ht
    subst ht
    exact br_t (nI_le (Nat.le_refl _) (by omega)) h
  · intro n i t hi2 ht K
    subst ht
    have hf := (hb i).1
    have hs := (hb i).2
    have hc : (nI i).toNatClampNeg = i := nI_clamp (by omega)
    have hin : vp_in (nI i) 9 := vp_in_nI (by omega) (by omega)
    have k := K ((fun q => nI (gp_rp f hi lo (i + 1) q)), (fun q => nI (gp_rp s hi lo (i + 1) q))) rfl
    have fin : wY_merge_109 post (wY_merge_81 post (nI lo) (nI hi) (nI N) (nI m) n) (nI lo) (nI hi) (nI i) (nI N) (nI m) (fun q => nI (gp_rp f hi lo (i + 1) q)) (fun q => nI (gp_rp s hi lo i q)) la sm po := by
      unfold wY_merge_109
      simp only [hc, gp_rp_at]
      refine ⟨hin, ?_⟩
      by_cases d : s i = hi
      · exact br_t (by rw [d]) ⟨hin, nm_r (gp_rp_t d) (nm_r (nI_1 i) k)⟩
      · simp only [gp_rp_f (lo := lo) d] at k
        exact br_f (fun z => d ((nI_eq (by omega) (by omega)).mp z)) (nm_r (nI_1 i) k)
    refine br_f (nI_ge hi2 (by omega)) ?_
    simp only [hc, gp_rp_at]
    refine ⟨hin, ?_⟩
    by_cases d : f i = hi
    · exact br_t (by rw [d]) ⟨hin, nm_r (gp_rp_t d) fin⟩
    · simp only [gp_rp_f (lo := lo) d] at fin
      exact br_f (fun z => d ((nI_eq (by omega) (by omega)).mp z)) fin
def gx_ok (N M : Nat) (f s : Nat → Nat) (u : SX) : Prop := ∃ pa co fl su re : Nat → Int32, u = (nI N, nI M, (fun j => nI (f j)), (fun j => nI (s j)), pa, co, fl, su, re)
def gy_ok (N M : Nat) (f s : Nat → Nat) (v : SY) : Prop := ∃ (la sm : Nat → Int32) (po : Nat → Int64), v = (nI N, nI M, (fun j => nI (f j)), (fun j => nI (s j)), la, sm, po)
theorem gp_o0 {x : Int32} (a : 1 ≤ x) : ¬ x < 0 := by
  intro z
  have h1 := Int32.le_iff_toInt_le.mp a
  have h2 := Int32.lt_iff_toInt_lt.mp z
  have e1 : (1 : Int32).toInt = 1 := by decide
  have e0 : (0 : Int32).toInt = 0 := by decide
  omega
def i_Rel (_ : Nat) (u : SX) (v : SY) : Prop := ∃ (N M : Nat) (f s : Nat → Nat), gp_ok N M f s ∧ gx_ok N M f s u ∧ gy_ok N M f s v
theorem gp_rel {k N M : Nat} {f s : Nat → Nat} (H : gp_ok N M f s) (pa co fl su re la sm : Nat → Int32) (po : Nat → Int64) : i_Rel k (nI N, nI M, (fun j => nI (f j)), (fun j => nI (s j)), pa, co, fl, su, re) (nI N, nI M, (fun j => nI (f j)), (fun j => nI (s j)), la, sm, po) := ⟨N, M, f, s, H, ⟨pa, co, fl, su, re, rfl⟩, ⟨la, sm, po, rfl⟩⟩
theorem i_up {k : Nat} {u : SX} {v : SY} (h : i_Rel k u v) : i_Rel (k + 3) u v := h
theorem gp_ok0 {N : Nat} (h1 : 1 ≤ N) (h6 : N ≤ 6) : gp_ok N 0 (fun _ => 0) (fun _ => 0) := ⟨h1, h6, Nat.zero_le _, fun _ => ⟨h1, h1⟩⟩
theorem gp_rel0 {k N : Nat} (h1 : 1 ≤ N) (h6 : N ≤ 6) : i_Rel k (nI N, 0, (fun _ => 0), (fun _ => 0), (fun _ => 0), (fun _ => 0), (fun _ => 0), (fun _ => 0), (fun _ => 0)) (nI N, 0, (fun _ => 0), (fun _ => 0), (fun _ => 0), (fun _ => 0), (fun _ => 0)) := gp_rel (gp_ok0 h1 h6) _ _ _ _ _ _ _ _
theorem i_vc0 (k0 : Int32) : wpX_init (fun u => wpY_init (fun v => i_Rel 1 u v) k0) k0 := by
  by_cases a : 1 ≤ k0
  · by_cases b : k0 ≤ 6
    · obtain ⟨j, hj, rfl⟩ := nI_of2 (M := 6) (n := 6) (by decide) (gp_o0 a) b
      have h1 : 1 ≤ j := (nI_leI (a := 1) (by omega) (by omega)).mp a
      exact br_t a (br_t b (br_t a (br_t b (gp_rel0 h1 hj))))
    · exact br_t a (br_f b (br_t a (br_f b (gp_rel0 (N := 6) (by omega) (by omega)))))
  · exact br_f a (br_f a (gp_rel0 (N := 1) (by omega) (by omega)))
