theorem i_vc_add {k : Nat} {u : SX} {v : SY} (I : i_Rel k u v) (hk : k + 3 ≤ 1537) (v1 : Int32) (v2 : Int32) : wpX_add (fun r u' => wpY_add (fun r' v' => r' = r ∧ i_Rel (k + 3) u' v') v v1 v2) u v1 v2 := by
  obtain ⟨N, M, f, s, H, ⟨pa, co, fl, su, re, rfl⟩, ⟨la, sm, po, rfl⟩⟩ := I
  have HH := H
  obtain ⟨h1, h6, h8, hb⟩ := HH
  by_cases m8 : M = 8
  · subst m8
    exact br_f (nI_nlt (b := 8) (Nat.le_refl 8) (by omega)) (br_t rfl ⟨rfl, gp_rel H _ _ _ _ _ _ _ _⟩)
  · have hX : nI M < 8 := nI_lt (b := 8) (by omega) (by omega)
    have hY : ¬ nI M = 8 := fun z => m8 ((nI_eq (b := 8) (by omega) (by omega)).mp z)
    have hc : (nI M).toNatClampNeg = M := nI_clamp (by omega)
    by_cases a : v1 < 0
    · exact br_t hX (br_t a (br_f hY (br_t a (br_t rfl ⟨rfl, gp_rel H _ _ _ _ _ _ _ _⟩))))
    · by_cases b : nI N ≤ v1
      · exact br_t hX (br_f a (br_t b (br_f hY (br_f a (br_t b (br_t rfl ⟨rfl, gp_rel H _ _ _ _ _ _ _ _⟩))))))
      · by_cases c : v2 < 0
        · exact br_t hX (br_f a (br_f b (br_t c (br_f hY (br_f a (br_f b (br_f (by decide) (br_t c (br_t rfl ⟨rfl, gp_rel H _ _ _ _ _ _ _ _⟩)))))))))
        · by_cases d : nI N ≤ v2
          · exact br_t hX (br_f a (br_f b (br_f c (br_f (Int32.not_lt.mpr d) (br_f hY (br_f a (br_f b (br_f (by decide) (br_f c (br_t d (br_t rfl ⟨rfl, gp_rel H _ _ _ _ _ _ _ _⟩)))))))))))
          · obtain ⟨j, hj, rfl⟩ : ∃ j, j < N ∧ v1 = nI j := by
              rcases pk_ix v1 (n := N) (by omega) with z | z | z
              · exact absurd z a
              · exact absurd z b
              · exact z
            obtain ⟨l, hl, rfl⟩ : ∃ j, j < N ∧ v2 = nI j := by
              rcases pk_ix v2 (n := N) (by omega) with z | z | z
              · exact absurd z c
              · exact absurd z d
              · exact z
            have e1 : upd (fun j => nI (f j)) (nI M).toNatClampNeg (nI j) = fun q => nI (gp_ad f M j q) := by rw [hc]; exact gp_ad_u f M j
            have e2 : upd (fun j => nI (s j)) (nI M).toNatClampNeg (nI l) = fun q => nI (gp_ad s M l q) := by rw [hc]; exact gp_ad_u s M l
            have hin8 : vp_in (nI M) 8 := vp_in_nI (by omega) (by omega)
            have hin9 : vp_in (nI M) 9 := vp_in_nI (by omega) (by omega)
            have ok : gp_ok N (M + 1) (gp_ad f M j) (gp_ad s M l) := ⟨h1, h6, by omega, fun e => ⟨gp_ad_lt (fun e => (hb e).1) hj e, gp_ad_lt (fun e => (hb e).2) hl e⟩⟩
            refine br_t hX (br_f a (br_f b (br_f c (br_t (nI_lt hl (by omega)) ⟨hin8, nm_r e1 ⟨hin8, nm_r e2 (nm_r (nI_1 M) ?_)⟩⟩))))
            exact br_f hY (br_f a (br_f b (br_f (by decide) (br_f c (br_f d (br_f (by decide) ⟨hin9, nm_r e1 ⟨hin9, nm_r e2 (nm_r (nI_1 M) ⟨rfl, gp_rel ok _ _ _ _ _ _ _ _⟩)⟩⟩))))))
theorem i_vc_drop {k : Nat} {u : SX} {v : SY} (I : i_Rel k u v) (hk : k + 3 ≤ 1537) (v1 : Int32) : wpX_drop (fun r u' => wpY_drop (fun r' v' => r' = r ∧ i_Rel (k + 3) u' v') v v1) u v1 := by
  obtain ⟨N, M, f, s, H, ⟨pa, co, fl, su, re, rfl⟩, ⟨la, sm, po, rfl⟩⟩ := I
  have HH := H
  obtain ⟨h1, h6, h8, hb⟩ := HH
  by_cases a : v1 < 0
  · exact br_t a (br_t a (br_t rfl ⟨rfl, gp_rel H _ _ _ _ _ _ _ _⟩))
  · by_cases b : nI M ≤ v1
    · exact br_f a (br_f (Int32.not_lt.mpr b) (br_f a (br_t b (br_t rfl ⟨rfl, gp_rel H _ _ _ _ _ _ _ _⟩))))
    · obtain ⟨j, hj, rfl⟩ : ∃ j, j < M ∧ v1 = nI j := by
        rcases pk_ix v1 (n := M) (by omega) with z | z | z
        · exact absurd z a
        · exact absurd z b
        · exact z
      obtain ⟨m, rfl⟩ : ∃ m, M = m + 1 := ⟨M - 1, by omega⟩
      have hb' : ∀ e, gp_sh f j m e < N ∧ gp_sh s j m e < N := fun e => ⟨gp_sh_lt (fun e => (hb e).1) e, gp_sh_lt (fun e => (hb e).2) e⟩
      have ok : gp_ok N m (gp_sh f j m) (gp_sh s j m) := ⟨h1, h6, by omega, hb'⟩
      refine br_f a (br_t (nI_lt hj (by omega)) ?_)
      refine gx_takeOut pa co fl su re (by omega) (by omega) ?_
      exact gy_drop la sm po (by omega) (by omega) ⟨rfl, gp_rel ok _ _ _ _ _ _ _ _⟩
theorem i_vc_merge {k : Nat} {u : SX} {v : SY} (I : i_Rel k u v) (hk : k + 3 ≤ 1537) (v1 : Int32) : wpX_merge (fun r u' => wpY_merge (fun r' v' => r' = r ∧ i_Rel (k + 3) u' v') v v1) u v1 := by
  obtain ⟨N, M, f, s, H, ⟨pa, co, fl, su, re, rfl⟩, ⟨la, sm, po, rfl⟩⟩ := I
  have HH := H
  obtain ⟨h1, h6, h8, hb⟩ := HH
  by_cases a : v1 < 0
  · exact br_t a (br_t a (br_t rfl ⟨rfl, gp_rel H _ _ _ _ _ _ _ _⟩))
  · by_cases b : nI M ≤ v1
    · exact br_f a (br_f (Int32.not_lt.mpr b) (br_f a (br_t b (br_t rfl ⟨rfl, gp_rel H _ _ _ _ _ _ _ _⟩))))
    · obtain ⟨j, hj, rfl⟩ : ∃ j, j < M ∧ v1 = nI j := by
        rcases pk_ix v1 (n := M) (by omega) with z | z | z
        · exact absurd z a
        · exact absurd z b
        · exact z
      obtain ⟨m, rfl⟩ : ∃ m, M = m + 1 := ⟨M - 1, by omega⟩
      have hb' : ∀ e, gp_sh f j m e < N ∧ gp_sh s j m e < N := fun e => ⟨gp_sh_lt (fun e => (hb e).1) e, gp_sh_lt (fun e => (hb e).2) e⟩
      have hf := (hb j).1
      have hs := (hb j).2
      have hc : (nI j).toNatClampNeg = j := nI_clamp (by omega)
      have ef : (fun j => nI (f j)) (nI j).toNatClampNeg = nI (f j) := by rw [hc]
      have es : (fun j => nI (s j)) (nI j).toNatClampNeg = nI (s j) := by rw [hc]
      have hin8 : vp_in (nI j) 8 := vp_in_nI (by omega) (by omega)
      have hin9 : vp_in (nI j) 9 := vp_in_nI (by omega) (by omega)
      by_cases c : s j ≤ f j
      · have le : nI (s j) ≤ nI (f j) := nI_le c (by omega)
        have ok : gp_ok N m (gp_rp (gp_sh f j m) (f j) (s j) m) (gp_rp (gp_sh s j m) (f j) (s j) m) := ⟨h1, h6, by omega, fun e => ⟨gp_rp_lt m (fun e => (hb' e).1) (hb j).2 e, gp_rp_lt m (fun e => (hb' e).2) (hb j).2 e⟩⟩
        refine br_f a (br_t (nI_lt hj (by omega)) ⟨hin8, nm_r ef ⟨hin8, nm_r es ?_⟩⟩)
        refine br_t le (br_t le ?_)
        refine gx_merge50 pa co fl su re h6 hb (by omega) (by omega) (hb j).1 ?_
        refine br_f a (br_f b (br_f (by decide) ⟨hin9, hin9, ?_⟩))
        rw [ef, es]
        refine br_t le ⟨hin9, hin9, hin9, ?_⟩
        rw [ef, es]
        refine br_t le ⟨hin9, ?_⟩
        unfold wY_merge_71
        refine gy_drop la sm po (by omega) (by omega) ?_
        exact gy_merge81 la sm po h6 hb' (by omega) (hb j).1 ⟨rfl, gp_rel ok _ _ _ _ _ _ _ _⟩
      · have le : ¬ nI (s j) ≤ nI (f j) := nI_ge (by omega) (by omega)
        have ok : gp_ok N m (gp_rp (gp_sh f j m) (s j) (f j) m) (gp_rp (gp_sh s j m) (s j) (f j) m) := ⟨h1, h6, by omega, fun e => ⟨gp_rp_lt m (fun e => (hb' e).1) (hb j).1 e, gp_rp_lt m (fun e => (hb' e).2) (hb j).1 e⟩⟩
        refine br_f a (br_t (nI_lt hj (by omega)) ⟨hin8, nm_r ef ⟨hin8, nm_r es ?_⟩⟩)
        refine br_f le (br_f le ?_)
        refine gx_merge50 pa co fl su re h6 hb (by omega) (by omega) (hb j).2 ?_
        refine br_f a (br_f b (br_f (by decide) ⟨hin9, hin9, ?_⟩))
        rw [ef, es]
        refine br_f le ⟨hin9, hin9, hin9, ?_⟩
        rw [ef, es]
        refine br_f le ⟨hin9, ?_⟩
        unfold wY_merge_71
        refine gy_drop la sm po (by omega) (by omega) ?_
        exact gy_merge81 la sm po h6 hb' (by omega) (hb j).2 ⟨rfl, gp_rel ok _ _ _ _ _ _ _ _⟩
theorem i_vc_edges {k : Nat} {u : SX} {v : SY} (I : i_Rel k u v) (hk : k + 3 ≤ 1537) : wpX_edges (fun r => wpY_edges (fun r' => r' = r ∧ i_Rel (k + 3) u v) v) u := by
  obtain ⟨N, M, f, s, H, ⟨pa, co, fl, su, re, rfl⟩, ⟨la, sm, po, rfl⟩⟩ := I
  exact ⟨rfl, gp_rel H _ _ _ _ _ _ _ _⟩
theorem i_vc_parts {k : Nat} {u : SX} {v : SY} (I : i_Rel k u v) (hk : k + 3 ≤ 1537) : wpX_parts (fun r u' => wpY_parts (fun r' v' => r' = r ∧ i_Rel (k + 3) u' v') v) u := by
  obtain ⟨N, M, f, s, H, ⟨pa, co, fl, su, re, rfl⟩, ⟨la, sm, po, rfl⟩⟩ := I
  exact gx_parts H pa co fl su re (fun t => gy_parts H la sm po (fun t' => ⟨rfl, gp_rel H _ _ _ _ _ _ _ _⟩))
theorem i_vc_trees {k : Nat} {u : SX} {v : SY} (I : i_Rel k u v) (hk : k + 3 ≤ 1537) : wpX_trees (fun r u' => wpY_trees (fun r' v' => r' = r ∧ i_Rel (k + 3) u' v') v) u := by
  obtain ⟨N, M, f, s, H, ⟨pa, co, fl, su, re, rfl⟩, ⟨la, sm, po, rfl⟩⟩ := I
  exact gx_trees H pa co fl su re (fun t => gy_trees H la sm po (fun t' => ⟨rfl, gp_rel H _ _ _ _ _ _ _ _⟩))
theorem i_vc_forests {k : Nat} {u : SX} {v : SY} (I : i_Rel k u v) (hk : k + 3 ≤ 1537) : wpX_forests (fun r u' => wpY_forests (fun r' v' => r' = r ∧ i_Rel (k + 3) u' v') v) u := by
  obtain ⟨N, M, f, s, H, ⟨pa, co, fl, su, re, rfl⟩, ⟨la, sm, po, rfl⟩⟩ := I
  exact gx_forests H pa co fl su re (fun t => gy_forests H la sm po (fun t' => ⟨rfl, gp_rel H _ _ _ _ _ _ _ _⟩))
theorem i_vc_spanning {k : Nat} {u : SX} {v : SY} (I : i_Rel k u v) (hk : k + 3 ≤ 1537) : wpX_spanning (fun r u' => wpY_spanning (fun r' v' => r' = r ∧ i_Rel (k + 3) u' v') v) u := by
  obtain ⟨N, M, f, s, H, ⟨pa, co, fl, su, re, rfl⟩, ⟨la, sm, po, rfl⟩⟩ := I
  exact gx_spanning H pa co fl su re (fun t => gy_spanning H la sm po (fun t' => ⟨rfl, gp_rel H _ _ _ _ _ _ _ _⟩))
theorem i_vc_acyclic {k : Nat} {u : SX} {v : SY} (I : i_Rel k u v) (hk : k + 3 ≤ 1537) : wpX_acyclic (fun r u' => wpY_acyclic (fun r' v' => r' = r ∧ i_Rel (k + 3) u' v') v) u := by
  obtain ⟨N, M, f, s, H, ⟨pa, co, fl, su, re, rfl⟩, ⟨la, sm, po, rfl⟩⟩ := I
  exact gx_acy H pa co fl su re (fun t => gy_acy H la sm po (fun t' => ⟨rfl, gp_rel H _ _ _ _ _ _ _ _⟩))
theorem i_vc_coefficient {k : Nat} {u : SX} {v : SY} (I : i_Rel k u v) (hk : k + 3 ≤ 1537) (v1 : Int32) (v2 : Int32) : wpX_coefficient (fun r u' => wpY_coefficient (fun r' v' => r' = r ∧ i_Rel (k + 3) u' v') v v1 v2) u v1 v2 := by
  obtain ⟨N, M, f, s, H, ⟨pa, co, fl, su, re, rfl⟩, ⟨la, sm, po, rfl⟩⟩ := I
  by_cases a : v1 < 0
  · exact br_t a (br_t a ⟨rfl, gp_rel H _ _ _ _ _ _ _ _⟩)
  · by_cases b : 8 < v1
    · exact br_f a (br_t b (br_f a (br_t b ⟨rfl, gp_rel H _ _ _ _ _ _ _ _⟩)))
    · by_cases c : v2 < 0
      · exact br_f a (br_f b (br_t c (br_f a (br_f b (br_t c ⟨rfl, gp_rel H _ _ _ _ _ _ _ _⟩)))))
      · by_cases d : v2 ≤ 8
        · obtain ⟨x, hx, rfl⟩ := nI_of2 (M := 8) (n := 8) (by decide) a (Int32.not_lt.mp b)
          obtain ⟨y, hy, rfl⟩ := nI_of2 (M := 8) (n := 8) (by decide) c d
          exact gx_coef H hx hy pa co fl su re (fun t => gy_coef H hx hy la sm po (fun t' q => ⟨rfl, gp_rel H _ _ _ _ _ _ _ _⟩))
        · exact br_f a (br_f b (br_f c (br_f d (br_f a (br_f b (br_f c (br_f d ⟨rfl, gp_rel H _ _ _ _ _ _ _ _⟩)))))))
theorem i_vc_colourings {k : Nat} {u : SX} {v : SY} (I : i_Rel k u v) (hk : k + 3 ≤ 1537) (v1 : Int32) : wpX_colourings (fun r u' => wpY_colourings (fun r' => r' = r ∧ i_Rel (k + 3) u' v) v v1) u v1 := by
  obtain ⟨N, M, f, s, H, ⟨pa, co, fl, su, re, rfl⟩, ⟨la, sm, po, rfl⟩⟩ := I
  by_cases a : v1 < 0
  · exact br_t a (br_t a ⟨rfl, gp_rel H _ _ _ _ _ _ _ _⟩)
  · by_cases b : v1 ≤ 6
    · obtain ⟨x, hx, rfl⟩ := nI_of2 (M := 6) (n := 6) (by decide) a b
      exact gx_col H hx pa co fl su re (fun t => gy_col H hx la sm po ⟨rfl, gp_rel H _ _ _ _ _ _ _ _⟩)
    · exact br_f a (br_f b (br_f a (br_f b ⟨rfl, gp_rel H _ _ _ _ _ _ _ _⟩)))
theorem i_vc_flows {k : Nat} {u : SX} {v : SY} (I : i_Rel k u v) (hk : k + 3 ≤ 1537) (v1 : Int32) : wpX_flows (fun r u' => wpY_flows (fun r' v' => r' = r ∧ i_Rel (k + 3) u' v') v v1) u v1 := by
  obtain ⟨N, M, f, s, H, ⟨pa, co, fl, su, re, rfl⟩, ⟨la, sm, po, rfl⟩⟩ := I
  by_cases a : v1 < 1
  · exact br_t a (br_t a ⟨rfl, gp_rel H _ _ _ _ _ _ _ _⟩)
  · by_cases b : v1 ≤ 4
    · have a1 : 1 ≤ v1 := Int32.not_lt.mp a
      obtain ⟨x, hx, rfl⟩ := nI_of2 (M := 4) (n := 4) (by decide) (gp_o0 a1) b
      have h1 : 1 ≤ x := (nI_leI (a := 1) (by omega) (by omega)).mp a1
      obtain ⟨y, rfl⟩ : ∃ y, x = y + 1 := ⟨x - 1, by omega⟩
      exact gx_flo H (by omega) pa co fl su re (fun t1 t2 => gy_flo H (by omega) la sm po (fun t' => ⟨rfl, gp_rel H _ _ _ _ _ _ _ _⟩))
    · exact br_f a (br_f b (br_f a (br_f b ⟨rfl, gp_rel H _ _ _ _ _ _ _ _⟩)))
