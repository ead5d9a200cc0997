def gp_xs (f s : Nat → Nat) (A : Nat → Bool) (e : Nat) (t : (Nat → Nat) × Nat) : (Nat → Nat) × Nat :=
  if A e = true ∧ t.1 (f e) ≠ t.1 (s e) then (gp_jn t.1 (t.1 (f e)) (t.1 (s e)), t.2 + 1) else t
def gp_xt (f s : Nat → Nat) (A : Nat → Bool) (k : Nat) : (Nat → Nat) × Nat := gp_it (gp_xs f s A) k (fun p => p, 0)
def gp_rk (f s : Nat → Nat) (A : Nat → Bool) (M : Nat) : Nat := (gp_xt f s A M).2
theorem gp_xt_s (f s : Nat → Nat) (A : Nat → Bool) (k : Nat) : gp_xt f s A (k + 1) = gp_xs f s A k (gp_xt f s A k) := rfl
theorem gp_xs_t {f s : Nat → Nat} {A : Nat → Bool} {e : Nat} {t : (Nat → Nat) × Nat} (h : A e = true ∧ t.1 (f e) ≠ t.1 (s e)) : gp_xs f s A e t = (gp_jn t.1 (t.1 (f e)) (t.1 (s e)), t.2 + 1) := if_pos h
theorem gp_xs_f {f s : Nat → Nat} {A : Nat → Bool} {e : Nat} {t : (Nat → Nat) × Nat} (h : ¬ (A e = true ∧ t.1 (f e) ≠ t.1 (s e))) : gp_xs f s A e t = t := if_neg h
theorem gp_xt_ker {f s : Nat → Nat} {A : Nat → Bool} {k p q : Nat} (h : (gp_xt f s A k).1 p = (gp_xt f s A k).1 q) : (gp_xt f s A (k + 1)).1 p = (gp_xt f s A (k + 1)).1 q := by
  rw [gp_xt_s]
  by_cases c : A k = true ∧ (gp_xt f s A k).1 (f k) ≠ (gp_xt f s A k).1 (s k)
  · rw [gp_xs_t c]; exact gp_jn_eq.mpr (Or.inl h)
  · rw [gp_xs_f c]; exact h
theorem gp_xt_edge {f s : Nat → Nat} {A : Nat → Bool} : ∀ k e, e < k → A e = true → (gp_xt f s A k).1 (f e) = (gp_xt f s A k).1 (s e) := by
  intro k
  induction k with
  | zero => intro e h; omega
  | succ k ih =>
    intro e h a
    by_cases c : e < k
    · exact gp_xt_ker (ih e c a)
    · have : e = k := by omega
      subst this
      rw [gp_xt_s]
      by_cases c : A e = true ∧ (gp_xt f s A e).1 (f e) ≠ (gp_xt f s A e).1 (s e)
      · rw [gp_xs_t c]; exact gp_jn_eq.mpr (Or.inr ⟨Or.inl rfl, Or.inr rfl⟩)
      · rw [gp_xs_f c]
        by_cases d : (gp_xt f s A e).1 (f e) = (gp_xt f s A e).1 (s e)
        · exact d
        · exact absurd ⟨a, d⟩ c
theorem gp_xt_min {f s : Nat → Nat} {A : Nat → Bool} {L : Nat → Nat} : ∀ k, (∀ e, e < k → A e = true → L (f e) = L (s e)) → ∀ p q, (gp_xt f s A k).1 p = (gp_xt f s A k).1 q → L p = L q := by
  intro k
  induction k with
  | zero => intro _ p q h; exact congrArg L h
  | succ k ih =>
    intro hL p q h
    have IH := ih (fun e he => hL e (by omega))
    rw [gp_xt_s] at h
    by_cases c : A k = true ∧ (gp_xt f s A k).1 (f k) ≠ (gp_xt f s A k).1 (s k)
    · rw [gp_xs_t c] at h
      have hk := hL k (by omega) c.1
      rcases gp_jn_eq.mp h with h | ⟨h1, h2⟩
      · exact IH p q h
      · have e1 : L p = L (f k) := by
          rcases h1 with h1 | h1
          · exact IH _ _ h1
          · rw [hk]; exact IH _ _ h1
        have e2 : L q = L (f k) := by
          rcases h2 with h2 | h2
          · exact IH _ _ h2
          · rw [hk]; exact IH _ _ h2
        rw [e1, e2]
    · rw [gp_xs_f c] at h
      exact IH p q h
theorem gp_xt_cnt {f s : Nat → Nat} {A : Nat → Bool} {N : Nat} (hN : ∀ e, f e < N ∧ s e < N) : ∀ k, gp_cn (gp_fs (gp_xt f s A k).1) N + (gp_xt f s A k).2 = N := by
  intro k
  induction k with
  | zero =>
    have e : gp_cn (gp_fs (gp_xt f s A 0).1) N = N := gp_cn_all N (fun i _ q hq => by
      show q ≠ i
      omega)
    have e2 : (gp_xt f s A 0).2 = 0 := rfl
    omega
  | succ k ih =>
    rw [gp_xt_s]
    by_cases c : A k = true ∧ (gp_xt f s A k).1 (f k) ≠ (gp_xt f s A k).1 (s k)
    · rw [gp_xs_t c]
      have := gp_jn_cnt (P := (gp_xt f s A k).1) rfl rfl (hN k).1 (hN k).2 c.2
      show gp_cn (gp_fs (gp_jn (gp_xt f s A k).1 ((gp_xt f s A k).1 (f k)) ((gp_xt f s A k).1 (s k)))) N + ((gp_xt f s A k).2 + 1) = N
      omega
    · rw [gp_xs_f c]; exact ih
theorem gp_xt_lt {f s : Nat → Nat} {A : Nat → Bool} {N : Nat} (hN : ∀ e, f e < N ∧ s e < N) : ∀ k p, p < N → (gp_xt f s A k).1 p < N := by
  intro k
  induction k with
  | zero => intro p h; exact h
  | succ k ih =>
    intro p h
    rw [gp_xt_s]
    by_cases c : A k = true ∧ (gp_xt f s A k).1 (f k) ≠ (gp_xt f s A k).1 (s k)
    · rw [gp_xs_t c]
      show (if (gp_xt f s A k).1 p = (gp_xt f s A k).1 (s k) then (gp_xt f s A k).1 (f k) else (gp_xt f s A k).1 p) < N
      by_cases d : (gp_xt f s A k).1 p = (gp_xt f s A k).1 (s k)
      · rw [if_pos d]; exact ih _ (hN k).1
      · rw [if_neg d]; exact ih _ h
    · rw [gp_xs_f c]; exact ih p h
theorem gp_xt_le (f s : Nat → Nat) (A : Nat → Bool) : ∀ k, (gp_xt f s A k).2 ≤ k := by
  intro k
  induction k with
  | zero => exact Nat.le_refl 0
  | succ k ih =>
    rw [gp_xt_s]
    by_cases c : A k = true ∧ (gp_xt f s A k).1 (f k) ≠ (gp_xt f s A k).1 (s k)
    · rw [gp_xs_t c]
      show (gp_xt f s A k).2 + 1 ≤ k + 1
      omega
    · rw [gp_xs_f c]; omega

def gp_mi (a b : Nat) : Nat := if a < b then a else b
theorem gp_mi_le {a b : Nat} : gp_mi a b ≤ a ∧ gp_mi a b ≤ b ∧ (gp_mi a b = a ∨ gp_mi a b = b) := by
  unfold gp_mi
  by_cases h : a < b
  · rw [if_pos h]; omega
  · rw [if_neg h]; omega
def gp_ys (f s : Nat → Nat) (A : Nat → Bool) (e : Nat) (L : Nat → Nat) : Nat → Nat :=
  if A e = true then (fun p => if p = s e then gp_mi (L (f e)) (L (s e)) else if p = f e then gp_mi (L (f e)) (L (s e)) else L p) else L
theorem gp_ys_t {f s : Nat → Nat} {A : Nat → Bool} {e : Nat} {L : Nat → Nat} (h : A e = true) (p : Nat) : gp_ys f s A e L p = if p = s e then gp_mi (L (f e)) (L (s e)) else if p = f e then gp_mi (L (f e)) (L (s e)) else L p := by
  unfold gp_ys; rw [if_pos h]
theorem gp_ys_f {f s : Nat → Nat} {A : Nat → Bool} {e : Nat} {L : Nat → Nat} (h : ¬ A e = true) : gp_ys f s A e L = L := by
  unfold gp_ys; rw [if_neg h]
theorem gp_ys_in {f s : Nat → Nat} {A : Nat → Bool} {e : Nat} {L : Nat → Nat} (h : A e = true) {p : Nat} (hp : p = f e ∨ p = s e) : gp_ys f s A e L p = gp_mi (L (f e)) (L (s e)) := by
  rw [gp_ys_t h]
  by_cases c : p = s e
  · rw [if_pos c]
  · rw [if_neg c]
    by_cases d : p = f e
    · rw [if_pos d]
    · exact absurd hp (by omega)
theorem gp_ys_out {f s : Nat → Nat} {A : Nat → Bool} {e : Nat} {L : Nat → Nat} (h : A e = true) {p : Nat} (hp : ¬ (p = f e ∨ p = s e)) : gp_ys f s A e L p = L p := by
  rw [gp_ys_t h, if_neg (fun c => hp (Or.inr c)), if_neg (fun c => hp (Or.inl c))]
theorem gp_ys_le (f s : Nat → Nat) (A : Nat → Bool) (e : Nat) (L : Nat → Nat) (p : Nat) : gp_ys f s A e L p ≤ L p := by
  by_cases h : A e = true
  · by_cases hp : p = f e ∨ p = s e
    · rw [gp_ys_in h hp]
      have m := @gp_mi_le (L (f e)) (L (s e))
      rcases hp with hp | hp
      · rw [hp]; exact m.1
      · rw [hp]; exact m.2.1
    · rw [gp_ys_out h hp]; exact Nat.le_refl _
  · rw [gp_ys_f h]; exact Nat.le_refl _
def gp_yr (f s : Nat → Nat) (A : Nat → Bool) (k : Nat) (L : Nat → Nat) : Nat → Nat := gp_it (gp_ys f s A) k L
theorem gp_yr_s (f s : Nat → Nat) (A : Nat → Bool) (k : Nat) (L : Nat → Nat) : gp_yr f s A (k + 1) L = gp_ys f s A k (gp_yr f s A k L) := rfl
theorem gp_yr_le (f s : Nat → Nat) (A : Nat → Bool) (L : Nat → Nat) : ∀ k p, gp_yr f s A k L p ≤ L p := by
  intro k
  induction k with
  | zero => intro p; exact Nat.le_refl _
  | succ k ih =>
    intro p
    rw [gp_yr_s]
    exact Nat.le_trans (gp_ys_le _ _ _ _ _ _) (ih p)
theorem gp_yr_edge {f s : Nat → Nat} {A : Nat → Bool} {L : Nat → Nat} {e : Nat} (a : A e = true) : ∀ k, e < k → ∀ p, (p = f e ∨ p = s e) → gp_yr f s A k L p ≤ gp_mi (L (f e)) (L (s e)) := by
  intro k
  induction k with
  | zero => intro h; omega
  | succ k ih =>
    intro h p hp
    rw [gp_yr_s]
    by_cases c : e < k
    · exact Nat.le_trans (gp_ys_le _ _ _ _ _ _) (ih c p hp)
    · have : e = k := by omega
      subst this
      rw [gp_ys_in a hp]
      have m := @gp_mi_le (gp_yr f s A e L (f e)) (gp_yr f s A e L (s e))
      have l1 := gp_yr_le f s A L e (f e)
      have l2 := gp_yr_le f s A L e (s e)
      have m2 := @gp_mi_le (L (f e)) (L (s e))
      omega
def gp_cl (f s : Nat → Nat) (A : Nat → Bool) (M c : Nat) (L : Nat → Nat) : Prop := ∀ e, e < M → A e = true → (L (f e) ≤ c ↔ L (s e) ≤ c)
theorem gp_cl_s {f s : Nat → Nat} {A : Nat → Bool} {M c : Nat} {L : Nat → Nat} (h : gp_cl f s A M c L) {e : Nat} (he : e < M) (p : Nat) : gp_ys f s A e L p ≤ c ↔ L p ≤ c := by
  by_cases a : A e = true
  · have hh := h e he a
    by_cases hp : p = f e ∨ p = s e
    · rw [gp_ys_in a hp]
      have m := @gp_mi_le (L (f e)) (L (s e))
      rcases hp with hp | hp
      · rw [hp]
        constructor
        · intro g
          rcases m.2.2 with q | q
          · omega
          · exact hh.mpr (by omega)
        · intro g; omega
      · rw [hp]
        constructor
        · intro g
          rcases m.2.2 with q | q
          · exact hh.mp (by omega)
          · omega
        · intro g; omega
    · rw [gp_ys_out a hp]
  · rw [gp_ys_f a]
theorem gp_cl_r {f s : Nat → Nat} {A : Nat → Bool} {M c : Nat} {L : Nat → Nat} (h : gp_cl f s A M c L) : ∀ k, k ≤ M → ∀ p, gp_yr f s A k L p ≤ c ↔ L p ≤ c := by
  intro k
  induction k with
  | zero => intro _ p; exact Iff.rfl
  | succ k ih =>
    intro hk p
    have IH := ih (by omega)
    rw [gp_yr_s]
    have h2 : gp_cl f s A M c (gp_yr f s A k L) := fun e he a => by rw [IH, IH]; exact h e he a
    rw [gp_cl_s h2 (by omega), IH]
def gp_yt (f s : Nat → Nat) (A : Nat → Bool) (M t : Nat) : Nat → Nat := gp_it (fun _ L => gp_yr f s A M L) t (fun p => p)
theorem gp_yt_s (f s : Nat → Nat) (A : Nat → Bool) (M t : Nat) : gp_yt f s A M (t + 1) = gp_yr f s A M (gp_yt f s A M t) := rfl
theorem gp_yt_grow {f s : Nat → Nat} {A : Nat → Bool} {N M : Nat} (hN : ∀ e, f e < N ∧ s e < N) (c : Nat) : ∀ t, gp_cl f s A M c (gp_yt f s A M t) ∨ t + 1 ≤ gp_cn (fun u => gp_yt f s A M t u ≤ c) N := by
  intro t
  induction t with
  | zero =>
    right
    exact gp_cn_pos (z := 0) (Nat.lt_of_le_of_lt (Nat.zero_le _) (hN 0).1) (Nat.zero_le c)
  | succ t ih =>
    rw [gp_yt_s]
    by_cases h : gp_cl f s A M c (gp_yt f s A M t)
    · left
      intro e he a
      rw [gp_cl_r h M (Nat.le_refl M), gp_cl_r h M (Nat.le_refl M)]
      exact h e he a
    · right
      rcases ih with g | g
      · exact absurd g h
      · have ex : ∃ e, e < M ∧ A e = true ∧ ¬ (gp_yt f s A M t (f e) ≤ c ↔ gp_yt f s A M t (s e) ≤ c) := by
          refine Classical.byContradiction (fun n => h (fun e he a => ?_))
          exact Classical.byContradiction (fun m => n ⟨e, he, a, m⟩)
        obtain ⟨e, he, a, hne⟩ := ex
        have m := @gp_mi_le (gp_yt f s A M t (f e)) (gp_yt f s A M t (s e))
        have b1 := gp_yr_edge (f := f) (s := s) (L := gp_yt f s A M t) a M he (f e) (Or.inl rfl)
        have b2 := gp_yr_edge (f := f) (s := s) (L := gp_yt f s A M t) a M he (s e) (Or.inr rfl)
        have mono : ∀ i, i < N → gp_yt f s A M t i ≤ c → gp_yr f s A M (gp_yt f s A M t) i ≤ c := fun i _ hi => Nat.le_trans (gp_yr_le _ _ _ _ _ _) hi
        by_cases d : gp_yt f s A M t (f e) ≤ c
        · have d3 : gp_yr f s A M (gp_yt f s A M t) (s e) ≤ c := by omega
          have d2 : ¬ gp_yt f s A M t (s e) ≤ c := fun z => hne ⟨fun _ => z, fun _ => d⟩
          have := gp_cn_lt (p := fun u => gp_yt f s A M t u ≤ c) (q := fun u => gp_yr f s A M (gp_yt f s A M t) u ≤ c) (hN e).2 d3 d2 mono
          omega
        · have d2 : gp_yt f s A M t (s e) ≤ c := Classical.byContradiction (fun z => hne ⟨fun y => absurd y d, fun y => absurd y z⟩)
          have d3 : gp_yr f s A M (gp_yt f s A M t) (f e) ≤ c := by omega
          have := gp_cn_lt (p := fun u => gp_yt f s A M t u ≤ c) (q := fun u => gp_yr f s A M (gp_yt f s A M t) u ≤ c) (hN e).1 d3 d mono
          omega
theorem gp_yt_edge {f s : Nat → Nat} {A : Nat → Bool} {N M : Nat} (hN : ∀ e, f e < N ∧ s e < N) (h6 : N ≤ 6) {e : Nat} (he : e < M) (a : A e = true) : gp_yt f s A M 6 (f e) = gp_yt f s A M 6 (s e) := by
  have cl : ∀ c, gp_cl f s A M c (gp_yt f s A M 6) := by
    intro c
    rcases gp_yt_grow (A := A) (M := M) hN c 6 with h | h
    · exact h
    · have := gp_cn_le (fun u => gp_yt f s A M 6 u ≤ c) N
      omega
  have h1 := (cl (gp_yt f s A M 6 (f e)) e he a).mp (Nat.le_refl _)
  have h2 := (cl (gp_yt f s A M 6 (s e)) e he a).mpr (Nat.le_refl _)
  omega
theorem gp_yr_cls {f s P : Nat → Nat} {A : Nat → Bool} {M : Nat} (hP : ∀ e, e < M → A e = true → P (f e) = P (s e)) {L : Nat → Nat} (hL : ∀ p, P (L p) = P p) : ∀ k, k ≤ M → ∀ p, P (gp_yr f s A k L p) = P p := by
  intro k
  induction k with
  | zero => intro _ p; exact hL p
  | succ k ih =>
    intro hk p
    have IH := ih (by omega)
    rw [gp_yr_s]
    by_cases a : A k = true
    · by_cases hp : p = f k ∨ p = s k
      · rw [gp_ys_in a hp]
        have hk2 := hP k (by omega) a
        have e1 := IH (f k)
        have e2 := IH (s k)
        have g : P p = P (f k) := by
          rcases hp with hp | hp
          · rw [hp]
          · rw [hp, hk2]
        rcases (@gp_mi_le (gp_yr f s A k L (f k)) (gp_yr f s A k L (s k))).2.2 with m | m
        · rw [m, e1, g]
        · rw [m, e2, g, hk2]
      · rw [gp_ys_out a hp]; exact IH p
    · rw [gp_ys_f a]; exact IH p
theorem gp_yt_cls {f s P : Nat → Nat} {A : Nat → Bool} {M : Nat} (hP : ∀ e, e < M → A e = true → P (f e) = P (s e)) : ∀ t p, P (gp_yt f s A M t p) = P p := by
  intro t
  induction t with
  | zero => intro p; rfl
  | succ t ih => intro p; rw [gp_yt_s]; exact gp_yr_cls hP ih M (Nat.le_refl M) p
theorem gp_yt_le (f s : Nat → Nat) (A : Nat → Bool) (M : Nat) : ∀ t p, gp_yt f s A M t p ≤ p := by
  intro t
  induction t with
  | zero => intro p; exact Nat.le_refl _
  | succ t ih => intro p; rw [gp_yt_s]; exact Nat.le_trans (gp_yr_le _ _ _ _ _ _) (ih p)
noncomputable def gp_pt (f s : Nat → Nat) (A : Nat → Bool) (M N : Nat) : Nat := gp_cn (fun u => gp_yt f s A M 6 u = u) N
theorem gp_rank {f s : Nat → Nat} {A : Nat → Bool} {N M : Nat} (hN : ∀ e, f e < N ∧ s e < N) (h6 : N ≤ 6) : gp_pt f s A M N + gp_rk f s A M = N := by
  have h1 := gp_xt_cnt (A := A) hN M
  have e : gp_pt f s A M N = gp_cn (gp_fs (gp_xt f s A M).1) N := by
    refine gp_cn_congr N (fun p _ => ⟨fun h q hq c => ?_, fun h => ?_⟩)
    · have e1 := gp_xt_min (L := gp_yt f s A M 6) M (fun e he a => gp_yt_edge hN h6 he a) q p c
      have e2 := gp_yt_le f s A M 6 q
      have h' : gp_yt f s A M 6 p = p := h
      omega
    · have e1 := gp_yt_cls (P := (gp_xt f s A M).1) (fun e he a => gp_xt_edge M e he a) 6 p
      have e2 := gp_yt_le f s A M 6 p
      by_cases c : gp_yt f s A M 6 p < p
      · exact absurd e1 (h _ c)
      · show gp_yt f s A M 6 p = p
        omega
  show gp_pt f s A M N + (gp_xt f s A M).2 = N
  rw [e]; exact h1
