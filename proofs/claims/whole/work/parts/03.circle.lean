def gp_lr (fr to : Nat → Nat) (e : Nat) (L : Nat → Nat) : Nat → Nat :=
  if L (fr e) ≤ L (to e) then (fun p => if p = fr e then L (to e) + 1 else L p) else L
theorem gp_lr_t {fr to : Nat → Nat} {e : Nat} {L : Nat → Nat} (h : L (fr e) ≤ L (to e)) (p : Nat) : gp_lr fr to e L p = if p = fr e then L (to e) + 1 else L p := by
  unfold gp_lr; rw [if_pos h]
theorem gp_lr_f {fr to : Nat → Nat} {e : Nat} {L : Nat → Nat} (h : ¬ L (fr e) ≤ L (to e)) : gp_lr fr to e L = L := by
  unfold gp_lr; rw [if_neg h]
theorem gp_lr_ge (fr to : Nat → Nat) (e : Nat) (L : Nat → Nat) (p : Nat) : L p ≤ gp_lr fr to e L p := by
  by_cases h : L (fr e) ≤ L (to e)
  · rw [gp_lr_t h]
    by_cases c : p = fr e
    · rw [if_pos c, c]; omega
    · rw [if_neg c]; exact Nat.le_refl _
  · rw [gp_lr_f h]; exact Nat.le_refl _
theorem gp_lr_edge (fr to : Nat → Nat) (e : Nat) (L : Nat → Nat) : L (to e) + 1 ≤ gp_lr fr to e L (fr e) := by
  by_cases h : L (fr e) ≤ L (to e)
  · rw [gp_lr_t h, if_pos rfl]; exact Nat.le_refl _
  · rw [gp_lr_f h]; omega
theorem gp_lr_bd {fr to : Nat → Nat} {e B : Nat} {L : Nat → Nat} (h : ∀ p, L p ≤ B) (p : Nat) : gp_lr fr to e L p ≤ B + 1 := by
  by_cases c : L (fr e) ≤ L (to e)
  · rw [gp_lr_t c]
    by_cases d : p = fr e
    · rw [if_pos d]; have := h (to e); omega
    · rw [if_neg d]; have := h p; omega
  · rw [gp_lr_f c]; have := h p; omega
def gp_lk (fr to : Nat → Nat) (k : Nat) (L : Nat → Nat) : Nat → Nat := gp_it (gp_lr fr to) k L
theorem gp_lk_s (fr to : Nat → Nat) (k : Nat) (L : Nat → Nat) : gp_lk fr to (k + 1) L = gp_lr fr to k (gp_lk fr to k L) := rfl
def gp_lt (fr to : Nat → Nat) (M t : Nat) : Nat → Nat := gp_it (fun _ L => gp_lk fr to M L) t (fun _ => 0)
theorem gp_lt_s (fr to : Nat → Nat) (M t : Nat) : gp_lt fr to M (t + 1) = gp_lk fr to M (gp_lt fr to M t) := rfl
theorem gp_lk_ge (fr to : Nat → Nat) (L : Nat → Nat) : ∀ k p, L p ≤ gp_lk fr to k L p := by
  intro k
  induction k with
  | zero => intro p; exact Nat.le_refl _
  | succ k ih => intro p; rw [gp_lk_s]; exact Nat.le_trans (ih p) (gp_lr_ge _ _ _ _ _)
theorem gp_lk_edge {fr to : Nat → Nat} {L : Nat → Nat} {e : Nat} : ∀ k, e < k → L (to e) + 1 ≤ gp_lk fr to k L (fr e) := by
  intro k
  induction k with
  | zero => intro h; omega
  | succ k ih =>
    intro h
    rw [gp_lk_s]
    by_cases c : e < k
    · exact Nat.le_trans (ih c) (gp_lr_ge _ _ _ _ _)
    · have : e = k := by omega
      subst this
      have a := gp_lr_edge fr to e (gp_lk fr to e L)
      have b := gp_lk_ge fr to L e (to e)
      omega
theorem gp_lk_bd {fr to : Nat → Nat} {B : Nat} {L : Nat → Nat} (h : ∀ p, L p ≤ B) : ∀ k p, gp_lk fr to k L p ≤ B + k := by
  intro k
  induction k with
  | zero => exact h
  | succ k ih => intro p; rw [gp_lk_s]; exact gp_lr_bd ih p
theorem gp_lt_bd (fr to : Nat → Nat) (M : Nat) : ∀ t p, gp_lt fr to M t p ≤ t * M := by
  intro t
  induction t with
  | zero => intro p; exact Nat.zero_le _
  | succ t ih =>
    intro p
    rw [gp_lt_s, Nat.succ_mul]
    exact gp_lk_bd ih M p
theorem gp_lk_top {fr to : Nat → Nat} {M : Nat} {ρ : Nat → Nat} (hr : ∀ e, e < M → ρ (to e) + 1 ≤ ρ (fr e)) {L : Nat → Nat} (hL : ∀ p, L p ≤ ρ p) : ∀ k, k ≤ M → ∀ p, gp_lk fr to k L p ≤ ρ p := by
  intro k
  induction k with
  | zero => intro _ p; exact hL p
  | succ k ih =>
    intro hk p
    have IH := ih (by omega)
    rw [gp_lk_s]
    by_cases c : gp_lk fr to k L (fr k) ≤ gp_lk fr to k L (to k)
    · rw [gp_lr_t c]
      by_cases d : p = fr k
      · rw [if_pos d, d]
        have := IH (to k)
        have := hr k (by omega)
        omega
      · rw [if_neg d]; exact IH p
    · rw [gp_lr_f c]; exact IH p
theorem gp_lt_top {fr to : Nat → Nat} {M : Nat} {ρ : Nat → Nat} (hr : ∀ e, e < M → ρ (to e) + 1 ≤ ρ (fr e)) : ∀ t p, gp_lt fr to M t p ≤ ρ p := by
  intro t
  induction t with
  | zero => intro p; exact Nat.zero_le _
  | succ t ih => intro p; rw [gp_lt_s]; exact gp_lk_top hr ih M (Nat.le_refl M) p
theorem gp_lt_trap {fr to : Nat → Nat} {M : Nat} {C : Nat → Prop} (hC : ∀ p, C p → ∃ e, e < M ∧ fr e = p ∧ C (to e)) : ∀ t p, C p → t ≤ gp_lt fr to M t p := by
  intro t
  induction t with
  | zero => intro p _; exact Nat.zero_le _
  | succ t ih =>
    intro p hp
    obtain ⟨e, he, ef, ht⟩ := hC p hp
    rw [gp_lt_s, ← ef]
    have a := gp_lk_edge (fr := fr) (to := to) (L := gp_lt fr to M t) M he
    have b := ih (to e) ht
    omega

def gp_es (fr to : Nat → Nat) (e : Nat) (r : Nat → Nat) : Nat → Nat := fun p => if p = fr e then r p ||| 2 ^ (to e) else r p
def gp_ek (fr to : Nat → Nat) (k : Nat) : Nat → Nat := gp_it (gp_es fr to) k (fun _ => 0)
theorem gp_ek_s (fr to : Nat → Nat) (k : Nat) : gp_ek fr to (k + 1) = gp_es fr to k (gp_ek fr to k) := rfl
theorem gp_ek_bit (fr to : Nat → Nat) : ∀ k u v, (gp_ek fr to k u).testBit v = true ↔ ∃ e, e < k ∧ fr e = u ∧ to e = v := by
  intro k
  induction k with
  | zero =>
    intro u v
    show (0 : Nat).testBit v = true ↔ _
    rw [Nat.zero_testBit]
    constructor
    · intro h; exact absurd h (by decide)
    · rintro ⟨e, he, _⟩; omega
  | succ k ih =>
    intro u v
    rw [gp_ek_s]
    show (if u = fr k then gp_ek fr to k u ||| 2 ^ (to k) else gp_ek fr to k u).testBit v = true ↔ _
    by_cases c : u = fr k
    · rw [if_pos c, Nat.testBit_or, Bool.or_eq_true, ih u v, Nat.testBit_two_pow]
      constructor
      · rintro (⟨e, he, h1, h2⟩ | h)
        · exact ⟨e, by omega, h1, h2⟩
        · exact ⟨k, by omega, c.symm, of_decide_eq_true h⟩
      · rintro ⟨e, he, h1, h2⟩
        by_cases d : e < k
        · exact Or.inl ⟨e, d, h1, h2⟩
        · have : e = k := by omega
          subst this
          exact Or.inr (decide_eq_true h2)
    · rw [if_neg c, ih u v]
      constructor
      · rintro ⟨e, he, h1, h2⟩
        exact ⟨e, by omega, h1, h2⟩
      · rintro ⟨e, he, h1, h2⟩
        by_cases d : e < k
        · exact ⟨e, d, h1, h2⟩
        · have : e = k := by omega
          subst this
          exact absurd h1.symm c
theorem gp_ek_lt {fr to : Nat → Nat} (ht : ∀ e, to e < 6) : ∀ k p, gp_ek fr to k p < 2 ^ 6 := by
  intro k
  induction k with
  | zero => intro p; exact (by decide : (0 : Nat) < 2 ^ 6)
  | succ k ih =>
    intro p
    rw [gp_ek_s]
    show (if p = fr k then gp_ek fr to k p ||| 2 ^ (to k) else gp_ek fr to k p) < 2 ^ 6
    by_cases c : p = fr k
    · rw [if_pos c]
      exact Nat.or_lt_two_pow (ih p) (Nat.pow_lt_pow_right (by omega) (ht k))
    · rw [if_neg c]; exact ih p
def gp_wi (k : Nat) (r : Nat → Nat) (p : Nat) : Nat → Nat := fun q => if q < p ∧ (r q).testBit k = true then r q ||| r k else r q
def gp_ws (N k : Nat) (r : Nat → Nat) : Nat → Nat := gp_wi k r N
def gp_wk (fr to : Nat → Nat) (N M k : Nat) : Nat → Nat := gp_it (gp_ws N) k (gp_ek fr to M)
theorem gp_wk_s (fr to : Nat → Nat) (N M k : Nat) : gp_wk fr to N M (k + 1) = gp_ws N k (gp_wk fr to N M k) := rfl
theorem gp_wi_lt {k : Nat} {r : Nat → Nat} (h : ∀ p, r p < 2 ^ 6) (p q : Nat) : gp_wi k r p q < 2 ^ 6 := by
  show (if q < p ∧ (r q).testBit k = true then r q ||| r k else r q) < 2 ^ 6
  by_cases c : q < p ∧ (r q).testBit k = true
  · rw [if_pos c]; exact Nat.or_lt_two_pow (h q) (h k)
  · rw [if_neg c]; exact h q
theorem gp_wk_lt {fr to : Nat → Nat} {N M : Nat} (ht : ∀ e, to e < 6) : ∀ k p, gp_wk fr to N M k p < 2 ^ 6 := by
  intro k
  induction k with
  | zero => exact gp_ek_lt ht M
  | succ k ih => intro p; rw [gp_wk_s]; exact gp_wi_lt ih N p
theorem gp_ws_bit {N k : Nat} {r : Nat → Nat} {u : Nat} (hu : u < N) (v : Nat) : (gp_ws N k r u).testBit v = true ↔ ((r u).testBit v = true ∨ ((r u).testBit k = true ∧ (r k).testBit v = true)) := by
  show (if u < N ∧ (r u).testBit k = true then r u ||| r k else r u).testBit v = true ↔ _
  by_cases c : (r u).testBit k = true
  · rw [if_pos ⟨hu, c⟩, Nat.testBit_or, Bool.or_eq_true]
    constructor
    · rintro (h | h)
      · exact Or.inl h
      · exact Or.inr ⟨c, h⟩
    · rintro (h | h)
      · exact Or.inl h
      · exact Or.inr h.2
  · rw [if_neg (fun z => c z.2)]
    constructor
    · intro h; exact Or.inl h
    · rintro (h | h)
      · exact h
      · exact absurd h.1 c
def gp_R (fr to : Nat → Nat) (N M k u v : Nat) : Prop := u < N ∧ v < N ∧ (gp_wk fr to N M k u).testBit v = true
theorem gp_R_s {fr to : Nat → Nat} {N M k : Nat} (hk : k < N) (u v : Nat) : gp_R fr to N M (k + 1) u v ↔ (gp_R fr to N M k u v ∨ (gp_R fr to N M k u k ∧ gp_R fr to N M k k v)) := by
  unfold gp_R
  rw [gp_wk_s]
  constructor
  · rintro ⟨hu, hv, h⟩
    rcases (gp_ws_bit hu v).mp h with h | h
    · exact Or.inl ⟨hu, hv, h⟩
    · exact Or.inr ⟨⟨hu, hk, h.1⟩, ⟨hk, hv, h.2⟩⟩
  · rintro (⟨hu, hv, h⟩ | ⟨⟨hu, _, h1⟩, ⟨_, hv, h2⟩⟩)
    · exact ⟨hu, hv, (gp_ws_bit hu v).mpr (Or.inl h)⟩
    · exact ⟨hu, hv, (gp_ws_bit hu v).mpr (Or.inr ⟨h1, h2⟩)⟩
theorem gp_R_0 {fr to : Nat → Nat} {N M : Nat} (hN : ∀ e, fr e < N ∧ to e < N) (u v : Nat) : gp_R fr to N M 0 u v ↔ ∃ e, e < M ∧ fr e = u ∧ to e = v := by
  unfold gp_R
  constructor
  · rintro ⟨_, _, h⟩
    exact (gp_ek_bit fr to M u v).mp h
  · rintro ⟨e, he, h1, h2⟩
    exact ⟨h1 ▸ (hN e).1, h2 ▸ (hN e).2, (gp_ek_bit fr to M u v).mpr ⟨e, he, h1, h2⟩⟩
theorem gp_R_up {fr to : Nat → Nat} {N M : Nat} (hN : ∀ e, fr e < N ∧ to e < N) : ∀ k, k ≤ N → ∀ e, e < M → gp_R fr to N M k (fr e) (to e) := by
  intro k
  induction k with
  | zero => intro _ e he; exact (gp_R_0 hN _ _).mpr ⟨e, he, rfl, rfl⟩
  | succ k ih => intro hk e he; exact (gp_R_s (by omega) _ _).mpr (Or.inl (ih (by omega) e he))
theorem gp_R_tr {fr to : Nat → Nat} {N M : Nat} : ∀ k, k ≤ N → ∀ u j v, j < k → gp_R fr to N M k u j → gp_R fr to N M k j v → gp_R fr to N M k u v := by
  intro k
  induction k with
  | zero => intro _ u j v h; omega
  | succ k ih =>
    intro hk u j v hj h1 h2
    have IH := ih (by omega)
    have hkN : k < N := by omega
    rw [gp_R_s hkN] at h1 h2 ⊢
    by_cases c : j < k
    · rcases h1 with h1 | ⟨h1, h1'⟩
      · rcases h2 with h2 | ⟨h2, h2'⟩
        · exact Or.inl (IH u j v c h1 h2)
        · exact Or.inr ⟨IH u j k c h1 h2, h2'⟩
      · rcases h2 with h2 | ⟨h2, h2'⟩
        · exact Or.inr ⟨h1, IH k j v c h1' h2⟩
        · exact Or.inr ⟨h1, h2'⟩
    · have e : j = k := by omega
      subst e
      have a : gp_R fr to N M j u j := by
        rcases h1 with h1 | h1
        · exact h1
        · exact h1.1
      have b : gp_R fr to N M j j v := by
        rcases h2 with h2 | h2
        · exact h2
        · exact h2.2
      exact Or.inr ⟨a, b⟩
theorem gp_R_go {fr to : Nat → Nat} {N M : Nat} (hN : ∀ e, fr e < N ∧ to e < N) : ∀ k, k ≤ N → ∀ u v, gp_R fr to N M k u v → ∃ e, e < M ∧ fr e = u ∧ (to e = v ∨ gp_R fr to N M k (to e) v) := by
  intro k
  induction k with
  | zero =>
    intro _ u v h
    obtain ⟨e, he, h1, h2⟩ := (gp_R_0 hN u v).mp h
    exact ⟨e, he, h1, Or.inl h2⟩
  | succ k ih =>
    intro hk u v h
    have IH := ih (by omega)
    have hkN : k < N := by omega
    rcases (gp_R_s hkN u v).mp h with h | ⟨h1, h2⟩
    · obtain ⟨e, he, e1, e2⟩ := IH u v h
      refine ⟨e, he, e1, ?_⟩
      rcases e2 with e2 | e2
      · exact Or.inl e2
      · exact Or.inr ((gp_R_s hkN _ _).mpr (Or.inl e2))
    · obtain ⟨e, he, e1, e2⟩ := IH u k h1
      refine ⟨e, he, e1, Or.inr ((gp_R_s hkN _ _).mpr ?_)⟩
      rcases e2 with e2 | e2
      · rw [e2]; exact Or.inl h2
      · exact Or.inr ⟨e2, h2⟩
theorem gp_circle {fr to : Nat → Nat} {N M : Nat} (hN : ∀ e, fr e < N ∧ to e < N) : (∃ p, p < N ∧ (gp_wk fr to N M N p).testBit p = true) ↔ ∃ u, u < N ∧ N ≤ gp_lt fr to M (N + 1) u := by
  constructor
  · rintro ⟨p, hp, h⟩
    have hpp : gp_R fr to N M N p p := ⟨hp, hp, h⟩
    have tr := fun (u j v : Nat) (hj : j < N) => gp_R_tr (fr := fr) (to := to) (N := N) (M := M) N (Nat.le_refl N) u j v hj
    have trap := gp_lt_trap (fr := fr) (to := to) (M := M) (C := fun v => gp_R fr to N M N p v ∧ gp_R fr to N M N v p) (fun v hv => by
      obtain ⟨e, he, e1, e2⟩ := gp_R_go hN N (Nat.le_refl N) v p hv.2
      refine ⟨e, he, e1, ?_⟩
      have ed := gp_R_up (M := M) hN N (Nat.le_refl N) e he
      rcases e2 with e2 | e2
      · rw [e2]; exact ⟨hpp, hpp⟩
      · refine ⟨tr p v (to e) hv.2.1 hv.1 ?_, e2⟩
        rw [← e1]; exact ed) (N + 1) p ⟨hpp, hpp⟩
    exact ⟨p, hp, by omega⟩
  · rintro ⟨u, hu, h⟩
    refine Classical.byContradiction (fun n => ?_)
    have ac : ∀ p, ¬ gp_R fr to N M N p p := fun p z => n ⟨p, z.1, z.2.2⟩
    have hr : ∀ e, e < M → gp_cn (gp_R fr to N M N (to e)) N + 1 ≤ gp_cn (gp_R fr to N M N (fr e)) N := by
      intro e he
      have ed := gp_R_up (M := M) hN N (Nat.le_refl N) e he
      exact gp_cn_lt (z := to e) (hN e).2 ed (ac (to e)) (fun i _ hi => gp_R_tr N (Nat.le_refl N) (fr e) (to e) i (hN e).2 ed hi)
    have top := gp_lt_top (fr := fr) (to := to) (ρ := fun v => gp_cn (gp_R fr to N M N v) N) hr (N + 1) u
    have lt : gp_cn (gp_R fr to N M N u) N + 1 ≤ N := by
      have a := gp_cn_lt (p := gp_R fr to N M N u) (q := fun _ => True) (z := u) hu trivial (ac u) (fun _ _ _ => trivial)
      have b := gp_cn_le (fun _ => True) N
      omega
    have : gp_lt fr to M (N + 1) u ≤ gp_cn (gp_R fr to N M N u) N := top
    omega
