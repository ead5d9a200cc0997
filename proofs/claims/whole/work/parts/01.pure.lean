def gp_it {σ : Type} (f : Nat → σ → σ) : Nat → σ → σ
  | 0, s => s
  | n + 1, s => f n (gp_it f n s)
noncomputable def gp_cn (p : Nat → Prop) : Nat → Nat
  | 0 => 0
  | n + 1 => gp_cn p n + @ite Nat (p n) (Classical.propDecidable (p n)) 1 0
theorem gp_cn_0 (p : Nat → Prop) : gp_cn p 0 = 0 := rfl
theorem gp_cn_t {p : Nat → Prop} {n : Nat} (h : p n) : gp_cn p (n + 1) = gp_cn p n + 1 := by
  show gp_cn p n + @ite Nat (p n) (Classical.propDecidable (p n)) 1 0 = _
  rw [if_pos h]
theorem gp_cn_f {p : Nat → Prop} {n : Nat} (h : ¬ p n) : gp_cn p (n + 1) = gp_cn p n := by
  show gp_cn p n + @ite Nat (p n) (Classical.propDecidable (p n)) 1 0 = _
  rw [if_neg h, Nat.add_zero]
theorem gp_cn_congr {p q : Nat → Prop} : ∀ n, (∀ i, i < n → (p i ↔ q i)) → gp_cn p n = gp_cn q n := by
  intro n
  induction n with
  | zero => intro _; rfl
  | succ n ih =>
    intro h
    have e := ih (fun i hi => h i (by omega))
    by_cases hp : p n
    · rw [gp_cn_t hp, gp_cn_t ((h n (by omega)).mp hp), e]
    · rw [gp_cn_f hp, gp_cn_f (fun z => hp ((h n (by omega)).mpr z)), e]
theorem gp_cn_le (p : Nat → Prop) : ∀ n, gp_cn p n ≤ n := by
  intro n
  induction n with
  | zero => exact Nat.le_refl 0
  | succ n ih =>
    by_cases hp : p n
    · rw [gp_cn_t hp]; omega
    · rw [gp_cn_f hp]; omega
theorem gp_cn_mono {p q : Nat → Prop} : ∀ n, (∀ i, i < n → p i → q i) → gp_cn p n ≤ gp_cn q n := by
  intro n
  induction n with
  | zero => intro _; exact Nat.le_refl 0
  | succ n ih =>
    intro h
    have e := ih (fun i hi => h i (by omega))
    by_cases hp : p n
    · rw [gp_cn_t hp, gp_cn_t (h n (by omega) hp)]; omega
    · rw [gp_cn_f hp]
      by_cases hq : q n
      · rw [gp_cn_t hq]; omega
      · rw [gp_cn_f hq]; omega
theorem gp_cn_one {p q : Nat → Prop} {z : Nat} (hz : p z) : ∀ n, z < n → (∀ i, i < n → (q i ↔ (p i ∧ i ≠ z))) → gp_cn p n = gp_cn q n + 1 := by
  intro n
  induction n with
  | zero => intro h _; omega
  | succ n ih =>
    intro h hq
    by_cases e : z = n
    · subst e
      have hn : ¬ q z := fun c => ((hq z (by omega)).mp c).2 rfl
      rw [gp_cn_t hz, gp_cn_f hn]
      have : gp_cn p z = gp_cn q z := gp_cn_congr z (fun i hi => ⟨fun c => (hq i (by omega)).mpr ⟨c, by omega⟩, fun c => ((hq i (by omega)).mp c).1⟩)
      omega
    · have e2 := ih (by omega) (fun i hi => hq i (by omega))
      by_cases hp : p n
      · rw [gp_cn_t hp, gp_cn_t ((hq n (by omega)).mpr ⟨hp, fun c => e c.symm⟩)]; omega
      · rw [gp_cn_f hp, gp_cn_f (fun c => hp ((hq n (by omega)).mp c).1)]; omega
theorem gp_cn_lt {p q : Nat → Prop} {z n : Nat} (hzn : z < n) (hq : q z) (hp : ¬ p z) (h : ∀ i, i < n → p i → q i) : gp_cn p n + 1 ≤ gp_cn q n := by
  have e := gp_cn_one (p := q) (q := fun i => q i ∧ i ≠ z) hq n hzn (fun i _ => Iff.rfl)
  have m : gp_cn p n ≤ gp_cn (fun i => q i ∧ i ≠ z) n := gp_cn_mono n (fun i hi c => ⟨h i hi c, fun ez => hp (ez ▸ c)⟩)
  omega
theorem gp_cn_pos {p : Nat → Prop} {z n : Nat} (hzn : z < n) (hp : p z) : 1 ≤ gp_cn p n := by
  have e := gp_cn_one (p := p) (q := fun i => p i ∧ i ≠ z) hp n hzn (fun i _ => Iff.rfl)
  omega
theorem gp_cn_all {p : Nat → Prop} : ∀ n, (∀ i, i < n → p i) → gp_cn p n = n := by
  intro n
  induction n with
  | zero => intro _; rfl
  | succ n ih =>
    intro h
    rw [gp_cn_t (h n (by omega)), ih (fun i hi => h i (by omega))]
theorem gp_first (P : Nat → Nat) (a : Nat) : ∀ n, P n = a → ∃ x, x ≤ n ∧ P x = a ∧ ∀ q, q < x → P q ≠ a := by
  intro n
  induction n using Nat.strongRecOn with
  | _ n ih =>
    intro h
    by_cases c : ∃ m, m < n ∧ P m = a
    · obtain ⟨m, hm, em⟩ := c
      obtain ⟨x, hx, ex, hl⟩ := ih m hm em
      exact ⟨x, by omega, ex, hl⟩
    · exact ⟨n, Nat.le_refl n, h, fun q hq e => c ⟨q, hq, e⟩⟩

def gp_fs (P : Nat → Nat) (p : Nat) : Prop := ∀ q, q < p → P q ≠ P p
def gp_jn (P : Nat → Nat) (a b : Nat) : Nat → Nat := fun p => if P p = b then a else P p
theorem gp_jn_eq {P : Nat → Nat} {a b p q : Nat} : gp_jn P a b p = gp_jn P a b q ↔ (P p = P q ∨ ((P p = a ∨ P p = b) ∧ (P q = a ∨ P q = b))) := by
  unfold gp_jn
  by_cases h1 : P p = b <;> by_cases h2 : P q = b <;> simp [h1, h2] <;> omega
theorem gp_jn_cnt {P : Nat → Nat} {x0 y0 a b N : Nat} (ea : P x0 = a) (eb : P y0 = b) (hx : x0 < N) (hy : y0 < N) (hne : a ≠ b) : gp_cn (gp_fs P) N = gp_cn (gp_fs (gp_jn P a b)) N + 1 := by
  obtain ⟨x, hxl, ex, lx⟩ := gp_first P a x0 ea
  obtain ⟨y, hyl, ey, ly⟩ := gp_first P b y0 eb
  have hxy : x ≠ y := fun c => hne (by rw [← ex, ← ey, c])
  have key : ∀ z, (z = x ∨ z = y) → (x ≤ z ∧ y ≤ z) → gp_cn (gp_fs P) N = gp_cn (gp_fs (gp_jn P a b)) N + 1 := by
    intro z hz hm
    have hzN : z < N := by rcases hz with h | h <;> omega
    have hf : gp_fs P z := by
      intro q hq
      rcases hz with h | h
      · rw [h, ex]; exact lx q (by omega)
      · rw [h, ey]; exact ly q (by omega)
    have hPz : P z = a ∨ P z = b := by
      rcases hz with h | h
      · left; rw [h, ex]
      · right; rw [h, ey]
    refine gp_cn_one hf N hzN (fun i _ => ⟨fun h => ⟨fun q hq c => h q hq (gp_jn_eq.mpr (Or.inl c)), fun c => ?_⟩, fun h q hq c => ?_⟩)
    · subst c
      rcases hz with hz | hz
      · exact h y (by omega) (gp_jn_eq.mpr (Or.inr ⟨Or.inr ey, hPz⟩))
      · exact h x (by omega) (gp_jn_eq.mpr (Or.inr ⟨Or.inl ex, hPz⟩))
    · rcases gp_jn_eq.mp c with c | ⟨c1, c2⟩
      · exact h.1 q hq c
      · have hi : x ≤ i ∧ i = x ∨ y ≤ i ∧ i = y := by
          rcases c2 with c2 | c2
          · left
            by_cases l : i < x
            · exact absurd c2 (lx i l)
            · refine ⟨by omega, ?_⟩
              by_cases g : x < i
              · exact absurd (ex.trans c2.symm) (h.1 x g)
              · omega
          · right
            by_cases l : i < y
            · exact absurd c2 (ly i l)
            · refine ⟨by omega, ?_⟩
              by_cases g : y < i
              · exact absurd (ey.trans c2.symm) (h.1 y g)
              · omega
        have hiz : i < z := by
          have := h.2
          rcases hi with hi | hi <;> omega
        have hq1 : q < x := by rcases hi with hi | hi <;> rcases hz with hz | hz <;> omega
        have hq2 : q < y := by rcases hi with hi | hi <;> rcases hz with hz | hz <;> omega
        rcases c1 with c1 | c1
        · exact lx q hq1 c1
        · exact ly q hq2 c1
  by_cases l : x ≤ y
  · exact key y (Or.inr rfl) ⟨l, Nat.le_refl y⟩
  · exact key x (Or.inl rfl) ⟨Nat.le_refl x, by omega⟩
