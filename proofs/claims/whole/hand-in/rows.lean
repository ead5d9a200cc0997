section
theorem pk_us {f : Nat → Int32} {k : Nat} {x : Int32} : upd f k x k = x := if_pos rfl
theorem pk_un {f : Nat → Int32} {k j : Nat} {x : Int32} (h : j ≠ k) : upd f k x j = f j := if_neg h
theorem pk_uLs {f : Nat → Int64} {k : Nat} {x : Int64} : vp_updL f k x k = x := if_pos rfl
theorem pk_uLn {f : Nat → Int64} {k j : Nat} {x : Int64} (h : j ≠ k) : vp_updL f k x j = f j := if_neg h
theorem pk_sub {a b : Nat} (h : b ≤ a) : nI a - nI b = nI (a - b) := by
  obtain ⟨c, rfl⟩ : ∃ c, a = c + b := ⟨a - b, by omega⟩
  rw [← nI_add, Int32.add_sub_cancel, Nat.add_sub_cancel]
theorem pk_m1 (n : Nat) : nI (n + 1) + (-1) = nI n := by
  rw [← nI_1, Int32.add_assoc, show (1 : Int32) + (-1) = 0 from rfl, Int32.add_zero]
theorem pk_mul (a b : Nat) : nI a * nI b = nI (a * b) := (Int32.ofNat_mul a b).symm
theorem pk_div {a d : Nat} (ha : a < 2 ^ 31) (h0 : 0 < d) (hd : d < 2 ^ 31) : nI a / nI d = nI (a / d) := by
  apply Int32.toInt_inj.mp
  rw [lg_idiv_nonneg (by rw [nI_toInt ha]; omega) (by rw [nI_toInt hd]; omega), nI_toInt ha, nI_toInt hd, nI_toInt (Nat.lt_of_le_of_lt (Nat.div_le_self a d) ha)]
  first | rfl | exact (Int.natCast_ediv _ _).symm
theorem pk_rem {a d : Nat} (ha : a < 2 ^ 31) (h0 : 0 < d) (hd : d < 2 ^ 31) : nI a - nI a / nI d * nI d = nI (a % d) := by
  rw [pk_div ha h0 hd, pk_mul, pk_sub (Nat.div_mul_le_self a d)]
  exact congrArg nI (by have := Nat.div_add_mod' a d; omega)
theorem pk_sub_toInt {a b : Nat} (ha : a < 2 ^ 30) (hb : b < 2 ^ 30) : (nI a - nI b).toInt = (a : Int) - b := by
  rw [Int32.toInt_sub, nI_toInt (by omega), nI_toInt (by omega)]
  exact Int.bmod_eq_of_le (by omega) (by omega)
theorem pk_sneg {a b : Nat} (hb : b < 2 ^ 30) (h : a < b) : nI a - nI b < 0 := by
  rw [Int32.lt_iff_toInt_lt, pk_sub_toInt (by omega) hb, show (0 : Int32).toInt = 0 from by decide]
  omega
theorem pk_ix (x : Int32) {n : Nat} (hn : n < 2 ^ 31) : x < 0 ∨ nI n ≤ x ∨ ∃ j : Nat, j < n ∧ x = nI j := by
  by_cases h : x < 0
  · exact Or.inl h
  · obtain ⟨j, hj, rfl⟩ := nI_of h
    by_cases h2 : j < n
    · exact Or.inr (Or.inr ⟨j, h2, rfl⟩)
    · exact Or.inr (Or.inl (nI_le (by omega) hj))
theorem pk_le {x y : Int32} {A B : Prop} (a b : Nat) (f : a ≤ b → A) (g : b < a → B) (hx : x = nI a := by rfl) (hy : y = nI b := by rfl) (ha : a < 2 ^ 31 := by omega) (hb : b < 2 ^ 31 := by omega) : (x ≤ y → A) ∧ (¬ x ≤ y → B) := by
  subst hx hy
  rw [nI_leI ha hb]
  exact ⟨f, fun z => g (by omega)⟩
theorem pk_lt {x y : Int32} {A B : Prop} (a b : Nat) (f : a < b → A) (g : b ≤ a → B) (hx : x = nI a := by rfl) (hy : y = nI b := by rfl) (ha : a < 2 ^ 31 := by omega) (hb : b < 2 ^ 31 := by omega) : (x < y → A) ∧ (¬ x < y → B) := by
  subst hx hy
  rw [nI_ltI ha hb]
  exact ⟨f, fun z => g (by omega)⟩
theorem pk_eq {x y : Int32} {A B : Prop} (a b : Nat) (f : a = b → A) (g : a ≠ b → B) (hx : x = nI a := by rfl) (hy : y = nI b := by rfl) (ha : a < 2 ^ 31 := by omega) (hb : b < 2 ^ 31 := by omega) : (x = y → A) ∧ (¬ x = y → B) := by
  subst hx hy
  rw [nI_eq ha hb]
  exact ⟨f, g⟩
theorem pk_in {x : Int32} (n N : Nat) (h : n < N) (hx : x = nI n := by rfl) (hN : N < 2 ^ 31 := by omega) : vp_in x N := by
  subst hx
  exact vp_in_nI h hN
theorem pk_cl {x : Int32} (n : Nat) (hx : x = nI n := by rfl) (h : n < 2 ^ 31 := by omega) : x.toNatClampNeg = n := by
  subst hx
  exact nI_clamp h
theorem pk_tn {n : Nat} (h : n < 2 ^ 32) : (nI n).toBitVec.toNat = n := Nat.mod_eq_of_lt h
theorem pk_and (x : Int32) {m : Int32} (k : Nat) (hm : m.toBitVec.toNat = 2 ^ k - 1) : x &&& m = nI (x.toBitVec.toNat % 2 ^ k) := by
  apply Int32.toBitVec_inj.mp
  apply BitVec.eq_of_toNat_eq
  rw [Int32.toBitVec_and, BitVec.toNat_and, hm, Nat.and_two_pow_sub_one_eq_mod]
  show _ = (BitVec.ofNat 32 _).toNat
  rw [BitVec.toNat_ofNat]
  exact (Nat.mod_eq_of_lt (Nat.lt_of_le_of_lt (Nat.mod_le _ _) x.toBitVec.isLt)).symm
theorem pk_andN {n : Nat} (h : n < 2 ^ 32) {m : Int32} (k : Nat) (hm : m.toBitVec.toNat = 2 ^ k - 1) : nI n &&& m = nI (n % 2 ^ k) := by
  rw [pk_and _ k hm, pk_tn h]
theorem pk_andE (x : Int32) {m : Int32} (k : Nat) (hm : m.toBitVec.toNat = 2 ^ k - 1) : ∃ j : Nat, j < 2 ^ k ∧ x &&& m = nI j := ⟨_, Nat.mod_lt _ (Nat.two_pow_pos k), pk_and x k hm⟩
theorem pk_andIn (x : Int32) {m : Int32} (k : Nat) (hm : m.toBitVec.toNat = 2 ^ k - 1) (hk : k ≤ 30) : vp_in (x &&& m) (2 ^ k) := by
  obtain ⟨j, hj, e⟩ := pk_andE x k hm
  rw [e]
  exact vp_in_nI hj (Nat.lt_of_le_of_lt (Nat.pow_le_pow_right (by decide) hk) (by decide))
theorem pk_shl (a s : Int32) (k : Nat) (hs : (s.toBitVec.smod 32).toNat = k) : (a <<< s).toBitVec.toNat = a.toBitVec.toNat * 2 ^ k % 2 ^ 32 := by
  show (a.toBitVec <<< (s.toBitVec.smod 32).toNat).toNat = _
  rw [hs, BitVec.toNat_shiftLeft, Nat.shiftLeft_eq]
theorem pk_shlN {n : Nat} (s : Int32) (k : Nat) (hs : (s.toBitVec.smod 32).toNat = k) (h : n * 2 ^ k < 2 ^ 32) : nI n <<< s = nI (n * 2 ^ k) := by
  apply Int32.toBitVec_inj.mp
  apply BitVec.eq_of_toNat_eq
  have hn : n < 2 ^ 32 := Nat.lt_of_le_of_lt (Nat.le_mul_of_pos_right n (Nat.two_pow_pos k)) h
  rw [pk_shl _ _ k hs, pk_tn hn, pk_tn h, Nat.mod_eq_of_lt h]
theorem pk_shr (a s : Int32) (k : Nat) (hs : (s.toBitVec.smod 32).toNat = k) : (a >>> s).toInt = a.toInt >>> k := by
  show (a.toBitVec.sshiftRight (s.toBitVec.smod 32).toNat).toInt = _
  rw [hs, BitVec.toInt_sshiftRight]
  rfl
theorem pk_shrN {n : Nat} (h : n < 2 ^ 31) (s : Int32) (k : Nat) (hs : (s.toBitVec.smod 32).toNat = k) : nI n >>> s = nI (n / 2 ^ k) := by
  apply Int32.toInt_inj.mp
  have h2 : n / 2 ^ k ≤ n := Nat.div_le_self _ _
  rw [pk_shr _ _ k hs, nI_toInt h, nI_toInt (by omega), Int.shiftRight_eq_div_pow]
  rfl
theorem pk_ushr (x s : Int32) (k : Nat) (hs : ((s.toUInt32 &&& Int32.toUInt32 31).toBitVec % 32).toNat = k) : (x.toUInt32 >>> (s.toUInt32 &&& Int32.toUInt32 31)).toInt32.toBitVec.toNat = x.toBitVec.toNat / 2 ^ k := by
  have e : (x.toUInt32 >>> (s.toUInt32 &&& Int32.toUInt32 31)).toInt32.toBitVec = x.toBitVec >>> k := by
    rw [← hs]
    exact UInt32.toBitVec_shiftRight _ _
  rw [e, BitVec.toNat_ushiftRight, Nat.shiftRight_eq_div_pow]
theorem pk_ushrN {n : Nat} (hn : n < 2 ^ 32) (s : Int32) (k : Nat) (hs : ((s.toUInt32 &&& Int32.toUInt32 31).toBitVec % 32).toNat = k) : ((nI n).toUInt32 >>> (s.toUInt32 &&& Int32.toUInt32 31)).toInt32 = nI (n / 2 ^ k) := by
  apply Int32.toBitVec_inj.mp
  apply BitVec.eq_of_toNat_eq
  rw [pk_ushr _ s k hs, pk_tn hn, pk_tn (Nat.lt_of_le_of_lt (Nat.div_le_self _ _) hn)]
theorem pk_loop {σ : Type} (W : Nat → Nat → σ → Prop) (I : Nat → σ → Prop) (e i0 : Nat) (s : σ) (hi : i0 ≤ e) (h0 : I i0 s) (hx : ∀ n s, I e s → W (n + 1) e s)
    (hs : ∀ n i s, i < e → I i s → (∀ s', I (i + 1) s' → W n (i + 1) s') → W (n + 1) i s) : ∃ n, W n i0 s :=
  ⟨e + 1, loop_i W I e hx hs (e + 1) i0 s hi (by omega) h0⟩
theorem s_l : ∀ n, n < 32 → ((nI n &&& 31).toBitVec.smod 32).toNat = n := by decide +kernel
theorem nx_and (a b : Nat) : nI a &&& nI b = nI (a &&& b) := by
  apply Int32.toBitVec_inj.1
  show BitVec.ofNat 32 a &&& BitVec.ofNat 32 b = BitVec.ofNat 32 (a &&& b)
  apply BitVec.eq_of_getLsbD_eq
  intro i hi
  simp [hi]
end
section
def gp_it {σ : Type} (f : Nat → σ → σ) : Nat → σ → σ
  | 0, s => s
  | n + 1, s => f n (gp_it f n s)
noncomputable def gp_cn (p : Nat → Prop) : Nat → Nat
  | 0 => 0
  | n + 1 => gp_cn p n + @ite Nat (p n) (Classical.propDecidable (p n)) 1 0
theorem gp_cn_0 (p : Nat → Prop) : gp_cn p 0 = 0 := rfl
theorem gp_cn_t {p : Nat → Prop} {n : Nat} (h : p n) : gp_cn p (n + 1) = gp_cn p n + 1 := by
  show gp_cn p n + @ite Nat (p n) (Classical.propDecidable (p n)) 1 0 = _
  rw [if_pos h]
theorem gp_cn_f {p : Nat → Prop} {n : Nat} (h : ¬ p n) : gp_cn p (n + 1) = gp_cn p n := by
  show gp_cn p n + @ite Nat (p n) (Classical.propDecidable (p n)) 1 0 = _
  rw [if_neg h, Nat.add_zero]
theorem gp_cn_congr {p q : Nat → Prop} : ∀ n, (∀ i, i < n → (p i ↔ q i)) → gp_cn p n = gp_cn q n := by
  intro n
  induction n with
  | zero => intro _; rfl
  | succ n ih =>
    intro h
    have e := ih (fun i hi => h i (by omega))
    by_cases hp : p n
    · rw [gp_cn_t hp, gp_cn_t ((h n (by omega)).mp hp), e]
    · rw [gp_cn_f hp, gp_cn_f (fun z => hp ((h n (by omega)).mpr z)), e]
theorem gp_cn_le (p : Nat → Prop) : ∀ n, gp_cn p n ≤ n := by
  intro n
  induction n with
  | zero => exact Nat.le_refl 0
  | succ n ih =>
    by_cases hp : p n
    · rw [gp_cn_t hp]; omega
    · rw [gp_cn_f hp]; omega
theorem gp_cn_mono {p q : Nat → Prop} : ∀ n, (∀ i, i < n → p i → q i) → gp_cn p n ≤ gp_cn q n := by
  intro n
  induction n with
  | zero => intro _; exact Nat.le_refl 0
  | succ n ih =>
    intro h
    have e := ih (fun i hi => h i (by omega))
    by_cases hp : p n
    · rw [gp_cn_t hp, gp_cn_t (h n (by omega) hp)]; omega
    · rw [gp_cn_f hp]
      by_cases hq : q n
      · rw [gp_cn_t hq]; omega
      · rw [gp_cn_f hq]; omega
theorem gp_cn_one {p q : Nat → Prop} {z : Nat} (hz : p z) : ∀ n, z < n → (∀ i, i < n → (q i ↔ (p i ∧ i ≠ z))) → gp_cn p n = gp_cn q n + 1 := by
  intro n
  induction n with
  | zero => intro h _; omega
  | succ n ih =>
    intro h hq
    by_cases e : z = n
    · subst e
      have hn : ¬ q z := fun c => ((hq z (by omega)).mp c).2 rfl
      rw [gp_cn_t hz, gp_cn_f hn]
      have : gp_cn p z = gp_cn q z := gp_cn_congr z (fun i hi => ⟨fun c => (hq i (by omega)).mpr ⟨c, by omega⟩, fun c => ((hq i (by omega)).mp c).1⟩)
      omega
    · have e2 := ih (by omega) (fun i hi => hq i (by omega))
      by_cases hp : p n
      · rw [gp_cn_t hp, gp_cn_t ((hq n (by omega)).mpr ⟨hp, fun c => e c.symm⟩)]; omega
      · rw [gp_cn_f hp, gp_cn_f (fun c => hp ((hq n (by omega)).mp c).1)]; omega
theorem gp_cn_lt {p q : Nat → Prop} {z n : Nat} (hzn : z < n) (hq : q z) (hp : ¬ p z) (h : ∀ i, i < n → p i → q i) : gp_cn p n + 1 ≤ gp_cn q n := by
  have e := gp_cn_one (p := q) (q := fun i => q i ∧ i ≠ z) hq n hzn (fun i _ => Iff.rfl)
  have m : gp_cn p n ≤ gp_cn (fun i => q i ∧ i ≠ z) n := gp_cn_mono n (fun i hi c => ⟨h i hi c, fun ez => hp (ez ▸ c)⟩)
  omega
theorem gp_cn_pos {p : Nat → Prop} {z n : Nat} (hzn : z < n) (hp : p z) : 1 ≤ gp_cn p n := by
  have e := gp_cn_one (p := p) (q := fun i => p i ∧ i ≠ z) hp n hzn (fun i _ => Iff.rfl)
  omega
theorem gp_cn_all {p : Nat → Prop} : ∀ n, (∀ i, i < n → p i) → gp_cn p n = n := by
  intro n
  induction n with
  | zero => intro _; rfl
  | succ n ih =>
    intro h
    rw [gp_cn_t (h n (by omega)), ih (fun i hi => h i (by omega))]
theorem gp_first (P : Nat → Nat) (a : Nat) : ∀ n, P n = a → ∃ x, x ≤ n ∧ P x = a ∧ ∀ q, q < x → P q ≠ a := by
  intro n
  induction n using Nat.strongRecOn with
  | _ n ih =>
    intro h
    by_cases c : ∃ m, m < n ∧ P m = a
    · obtain ⟨m, hm, em⟩ := c
      obtain ⟨x, hx, ex, hl⟩ := ih m hm em
      exact ⟨x, by omega, ex, hl⟩
    · exact ⟨n, Nat.le_refl n, h, fun q hq e => c ⟨q, hq, e⟩⟩

def gp_fs (P : Nat → Nat) (p : Nat) : Prop := ∀ q, q < p → P q ≠ P p
def gp_jn (P : Nat → Nat) (a b : Nat) : Nat → Nat := fun p => if P p = b then a else P p
theorem gp_jn_eq {P : Nat → Nat} {a b p q : Nat} : gp_jn P a b p = gp_jn P a b q ↔ (P p = P q ∨ ((P p = a ∨ P p = b) ∧ (P q = a ∨ P q = b))) := by
  unfold gp_jn
  by_cases h1 : P p = b <;> by_cases h2 : P q = b <;> simp [h1, h2] <;> omega
theorem gp_jn_cnt {P : Nat → Nat} {x0 y0 a b N : Nat} (ea : P x0 = a) (eb : P y0 = b) (hx : x0 < N) (hy : y0 < N) (hne : a ≠ b) : gp_cn (gp_fs P) N = gp_cn (gp_fs (gp_jn P a b)) N + 1 := by
  obtain ⟨x, hxl, ex, lx⟩ := gp_first P a x0 ea
  obtain ⟨y, hyl, ey, ly⟩ := gp_first P b y0 eb
  have hxy : x ≠ y := fun c => hne (by rw [← ex, ← ey, c])
  have key : ∀ z, (z = x ∨ z = y) → (x ≤ z ∧ y ≤ z) → gp_cn (gp_fs P) N = gp_cn (gp_fs (gp_jn P a b)) N + 1 := by
    intro z hz hm
    have hzN : z < N := by rcases hz with h | h <;> omega
    have hf : gp_fs P z := by
      intro q hq
      rcases hz with h | h
      · rw [h, ex]; exact lx q (by omega)
      · rw [h, ey]; exact ly q (by omega)
    have hPz : P z = a ∨ P z = b := by
      rcases hz with h | h
      · left; rw [h, ex]
      · right; rw [h, ey]
    refine gp_cn_one hf N hzN (fun i _ => ⟨fun h => ⟨fun q hq c => h q hq (gp_jn_eq.mpr (Or.inl c)), fun c => ?_⟩, fun h q hq c => ?_⟩)
    · subst c
      rcases hz with hz | hz
      · exact h y (by omega) (gp_jn_eq.mpr (Or.inr ⟨Or.inr ey, hPz⟩))
      · exact h x (by omega) (gp_jn_eq.mpr (Or.inr ⟨Or.inl ex, hPz⟩))
    · rcases gp_jn_eq.mp c with c | ⟨c1, c2⟩
      · exact h.1 q hq c
      · have hi : x ≤ i ∧ i = x ∨ y ≤ i ∧ i = y := by
          rcases c2 with c2 | c2
          · left
            by_cases l : i < x
            · exact absurd c2 (lx i l)
            · refine ⟨by omega, ?_⟩
              by_cases g : x < i
              · exact absurd (ex.trans c2.symm) (h.1 x g)
              · omega
          · right
            by_cases l : i < y
            · exact absurd c2 (ly i l)
            · refine ⟨by omega, ?_⟩
              by_cases g : y < i
              · exact absurd (ey.trans c2.symm) (h.1 y g)
              · omega
        have hiz : i < z := by
          have := h.2
          rcases hi with hi | hi <;> omega
        have hq1 : q < x := by rcases hi with hi | hi <;> rcases hz with hz | hz <;> omega
        have hq2 : q < y := by rcases hi with hi | hi <;> rcases hz with hz | hz <;> omega
        rcases c1 with c1 | c1
        · exact lx q hq1 c1
        · exact ly q hq2 c1
  by_cases l : x ≤ y
  · exact key y (Or.inr rfl) ⟨l, Nat.le_refl y⟩
  · exact key x (Or.inl rfl) ⟨Nat.le_refl x, by omega⟩
end
section
def gp_xs (f s : Nat → Nat) (A : Nat → Bool) (e : Nat) (t : (Nat → Nat) × Nat) : (Nat → Nat) × Nat :=
  if A e = true ∧ t.1 (f e) ≠ t.1 (s e) then (gp_jn t.1 (t.1 (f e)) (t.1 (s e)), t.2 + 1) else t
def gp_xt (f s : Nat → Nat) (A : Nat → Bool) (k : Nat) : (Nat → Nat) × Nat := gp_it (gp_xs f s A) k (fun p => p, 0)
def gp_rk (f s : Nat → Nat) (A : Nat → Bool) (M : Nat) : Nat := (gp_xt f s A M).2
theorem gp_xt_s (f s : Nat → Nat) (A : Nat → Bool) (k : Nat) : gp_xt f s A (k + 1) = gp_xs f s A k (gp_xt f s A k) := rfl
theorem gp_xs_t {f s : Nat → Nat} {A : Nat → Bool} {e : Nat} {t : (Nat → Nat) × Nat} (h : A e = true ∧ t.1 (f e) ≠ t.1 (s e)) : gp_xs f s A e t = (gp_jn t.1 (t.1 (f e)) (t.1 (s e)), t.2 + 1) := if_pos h
theorem gp_xs_f {f s : Nat → Nat} {A : Nat → Bool} {e : Nat} {t : (Nat → Nat) × Nat} (h : ¬ (A e = true ∧ t.1 (f e) ≠ t.1 (s e))) : gp_xs f s A e t = t := if_neg h
theorem gp_xt_ker {f s : Nat → Nat} {A : Nat → Bool} {k p q : Nat} (h : (gp_xt f s A k).1 p = (gp_xt f s A k).1 q) : (gp_xt f s A (k + 1)).1 p = (gp_xt f s A (k + 1)).1 q := by
  rw [gp_xt_s]
  by_cases c : A k = true ∧ (gp_xt f s A k).1 (f k) ≠ (gp_xt f s A k).1 (s k)
  · rw [gp_xs_t c]; exact gp_jn_eq.mpr (Or.inl h)
  · rw [gp_xs_f c]; exact h
theorem gp_xt_edge {f s : Nat → Nat} {A : Nat → Bool} : ∀ k e, e < k → A e = true → (gp_xt f s A k).1 (f e) = (gp_xt f s A k).1 (s e) := by
  intro k
  induction k with
  | zero => intro e h; omega
  | succ k ih =>
    intro e h a
    by_cases c : e < k
    · exact gp_xt_ker (ih e c a)
    · have : e = k := by omega
      subst this
      rw [gp_xt_s]
      by_cases c : A e = true ∧ (gp_xt f s A e).1 (f e) ≠ (gp_xt f s A e).1 (s e)
      · rw [gp_xs_t c]; exact gp_jn_eq.mpr (Or.inr ⟨Or.inl rfl, Or.inr rfl⟩)
      · rw [gp_xs_f c]
        by_cases d : (gp_xt f s A e).1 (f e) = (gp_xt f s A e).1 (s e)
        · exact d
        · exact absurd ⟨a, d⟩ c
theorem gp_xt_min {f s : Nat → Nat} {A : Nat → Bool} {L : Nat → Nat} : ∀ k, (∀ e, e < k → A e = true → L (f e) = L (s e)) → ∀ p q, (gp_xt f s A k).1 p = (gp_xt f s A k).1 q → L p = L q := by
  intro k
  induction k with
  | zero => intro _ p q h; exact congrArg L h
  | succ k ih =>
    intro hL p q h
    have IH := ih (fun e he => hL e (by omega))
    rw [gp_xt_s] at h
    by_cases c : A k = true ∧ (gp_xt f s A k).1 (f k) ≠ (gp_xt f s A k).1 (s k)
    · rw [gp_xs_t c] at h
      have hk := hL k (by omega) c.1
      rcases gp_jn_eq.mp h with h | ⟨h1, h2⟩
      · exact IH p q h
      · have e1 : L p = L (f k) := by
          rcases h1 with h1 | h1
          · exact IH _ _ h1
          · rw [hk]; exact IH _ _ h1
        have e2 : L q = L (f k) := by
          rcases h2 with h2 | h2
          · exact IH _ _ h2
          · rw [hk]; exact IH _ _ h2
        rw [e1, e2]
    · rw [gp_xs_f c] at h
      exact IH p q h
theorem gp_xt_cnt {f s : Nat → Nat} {A : Nat → Bool} {N : Nat} (hN : ∀ e, f e < N ∧ s e < N) : ∀ k, gp_cn (gp_fs (gp_xt f s A k).1) N + (gp_xt f s A k).2 = N := by
  intro k
  induction k with
  | zero =>
    have e : gp_cn (gp_fs (gp_xt f s A 0).1) N = N := gp_cn_all N (fun i _ q hq => by
      show q ≠ i
      omega)
    have e2 : (gp_xt f s A 0).2 = 0 := rfl
    omega
  | succ k ih =>
    rw [gp_xt_s]
    by_cases c : A k = true ∧ (gp_xt f s A k).1 (f k) ≠ (gp_xt f s A k).1 (s k)
    · rw [gp_xs_t c]
      have := gp_jn_cnt (P := (gp_xt f s A k).1) rfl rfl (hN k).1 (hN k).2 c.2
      show gp_cn (gp_fs (gp_jn (gp_xt f s A k).1 ((gp_xt f s A k).1 (f k)) ((gp_xt f s A k).1 (s k)))) N + ((gp_xt f s A k).2 + 1) = N
      omega
    · rw [gp_xs_f c]; exact ih
theorem gp_xt_lt {f s : Nat → Nat} {A : Nat → Bool} {N : Nat} (hN : ∀ e, f e < N ∧ s e < N) : ∀ k p, p < N → (gp_xt f s A k).1 p < N := by
  intro k
  induction k with
  | zero => intro p h; exact h
  | succ k ih =>
    intro p h
    rw [gp_xt_s]
    by_cases c : A k = true ∧ (gp_xt f s A k).1 (f k) ≠ (gp_xt f s A k).1 (s k)
    · rw [gp_xs_t c]
      show (if (gp_xt f s A k).1 p = (gp_xt f s A k).1 (s k) then (gp_xt f s A k).1 (f k) else (gp_xt f s A k).1 p) < N
      by_cases d : (gp_xt f s A k).1 p = (gp_xt f s A k).1 (s k)
      · rw [if_pos d]; exact ih _ (hN k).1
      · rw [if_neg d]; exact ih _ h
    · rw [gp_xs_f c]; exact ih p h
theorem gp_xt_le (f s : Nat → Nat) (A : Nat → Bool) : ∀ k, (gp_xt f s A k).2 ≤ k := by
  intro k
  induction k with
  | zero => exact Nat.le_refl 0
  | succ k ih =>
    rw [gp_xt_s]
    by_cases c : A k = true ∧ (gp_xt f s A k).1 (f k) ≠ (gp_xt f s A k).1 (s k)
    · rw [gp_xs_t c]
      show (gp_xt f s A k).2 + 1 ≤ k + 1
      omega
    · rw [gp_xs_f c]; omega

def gp_mi (a b : Nat) : Nat := if a < b then a else b
theorem gp_mi_le {a b : Nat} : gp_mi a b ≤ a ∧ gp_mi a b ≤ b ∧ (gp_mi a b = a ∨ gp_mi a b = b) := by
  unfold gp_mi
  by_cases h : a < b
  · rw [if_pos h]; omega
  · rw [if_neg h]; omega
def gp_ys (f s : Nat → Nat) (A : Nat → Bool) (e : Nat) (L : Nat → Nat) : Nat → Nat :=
  if A e = true then (fun p => if p = s e then gp_mi (L (f e)) (L (s e)) else if p = f e then gp_mi (L (f e)) (L (s e)) else L p) else L
theorem gp_ys_t {f s : Nat → Nat} {A : Nat → Bool} {e : Nat} {L : Nat → Nat} (h : A e = true) (p : Nat) : gp_ys f s A e L p = if p = s e then gp_mi (L (f e)) (L (s e)) else if p = f e then gp_mi (L (f e)) (L (s e)) else L p := by
  unfold gp_ys; rw [if_pos h]
theorem gp_ys_f {f s : Nat → Nat} {A : Nat → Bool} {e : Nat} {L : Nat → Nat} (h : ¬ A e = true) : gp_ys f s A e L = L := by
  unfold gp_ys; rw [if_neg h]
theorem gp_ys_in {f s : Nat → Nat} {A : Nat → Bool} {e : Nat} {L : Nat → Nat} (h : A e = true) {p : Nat} (hp : p = f e ∨ p = s e) : gp_ys f s A e L p = gp_mi (L (f e)) (L (s e)) := by
  rw [gp_ys_t h]
  by_cases c : p = s e
  · rw [if_pos c]
  · rw [if_neg c]
    by_cases d : p = f e
    · rw [if_pos d]
    · exact absurd hp (by omega)
theorem gp_ys_out {f s : Nat → Nat} {A : Nat → Bool} {e : Nat} {L : Nat → Nat} (h : A e = true) {p : Nat} (hp : ¬ (p = f e ∨ p = s e)) : gp_ys f s A e L p = L p := by
  rw [gp_ys_t h, if_neg (fun c => hp (Or.inr c)), if_neg (fun c => hp (Or.inl c))]
theorem gp_ys_le (f s : Nat → Nat) (A : Nat → Bool) (e : Nat) (L : Nat → Nat) (p : Nat) : gp_ys f s A e L p ≤ L p := by
  by_cases h : A e = true
  · by_cases hp : p = f e ∨ p = s e
    · rw [gp_ys_in h hp]
      have m := @gp_mi_le (L (f e)) (L (s e))
      rcases hp with hp | hp
      · rw [hp]; exact m.1
      · rw [hp]; exact m.2.1
    · rw [gp_ys_out h hp]; exact Nat.le_refl _
  · rw [gp_ys_f h]; exact Nat.le_refl _
def gp_yr (f s : Nat → Nat) (A : Nat → Bool) (k : Nat) (L : Nat → Nat) : Nat → Nat := gp_it (gp_ys f s A) k L
theorem gp_yr_s (f s : Nat → Nat) (A : Nat → Bool) (k : Nat) (L : Nat → Nat) : gp_yr f s A (k + 1) L = gp_ys f s A k (gp_yr f s A k L) := rfl
theorem gp_yr_le (f s : Nat → Nat) (A : Nat → Bool) (L : Nat → Nat) : ∀ k p, gp_yr f s A k L p ≤ L p := by
  intro k
  induction k with
  | zero => intro p; exact Nat.le_refl _
  | succ k ih =>
    intro p
    rw [gp_yr_s]
    exact Nat.le_trans (gp_ys_le _ _ _ _ _ _) (ih p)
theorem gp_yr_edge {f s : Nat → Nat} {A : Nat → Bool} {L : Nat → Nat} {e : Nat} (a : A e = true) : ∀ k, e < k → ∀ p, (p = f e ∨ p = s e) → gp_yr f s A k L p ≤ gp_mi (L (f e)) (L (s e)) := by
  intro k
  induction k with
  | zero => intro h; omega
  | succ k ih =>
    intro h p hp
    rw [gp_yr_s]
    by_cases c : e < k
    · exact Nat.le_trans (gp_ys_le _ _ _ _ _ _) (ih c p hp)
    · have : e = k := by omega
      subst this
      rw [gp_ys_in a hp]
      have m := @gp_mi_le (gp_yr f s A e L (f e)) (gp_yr f s A e L (s e))
      have l1 := gp_yr_le f s A L e (f e)
      have l2 := gp_yr_le f s A L e (s e)
      have m2 := @gp_mi_le (L (f e)) (L (s e))
      omega
def gp_cl (f s : Nat → Nat) (A : Nat → Bool) (M c : Nat) (L : Nat → Nat) : Prop := ∀ e, e < M → A e = true → (L (f e) ≤ c ↔ L (s e) ≤ c)
theorem gp_cl_s {f s : Nat → Nat} {A : Nat → Bool} {M c : Nat} {L : Nat → Nat} (h : gp_cl f s A M c L) {e : Nat} (he : e < M) (p : Nat) : gp_ys f s A e L p ≤ c ↔ L p ≤ c := by
  by_cases a : A e = true
  · have hh := h e he a
    by_cases hp : p = f e ∨ p = s e
    · rw [gp_ys_in a hp]
      have m := @gp_mi_le (L (f e)) (L (s e))
      rcases hp with hp | hp
      · rw [hp]
        constructor
        · intro g
          rcases m.2.2 with q | q
          · omega
          · exact hh.mpr (by omega)
        · intro g; omega
      · rw [hp]
        constructor
        · intro g
          rcases m.2.2 with q | q
          · exact hh.mp (by omega)
          · omega
        · intro g; omega
    · rw [gp_ys_out a hp]
  · rw [gp_ys_f a]
theorem gp_cl_r {f s : Nat → Nat} {A : Nat → Bool} {M c : Nat} {L : Nat → Nat} (h : gp_cl f s A M c L) : ∀ k, k ≤ M → ∀ p, gp_yr f s A k L p ≤ c ↔ L p ≤ c := by
  intro k
  induction k with
  | zero => intro _ p; exact Iff.rfl
  | succ k ih =>
    intro hk p
    have IH := ih (by omega)
    rw [gp_yr_s]
    have h2 : gp_cl f s A M c (gp_yr f s A k L) := fun e he a => by rw [IH, IH]; exact h e he a
    rw [gp_cl_s h2 (by omega), IH]
def gp_yt (f s : Nat → Nat) (A : Nat → Bool) (M t : Nat) : Nat → Nat := gp_it (fun _ L => gp_yr f s A M L) t (fun p => p)
theorem gp_yt_s (f s : Nat → Nat) (A : Nat → Bool) (M t : Nat) : gp_yt f s A M (t + 1) = gp_yr f s A M (gp_yt f s A M t) := rfl
theorem gp_yt_grow {f s : Nat → Nat} {A : Nat → Bool} {N M : Nat} (hN : ∀ e, f e < N ∧ s e < N) (c : Nat) : ∀ t, gp_cl f s A M c (gp_yt f s A M t) ∨ t + 1 ≤ gp_cn (fun u => gp_yt f s A M t u ≤ c) N := by
  intro t
  induction t with
  | zero =>
    right
    exact gp_cn_pos (z := 0) (Nat.lt_of_le_of_lt (Nat.zero_le _) (hN 0).1) (Nat.zero_le c)
  | succ t ih =>
    rw [gp_yt_s]
    by_cases h : gp_cl f s A M c (gp_yt f s A M t)
    · left
      intro e he a
      rw [gp_cl_r h M (Nat.le_refl M), gp_cl_r h M (Nat.le_refl M)]
      exact h e he a
    · right
      rcases ih with g | g
      · exact absurd g h
      · have ex : ∃ e, e < M ∧ A e = true ∧ ¬ (gp_yt f s A M t (f e) ≤ c ↔ gp_yt f s A M t (s e) ≤ c) := by
          refine Classical.byContradiction (fun n => h (fun e he a => ?_))
          exact Classical.byContradiction (fun m => n ⟨e, he, a, m⟩)
        obtain ⟨e, he, a, hne⟩ := ex
        have m := @gp_mi_le (gp_yt f s A M t (f e)) (gp_yt f s A M t (s e))
        have b1 := gp_yr_edge (f := f) (s := s) (L := gp_yt f s A M t) a M he (f e) (Or.inl rfl)
        have b2 := gp_yr_edge (f := f) (s := s) (L := gp_yt f s A M t) a M he (s e) (Or.inr rfl)
        have mono : ∀ i, i < N → gp_yt f s A M t i ≤ c → gp_yr f s A M (gp_yt f s A M t) i ≤ c := fun i _ hi => Nat.le_trans (gp_yr_le _ _ _ _ _ _) hi
        by_cases d : gp_yt f s A M t (f e) ≤ c
        · have d3 : gp_yr f s A M (gp_yt f s A M t) (s e) ≤ c := by omega
          have d2 : ¬ gp_yt f s A M t (s e) ≤ c := fun z => hne ⟨fun _ => z, fun _ => d⟩
          have := gp_cn_lt (p := fun u => gp_yt f s A M t u ≤ c) (q := fun u => gp_yr f s A M (gp_yt f s A M t) u ≤ c) (hN e).2 d3 d2 mono
          omega
        · have d2 : gp_yt f s A M t (s e) ≤ c := Classical.byContradiction (fun z => hne ⟨fun y => absurd y d, fun y => absurd y z⟩)
          have d3 : gp_yr f s A M (gp_yt f s A M t) (f e) ≤ c := by omega
          have := gp_cn_lt (p := fun u => gp_yt f s A M t u ≤ c) (q := fun u => gp_yr f s A M (gp_yt f s A M t) u ≤ c) (hN e).1 d3 d mono
          omega
theorem gp_yt_edge {f s : Nat → Nat} {A : Nat → Bool} {N M : Nat} (hN : ∀ e, f e < N ∧ s e < N) (h6 : N ≤ 6) {e : Nat} (he : e < M) (a : A e = true) : gp_yt f s A M 6 (f e) = gp_yt f s A M 6 (s e) := by
  have cl : ∀ c, gp_cl f s A M c (gp_yt f s A M 6) := by
    intro c
    rcases gp_yt_grow (A := A) (M := M) hN c 6 with h | h
    · exact h
    · have := gp_cn_le (fun u => gp_yt f s A M 6 u ≤ c) N
      omega
  have h1 := (cl (gp_yt f s A M 6 (f e)) e he a).mp (Nat.le_refl _)
  have h2 := (cl (gp_yt f s A M 6 (s e)) e he a).mpr (Nat.le_refl _)
  omega
theorem gp_yr_cls {f s P : Nat → Nat} {A : Nat → Bool} {M : Nat} (hP : ∀ e, e < M → A e = true → P (f e) = P (s e)) {L : Nat → Nat} (hL : ∀ p, P (L p) = P p) : ∀ k, k ≤ M → ∀ p, P (gp_yr f s A k L p) = P p := by
  intro k
  induction k with
  | zero => intro _ p; exact hL p
  | succ k ih =>
    intro hk p
    have IH := ih (by omega)
    rw [gp_yr_s]
    by_cases a : A k = true
    · by_cases hp : p = f k ∨ p = s k
      · rw [gp_ys_in a hp]
        have hk2 := hP k (by omega) a
        have e1 := IH (f k)
        have e2 := IH (s k)
        have g : P p = P (f k) := by
          rcases hp with hp | hp
          · rw [hp]
          · rw [hp, hk2]
        rcases (@gp_mi_le (gp_yr f s A k L (f k)) (gp_yr f s A k L (s k))).2.2 with m | m
        · rw [m, e1, g]
        · rw [m, e2, g, hk2]
      · rw [gp_ys_out a hp]; exact IH p
    · rw [gp_ys_f a]; exact IH p
theorem gp_yt_cls {f s P : Nat → Nat} {A : Nat → Bool} {M : Nat} (hP : ∀ e, e < M → A e = true → P (f e) = P (s e)) : ∀ t p, P (gp_yt f s A M t p) = P p := by
  intro t
  induction t with
  | zero => intro p; rfl
  | succ t ih => intro p; rw [gp_yt_s]; exact gp_yr_cls hP ih M (Nat.le_refl M) p
theorem gp_yt_le (f s : Nat → Nat) (A : Nat → Bool) (M : Nat) : ∀ t p, gp_yt f s A M t p ≤ p := by
  intro t
  induction t with
  | zero => intro p; exact Nat.le_refl _
  | succ t ih => intro p; rw [gp_yt_s]; exact Nat.le_trans (gp_yr_le _ _ _ _ _ _) (ih p)
noncomputable def gp_pt (f s : Nat → Nat) (A : Nat → Bool) (M N : Nat) : Nat := gp_cn (fun u => gp_yt f s A M 6 u = u) N
theorem gp_rank {f s : Nat → Nat} {A : Nat → Bool} {N M : Nat} (hN : ∀ e, f e < N ∧ s e < N) (h6 : N ≤ 6) : gp_pt f s A M N + gp_rk f s A M = N := by
  have h1 := gp_xt_cnt (A := A) hN M
  have e : gp_pt f s A M N = gp_cn (gp_fs (gp_xt f s A M).1) N := by
    refine gp_cn_congr N (fun p _ => ⟨fun h q hq c => ?_, fun h => ?_⟩)
    · have e1 := gp_xt_min (L := gp_yt f s A M 6) M (fun e he a => gp_yt_edge hN h6 he a) q p c
      have e2 := gp_yt_le f s A M 6 q
      have h' : gp_yt f s A M 6 p = p := h
      omega
    · have e1 := gp_yt_cls (P := (gp_xt f s A M).1) (fun e he a => gp_xt_edge M e he a) 6 p
      have e2 := gp_yt_le f s A M 6 p
      by_cases c : gp_yt f s A M 6 p < p
      · exact absurd e1 (h _ c)
      · show gp_yt f s A M 6 p = p
        omega
  show gp_pt f s A M N + (gp_xt f s A M).2 = N
  rw [e]; exact h1
end
section
def gp_lr (fr to : Nat → Nat) (e : Nat) (L : Nat → Nat) : Nat → Nat :=
  if L (fr e) ≤ L (to e) then (fun p => if p = fr e then L (to e) + 1 else L p) else L
theorem gp_lr_t {fr to : Nat → Nat} {e : Nat} {L : Nat → Nat} (h : L (fr e) ≤ L (to e)) (p : Nat) : gp_lr fr to e L p = if p = fr e then L (to e) + 1 else L p := by
  unfold gp_lr; rw [if_pos h]
theorem gp_lr_f {fr to : Nat → Nat} {e : Nat} {L : Nat → Nat} (h : ¬ L (fr e) ≤ L (to e)) : gp_lr fr to e L = L := by
  unfold gp_lr; rw [if_neg h]
theorem gp_lr_ge (fr to : Nat → Nat) (e : Nat) (L : Nat → Nat) (p : Nat) : L p ≤ gp_lr fr to e L p := by
  by_cases h : L (fr e) ≤ L (to e)
  · rw [gp_lr_t h]
    by_cases c : p = fr e
    · rw [if_pos c, c]; omega
    · rw [if_neg c]; exact Nat.le_refl _
  · rw [gp_lr_f h]; exact Nat.le_refl _
theorem gp_lr_edge (fr to : Nat → Nat) (e : Nat) (L : Nat → Nat) : L (to e) + 1 ≤ gp_lr fr to e L (fr e) := by
  by_cases h : L (fr e) ≤ L (to e)
  · rw [gp_lr_t h, if_pos rfl]; exact Nat.le_refl _
  · rw [gp_lr_f h]; omega
theorem gp_lr_bd {fr to : Nat → Nat} {e B : Nat} {L : Nat → Nat} (h : ∀ p, L p ≤ B) (p : Nat) : gp_lr fr to e L p ≤ B + 1 := by
  by_cases c : L (fr e) ≤ L (to e)
  · rw [gp_lr_t c]
    by_cases d : p = fr e
    · rw [if_pos d]; have := h (to e); omega
    · rw [if_neg d]; have := h p; omega
  · rw [gp_lr_f c]; have := h p; omega
def gp_lk (fr to : Nat → Nat) (k : Nat) (L : Nat → Nat) : Nat → Nat := gp_it (gp_lr fr to) k L
theorem gp_lk_s (fr to : Nat → Nat) (k : Nat) (L : Nat → Nat) : gp_lk fr to (k + 1) L = gp_lr fr to k (gp_lk fr to k L) := rfl
def gp_lt (fr to : Nat → Nat) (M t : Nat) : Nat → Nat := gp_it (fun _ L => gp_lk fr to M L) t (fun _ => 0)
theorem gp_lt_s (fr to : Nat → Nat) (M t : Nat) : gp_lt fr to M (t + 1) = gp_lk fr to M (gp_lt fr to M t) := rfl
theorem gp_lk_ge (fr to : Nat → Nat) (L : Nat → Nat) : ∀ k p, L p ≤ gp_lk fr to k L p := by
  intro k
  induction k with
  | zero => intro p; exact Nat.le_refl _
  | succ k ih => intro p; rw [gp_lk_s]; exact Nat.le_trans (ih p) (gp_lr_ge _ _ _ _ _)
theorem gp_lk_edge {fr to : Nat → Nat} {L : Nat → Nat} {e : Nat} : ∀ k, e < k → L (to e) + 1 ≤ gp_lk fr to k L (fr e) := by
  intro k
  induction k with
  | zero => intro h; omega
  | succ k ih =>
    intro h
    rw [gp_lk_s]
    by_cases c : e < k
    · exact Nat.le_trans (ih c) (gp_lr_ge _ _ _ _ _)
    · have : e = k := by omega
      subst this
      have a := gp_lr_edge fr to e (gp_lk fr to e L)
      have b := gp_lk_ge fr to L e (to e)
      omega
theorem gp_lk_bd {fr to : Nat → Nat} {B : Nat} {L : Nat → Nat} (h : ∀ p, L p ≤ B) : ∀ k p, gp_lk fr to k L p ≤ B + k := by
  intro k
  induction k with
  | zero => exact h
  | succ k ih => intro p; rw [gp_lk_s]; exact gp_lr_bd ih p
theorem gp_lt_bd (fr to : Nat → Nat) (M : Nat) : ∀ t p, gp_lt fr to M t p ≤ t * M := by
  intro t
  induction t with
  | zero => intro p; exact Nat.zero_le _
  | succ t ih =>
    intro p
    rw [gp_lt_s, Nat.succ_mul]
    exact gp_lk_bd ih M p
theorem gp_lk_top {fr to : Nat → Nat} {M : Nat} {ρ : Nat → Nat} (hr : ∀ e, e < M → ρ (to e) + 1 ≤ ρ (fr e)) {L : Nat → Nat} (hL : ∀ p, L p ≤ ρ p) : ∀ k, k ≤ M → ∀ p, gp_lk fr to k L p ≤ ρ p := by
  intro k
  induction k with
  | zero => intro _ p; exact hL p
  | succ k ih =>
    intro hk p
    have IH := ih (by omega)
    rw [gp_lk_s]
    by_cases c : gp_lk fr to k L (fr k) ≤ gp_lk fr to k L (to k)
    · rw [gp_lr_t c]
      by_cases d : p = fr k
      · rw [if_pos d, d]
        have := IH (to k)
        have := hr k (by omega)
        omega
      · rw [if_neg d]; exact IH p
    · rw [gp_lr_f c]; exact IH p
theorem gp_lt_top {fr to : Nat → Nat} {M : Nat} {ρ : Nat → Nat} (hr : ∀ e, e < M → ρ (to e) + 1 ≤ ρ (fr e)) : ∀ t p, gp_lt fr to M t p ≤ ρ p := by
  intro t
  induction t with
  | zero => intro p; exact Nat.zero_le _
  | succ t ih => intro p; rw [gp_lt_s]; exact gp_lk_top hr ih M (Nat.le_refl M) p
theorem gp_lt_trap {fr to : Nat → Nat} {M : Nat} {C : Nat → Prop} (hC : ∀ p, C p → ∃ e, e < M ∧ fr e = p ∧ C (to e)) : ∀ t p, C p → t ≤ gp_lt fr to M t p := by
  intro t
  induction t with
  | zero => intro p _; exact Nat.zero_le _
  | succ t ih =>
    intro p hp
    obtain ⟨e, he, ef, ht⟩ := hC p hp
    rw [gp_lt_s, ← ef]
    have a := gp_lk_edge (fr := fr) (to := to) (L := gp_lt fr to M t) M he
    have b := ih (to e) ht
    omega

def gp_es (fr to : Nat → Nat) (e : Nat) (r : Nat → Nat) : Nat → Nat := fun p => if p = fr e then r p ||| 2 ^ (to e) else r p
def gp_ek (fr to : Nat → Nat) (k : Nat) : Nat → Nat := gp_it (gp_es fr to) k (fun _ => 0)
theorem gp_ek_s (fr to : Nat → Nat) (k : Nat) : gp_ek fr to (k + 1) = gp_es fr to k (gp_ek fr to k) := rfl
theorem gp_ek_bit (fr to : Nat → Nat) : ∀ k u v, (gp_ek fr to k u).testBit v = true ↔ ∃ e, e < k ∧ fr e = u ∧ to e = v := by
  intro k
  induction k with
  | zero =>
    intro u v
    show (0 : Nat).testBit v = true ↔ _
    rw [Nat.zero_testBit]
    constructor
    · intro h; exact absurd h (by decide)
    · rintro ⟨e, he, _⟩; omega
  | succ k ih =>
    intro u v
    rw [gp_ek_s]
    show (if u = fr k then gp_ek fr to k u ||| 2 ^ (to k) else gp_ek fr to k u).testBit v = true ↔ _
    by_cases c : u = fr k
    · rw [if_pos c, Nat.testBit_or, Bool.or_eq_true, ih u v, Nat.testBit_two_pow]
      constructor
      · rintro (⟨e, he, h1, h2⟩ | h)
        · exact ⟨e, by omega, h1, h2⟩
        · exact ⟨k, by omega, c.symm, of_decide_eq_true h⟩
      · rintro ⟨e, he, h1, h2⟩
        by_cases d : e < k
        · exact Or.inl ⟨e, d, h1, h2⟩
        · have : e = k := by omega
          subst this
          exact Or.inr (decide_eq_true h2)
    · rw [if_neg c, ih u v]
      constructor
      · rintro ⟨e, he, h1, h2⟩
        exact ⟨e, by omega, h1, h2⟩
      · rintro ⟨e, he, h1, h2⟩
        by_cases d : e < k
        · exact ⟨e, d, h1, h2⟩
        · have : e = k := by omega
          subst this
          exact absurd h1.symm c
theorem gp_ek_lt {fr to : Nat → Nat} (ht : ∀ e, to e < 6) : ∀ k p, gp_ek fr to k p < 2 ^ 6 := by
  intro k
  induction k with
  | zero => intro p; exact (by decide : (0 : Nat) < 2 ^ 6)
  | succ k ih =>
    intro p
    rw [gp_ek_s]
    show (if p = fr k then gp_ek fr to k p ||| 2 ^ (to k) else gp_ek fr to k p) < 2 ^ 6
    by_cases c : p = fr k
    · rw [if_pos c]
      exact Nat.or_lt_two_pow (ih p) (Nat.pow_lt_pow_right (by omega) (ht k))
    · rw [if_neg c]; exact ih p
def gp_wi (k : Nat) (r : Nat → Nat) (p : Nat) : Nat → Nat := fun q => if q < p ∧ (r q).testBit k = true then r q ||| r k else r q
def gp_ws (N k : Nat) (r : Nat → Nat) : Nat → Nat := gp_wi k r N
def gp_wk (fr to : Nat → Nat) (N M k : Nat) : Nat → Nat := gp_it (gp_ws N) k (gp_ek fr to M)
theorem gp_wk_s (fr to : Nat → Nat) (N M k : Nat) : gp_wk fr to N M (k + 1) = gp_ws N k (gp_wk fr to N M k) := rfl
theorem gp_wi_lt {k : Nat} {r : Nat → Nat} (h : ∀ p, r p < 2 ^ 6) (p q : Nat) : gp_wi k r p q < 2 ^ 6 := by
  show (if q < p ∧ (r q).testBit k = true then r q ||| r k else r q) < 2 ^ 6
  by_cases c : q < p ∧ (r q).testBit k = true
  · rw [if_pos c]; exact Nat.or_lt_two_pow (h q) (h k)
  · rw [if_neg c]; exact h q
theorem gp_wk_lt {fr to : Nat → Nat} {N M : Nat} (ht : ∀ e, to e < 6) : ∀ k p, gp_wk fr to N M k p < 2 ^ 6 := by
  intro k
  induction k with
  | zero => exact gp_ek_lt ht M
  | succ k ih => intro p; rw [gp_wk_s]; exact gp_wi_lt ih N p
theorem gp_ws_bit {N k : Nat} {r : Nat → Nat} {u : Nat} (hu : u < N) (v : Nat) : (gp_ws N k r u).testBit v = true ↔ ((r u).testBit v = true ∨ ((r u).testBit k = true ∧ (r k).testBit v = true)) := by
  show (if u < N ∧ (r u).testBit k = true then r u ||| r k else r u).testBit v = true ↔ _
  by_cases c : (r u).testBit k = true
  · rw [if_pos ⟨hu, c⟩, Nat.testBit_or, Bool.or_eq_true]
    constructor
    · rintro (h | h)
      · exact Or.inl h
      · exact Or.inr ⟨c, h⟩
    · rintro (h | h)
      · exact Or.inl h
      · exact Or.inr h.2
  · rw [if_neg (fun z => c z.2)]
    constructor
    · intro h; exact Or.inl h
    · rintro (h | h)
      · exact h
      · exact absurd h.1 c
def gp_R (fr to : Nat → Nat) (N M k u v : Nat) : Prop := u < N ∧ v < N ∧ (gp_wk fr to N M k u).testBit v = true
theorem gp_R_s {fr to : Nat → Nat} {N M k : Nat} (hk : k < N) (u v : Nat) : gp_R fr to N M (k + 1) u v ↔ (gp_R fr to N M k u v ∨ (gp_R fr to N M k u k ∧ gp_R fr to N M k k v)) := by
  unfold gp_R
  rw [gp_wk_s]
  constructor
  · rintro ⟨hu, hv, h⟩
    rcases (gp_ws_bit hu v).mp h with h | h
    · exact Or.inl ⟨hu, hv, h⟩
    · exact Or.inr ⟨⟨hu, hk, h.1⟩, ⟨hk, hv, h.2⟩⟩
  · rintro (⟨hu, hv, h⟩ | ⟨⟨hu, _, h1⟩, ⟨_, hv, h2⟩⟩)
    · exact ⟨hu, hv, (gp_ws_bit hu v).mpr (Or.inl h)⟩
    · exact ⟨hu, hv, (gp_ws_bit hu v).mpr (Or.inr ⟨h1, h2⟩)⟩
theorem gp_R_0 {fr to : Nat → Nat} {N M : Nat} (hN : ∀ e, fr e < N ∧ to e < N) (u v : Nat) : gp_R fr to N M 0 u v ↔ ∃ e, e < M ∧ fr e = u ∧ to e = v := by
  unfold gp_R
  constructor
  · rintro ⟨_, _, h⟩
    exact (gp_ek_bit fr to M u v).mp h
  · rintro ⟨e, he, h1, h2⟩
    exact ⟨h1 ▸ (hN e).1, h2 ▸ (hN e).2, (gp_ek_bit fr to M u v).mpr ⟨e, he, h1, h2⟩⟩
theorem gp_R_up {fr to : Nat → Nat} {N M : Nat} (hN : ∀ e, fr e < N ∧ to e < N) : ∀ k, k ≤ N → ∀ e, e < M → gp_R fr to N M k (fr e) (to e) := by
  intro k
  induction k with
  | zero => intro _ e he; exact (gp_R_0 hN _ _).mpr ⟨e, he, rfl, rfl⟩
  | succ k ih => intro hk e he; exact (gp_R_s (by omega) _ _).mpr (Or.inl (ih (by omega) e he))
theorem gp_R_tr {fr to : Nat → Nat} {N M : Nat} : ∀ k, k ≤ N → ∀ u j v, j < k → gp_R fr to N M k u j → gp_R fr to N M k j v → gp_R fr to N M k u v := by
  intro k
  induction k with
  | zero => intro _ u j v h; omega
  | succ k ih =>
    intro hk u j v hj h1 h2
    have IH := ih (by omega)
    have hkN : k < N := by omega
    rw [gp_R_s hkN] at h1 h2 ⊢
    by_cases c : j < k
    · rcases h1 with h1 | ⟨h1, h1'⟩
      · rcases h2 with h2 | ⟨h2, h2'⟩
        · exact Or.inl (IH u j v c h1 h2)
        · exact Or.inr ⟨IH u j k c h1 h2, h2'⟩
      · rcases h2 with h2 | ⟨h2, h2'⟩
        · exact Or.inr ⟨h1, IH k j v c h1' h2⟩
        · exact Or.inr ⟨h1, h2'⟩
    · have e : j = k := by omega
      subst e
      have a : gp_R fr to N M j u j := by
        rcases h1 with h1 | h1
        · exact h1
        · exact h1.1
      have b : gp_R fr to N M j j v := by
        rcases h2 with h2 | h2
        · exact h2
        · exact h2.2
      exact Or.inr ⟨a, b⟩
theorem gp_R_go {fr to : Nat → Nat} {N M : Nat} (hN : ∀ e, fr e < N ∧ to e < N) : ∀ k, k ≤ N → ∀ u v, gp_R fr to N M k u v → ∃ e, e < M ∧ fr e = u ∧ (to e = v ∨ gp_R fr to N M k (to e) v) := by
  intro k
  induction k with
  | zero =>
    intro _ u v h
    obtain ⟨e, he, h1, h2⟩ := (gp_R_0 hN u v).mp h
    exact ⟨e, he, h1, Or.inl h2⟩
  | succ k ih =>
    intro hk u v h
    have IH := ih (by omega)
    have hkN : k < N := by omega
    rcases (gp_R_s hkN u v).mp h with h | ⟨h1, h2⟩
    · obtain ⟨e, he, e1, e2⟩ := IH u v h
      refine ⟨e, he, e1, ?_⟩
      rcases e2 with e2 | e2
      · exact Or.inl e2
      · exact Or.inr ((gp_R_s hkN _ _).mpr (Or.inl e2))
    · obtain ⟨e, he, e1, e2⟩ := IH u k h1
      refine ⟨e, he, e1, Or.inr ((gp_R_s hkN _ _).mpr ?_)⟩
      rcases e2 with e2 | e2
      · rw [e2]; exact Or.inl h2
      · exact Or.inr ⟨e2, h2⟩
theorem gp_circle {fr to : Nat → Nat} {N M : Nat} (hN : ∀ e, fr e < N ∧ to e < N) : (∃ p, p < N ∧ (gp_wk fr to N M N p).testBit p = true) ↔ ∃ u, u < N ∧ N ≤ gp_lt fr to M (N + 1) u := by
  constructor
  · rintro ⟨p, hp, h⟩
    have hpp : gp_R fr to N M N p p := ⟨hp, hp, h⟩
    have tr := fun (u j v : Nat) (hj : j < N) => gp_R_tr (fr := fr) (to := to) (N := N) (M := M) N (Nat.le_refl N) u j v hj
    have trap := gp_lt_trap (fr := fr) (to := to) (M := M) (C := fun v => gp_R fr to N M N p v ∧ gp_R fr to N M N v p) (fun v hv => by
      obtain ⟨e, he, e1, e2⟩ := gp_R_go hN N (Nat.le_refl N) v p hv.2
      refine ⟨e, he, e1, ?_⟩
      have ed := gp_R_up (M := M) hN N (Nat.le_refl N) e he
      rcases e2 with e2 | e2
      · rw [e2]; exact ⟨hpp, hpp⟩
      · refine ⟨tr p v (to e) hv.2.1 hv.1 ?_, e2⟩
        rw [← e1]; exact ed) (N + 1) p ⟨hpp, hpp⟩
    exact ⟨p, hp, by omega⟩
  · rintro ⟨u, hu, h⟩
    refine Classical.byContradiction (fun n => ?_)
    have ac : ∀ p, ¬ gp_R fr to N M N p p := fun p z => n ⟨p, z.1, z.2.2⟩
    have hr : ∀ e, e < M → gp_cn (gp_R fr to N M N (to e)) N + 1 ≤ gp_cn (gp_R fr to N M N (fr e)) N := by
      intro e he
      have ed := gp_R_up (M := M) hN N (Nat.le_refl N) e he
      exact gp_cn_lt (z := to e) (hN e).2 ed (ac (to e)) (fun i _ hi => gp_R_tr N (Nat.le_refl N) (fr e) (to e) i (hN e).2 ed hi)
    have top := gp_lt_top (fr := fr) (to := to) (ρ := fun v => gp_cn (gp_R fr to N M N v) N) hr (N + 1) u
    have lt : gp_cn (gp_R fr to N M N u) N + 1 ≤ N := by
      have a := gp_cn_lt (p := gp_R fr to N M N u) (q := fun _ => True) (z := u) hu trivial (ac u) (fun _ _ _ => trivial)
      have b := gp_cn_le (fun _ => True) N
      omega
    have : gp_lt fr to M (N + 1) u ≤ gp_cn (gp_R fr to N M N u) N := top
    omega
end
section
theorem gp_or (a b : Nat) : nI a ||| nI b = nI (a ||| b) := by
  apply Int32.toBitVec_inj.1
  show BitVec.ofNat 32 a ||| BitVec.ofNat 32 b = BitVec.ofNat 32 (a ||| b)
  apply BitVec.eq_of_getLsbD_eq
  intro i hi
  simp [hi]
theorem gp_bit {k j : Nat} (hk : k < 2 ^ 31) (hj : j < 32) : (nI k >>> (nI j &&& 31)) &&& 1 = nI (k.testBit j).toNat := by
  have h2 : k / 2 ^ j ≤ k := Nat.div_le_self _ _
  rw [pk_shrN hk _ j (s_l j hj), pk_andN (n := k / 2 ^ j) (Nat.lt_of_le_of_lt h2 (by omega)) 1 (by decide)]
  exact congrArg nI (Nat.toNat_testBit k j).symm
theorem gp_bit1 {k j : Nat} (hk : k < 2 ^ 31) (hj : j < 32) : (nI k >>> (nI j &&& 31)) &&& 1 = 1 ↔ k.testBit j = true := by
  rw [gp_bit hk hj]
  cases k.testBit j
  · exact ⟨fun h => absurd h (by decide +kernel), fun h => absurd h (by decide)⟩
  · exact ⟨fun _ => rfl, fun _ => by decide +kernel⟩
theorem gp_shl {j : Nat} (hj : j < 31) : (1 : Int32) <<< (nI j &&& 31) = nI (2 ^ j) := by
  have h : 1 * 2 ^ j < 2 ^ 32 := by
    rw [Nat.one_mul]
    exact Nat.pow_lt_pow_right (by omega) (by omega)
  have e := pk_shlN (n := 1) (nI j &&& 31) j (s_l j (by omega)) h
  rw [Nat.one_mul] at e
  exact e
theorem gp_p8 {M : Nat} (h : M ≤ 8) : 1 ≤ 2 ^ M ∧ 2 ^ M ≤ 256 := by
  have h2 : 2 ^ M ≤ 2 ^ 8 := Nat.pow_le_pow_right (by omega) h
  exact ⟨Nat.one_le_two_pow, h2⟩
theorem gp_full {M : Nat} (h : M ≤ 8) : (1 : Int32) <<< (nI M &&& 31) - 1 = nI (2 ^ M - 1) := by
  rw [gp_shl (by omega)]
  exact pk_sub (b := 1) (gp_p8 h).1
def gp_sz (a : Nat) : Nat → Nat
  | 0 => 0
  | n + 1 => gp_sz a n + (a.testBit n).toNat
theorem gp_sz_le (a : Nat) : ∀ n, gp_sz a n ≤ n := by
  intro n
  induction n with
  | zero => exact Nat.le_refl 0
  | succ n ih =>
    show gp_sz a n + (a.testBit n).toNat ≤ n + 1
    have : (a.testBit n).toNat ≤ 1 := Bool.toNat_le _
    omega
theorem gp_sz_up {a M : Nat} (h : a < 2 ^ M) : ∀ d, gp_sz a (M + d) = gp_sz a M := by
  intro d
  induction d with
  | zero => rfl
  | succ d ih =>
    show gp_sz a (M + d) + (a.testBit (M + d)).toNat = gp_sz a M
    have : a.testBit (M + d) = false := Nat.testBit_lt_two_pow (Nat.lt_of_lt_of_le h (Nat.pow_le_pow_right (by omega) (by omega)))
    rw [this, ih]; rfl
theorem gp_sz_8 {a M : Nat} (hM : M ≤ 8) (h : a < 2 ^ M) : gp_sz a 8 = gp_sz a M := by
  have e := gp_sz_up h (8 - M)
  rwa [show M + (8 - M) = 8 by omega] at e
def gp_cx (a : Nat) : Nat → Int32
  | 0 => 1
  | k + 1 => gp_cx a k * (nI a - nI (k + 1) + 1) / nI (k + 1)
def gp_cy (a : Nat) : Nat → Int64
  | 0 => 1
  | k + 1 => gp_cy a k * (nI a - nI (k + 1) + 1).toInt64 / (nI (k + 1)).toInt64
theorem gp_cxy : ∀ a, a < 9 → ∀ i, i < 9 → i ≤ a → (gp_cy a i).toInt32 = gp_cx a i := by decide +kernel
def gp_sg (d : Nat) (x : Int32) : Int32 := if d % 2 = 0 then x else -x
def gp_sl (d : Nat) (x : Int64) : Int64 := if d % 2 = 0 then x else -x
def gp_ex (A r i : Nat) : Int32 := if r + i ≤ A then gp_sg (A - r - i) (gp_cx (A - r) i) else 0
theorem gp_sg2 (d c : Nat) (x y : Int32) : gp_sg (d + c) (x * y) = gp_sg d x * gp_sg c y := by
  unfold gp_sg
  by_cases h1 : d % 2 = 0 <;> by_cases h2 : c % 2 = 0
  · rw [if_pos h1, if_pos h2, if_pos (by omega)]
  · rw [if_pos h1, if_neg h2, if_neg (by omega)]; grind
  · rw [if_neg h1, if_pos h2, if_neg (by omega)]; grind
  · rw [if_neg h1, if_neg h2, if_pos (by omega)]; grind
theorem gp_sl32 (d : Nat) (x : Int64) : (gp_sl d x).toInt32 = gp_sg d x.toInt32 := by
  unfold gp_sl gp_sg
  by_cases h : d % 2 = 0
  · rw [if_pos h, if_pos h]
  · rw [if_neg h, if_neg h, Int64.toInt32_neg]
theorem gp_par (d : Nat) (h : d < 2 ^ 31) : (nI d - nI d / 2 * 2 = 0) ↔ d % 2 = 0 := by
  have e := pk_rem (a := d) (d := 2) h (by omega) (by omega)
  have e2 : nI d - nI d / 2 * 2 = nI (d % 2) := e
  rw [e2, ← nI_0, nI_eq (by omega) (by omega)]
def gp_tm (a b i j : Nat) : Int64 := gp_sl (a - i + b - j) (gp_cy a i * gp_cy b j)
def gp_pl (old : Nat → Int64) (a b i j : Nat) : Nat → Int64 := fun q => old q + (if (q / 9 < i ∧ q % 9 ≤ b) ∨ (q / 9 = i ∧ q % 9 < j) then gp_tm a b (q / 9) (q % 9) else 0)
theorem gp_pl_0 (old : Nat → Int64) (a b : Nat) : gp_pl old a b 0 0 = old := by
  funext q
  unfold gp_pl
  rw [if_neg (by omega), Int64.add_zero]
theorem gp_pl_s (old : Nat → Int64) (a b i j : Nat) (hj : j < 9) : vp_updL (gp_pl old a b i j) (9 * i + j) (gp_pl old a b i j (9 * i + j) + gp_tm a b i j) = gp_pl old a b i (j + 1) := by
  funext q
  unfold vp_updL
  by_cases c : q = 9 * i + j
  · subst c
    have e1 : (9 * i + j) / 9 = i := by omega
    have e2 : (9 * i + j) % 9 = j := by omega
    rw [if_pos rfl]
    unfold gp_pl
    rw [e1, e2, if_neg (by omega), if_pos (by omega), Int64.add_zero]
  · rw [if_neg c]
    unfold gp_pl
    by_cases d : (q / 9 < i ∧ q % 9 ≤ b) ∨ (q / 9 = i ∧ q % 9 < j)
    · rw [if_pos d, if_pos (by omega)]
    · rw [if_neg d, if_neg (by omega)]
theorem gp_pl_n (old : Nat → Int64) (a b i : Nat) : gp_pl old a b i (b + 1) = gp_pl old a b (i + 1) 0 := by
  funext q
  unfold gp_pl
  by_cases d : (q / 9 < i ∧ q % 9 ≤ b) ∨ (q / 9 = i ∧ q % 9 < b + 1)
  · rw [if_pos d, if_pos (by omega)]
  · rw [if_neg d, if_neg (by omega)]
theorem gp_tm32 {a b i j : Nat} (ha : a < 9) (hb : b < 9) (hi : i ≤ a) (hj : j ≤ b) : (gp_tm a b i j).toInt32 = gp_sg (a - i) (gp_cx a i) * gp_sg (b - j) (gp_cx b j) := by
  unfold gp_tm
  rw [gp_sl32, Int64.toInt32_mul, gp_cxy a ha i (by omega) hi, gp_cxy b hb j (by omega) hj, ← gp_sg2]
  rw [show a - i + b - j = a - i + (b - j) by omega]
theorem gp_z : (0 : Int64).toInt32 = 0 := by decide +kernel
theorem gp_pl_v {old : Nat → Int64} {A B r i j : Nat} (hA : A < 9) (hB : B < 9) (hra : r ≤ A) (hrb : r ≤ B) (hj : j < 9) : (gp_pl old (A - r) (B - r) (A - r + 1) 0 (9 * i + j)).toInt32 = (old (9 * i + j)).toInt32 + gp_ex A r i * gp_ex B r j := by
  have e1 : (9 * i + j) / 9 = i := by omega
  have e2 : (9 * i + j) % 9 = j := by omega
  unfold gp_pl gp_ex
  rw [e1, e2, Int64.toInt32_add]
  by_cases h1 : r + i ≤ A
  · by_cases h2 : r + j ≤ B
    · rw [if_pos (by omega), if_pos h1, if_pos h2, gp_tm32 (by omega) (by omega) (by omega) (by omega)]
    · rw [if_neg (by omega), if_neg h2, Int32.mul_zero, gp_z]
  · rw [if_neg (by omega), if_neg h1, Int32.zero_mul, gp_z]
def gp_dg (b c p : Nat) : Nat := c / b ^ p % b
theorem gp_dg_lt {b c p : Nat} (h : 0 < b) : gp_dg b c p < b := Nat.mod_lt _ h
theorem gp_dv (b c p : Nat) : c / b ^ (p + 1) = c / b ^ p / b := by
  rw [Nat.pow_succ, Nat.div_div_eq_div_mul]
theorem gp_pw {b n : Nat} (hb : b ≤ 6) (hn : n ≤ 8) : b ^ n < 2 ^ 31 := by
  have h1 : b ^ n ≤ 6 ^ n := Nat.pow_le_pow_left hb n
  have h2 : 6 ^ n ≤ 6 ^ 8 := Nat.pow_le_pow_right (by omega) hn
  have h3 : (6 : Nat) ^ 8 < 2 ^ 31 := by decide
  omega
end
section
def gp_sh (f : Nat → Nat) (i e : Nat) : Nat → Nat := fun j => if i ≤ j ∧ j < e then f (j + 1) else f j
theorem gp_sh_0 (f : Nat → Nat) (i : Nat) : gp_sh f i i = f := by
  funext j
  unfold gp_sh
  rw [if_neg (by omega)]
theorem gp_sh_at (f : Nat → Nat) (i e : Nat) : gp_sh f i e (e + 1) = f (e + 1) := by
  unfold gp_sh
  rw [if_neg (by omega)]
theorem gp_sh_s (f : Nat → Nat) {i e : Nat} (h : i ≤ e) : upd (fun j => nI (gp_sh f i e j)) e (nI (f (e + 1))) = fun j => nI (gp_sh f i (e + 1) j) := by
  funext j
  unfold upd gp_sh
  by_cases c : j = e
  · subst c
    rw [if_pos rfl, if_pos (by omega)]
  · rw [if_neg c]
    dsimp only
    by_cases d : i ≤ j ∧ j < e
    · rw [if_pos d, if_pos (by omega)]
    · rw [if_neg d, if_neg (by omega)]
theorem gp_sh_lt {f : Nat → Nat} {i e N : Nat} (h : ∀ j, f j < N) (j : Nat) : gp_sh f i e j < N := by
  unfold gp_sh
  by_cases c : i ≤ j ∧ j < e
  · rw [if_pos c]; exact h _
  · rw [if_neg c]; exact h _
def gq_rp (a : Nat → Int32) (old fresh : Int32) (k : Nat) : Nat → Int32 := fun j => if j < k ∧ a j = old then fresh else a j
theorem gq_rp_0 (a : Nat → Int32) (old fresh : Int32) : gq_rp a old fresh 0 = a := by
  funext j
  unfold gq_rp
  rw [if_neg (by omega)]
theorem gq_rp_at (a : Nat → Int32) (old fresh : Int32) (k : Nat) : gq_rp a old fresh k k = a k := by
  unfold gq_rp
  rw [if_neg (by omega)]
theorem gq_rp_t {a : Nat → Int32} {old fresh : Int32} {k : Nat} (h : a k = old) : upd (gq_rp a old fresh k) k fresh = gq_rp a old fresh (k + 1) := by
  funext j
  unfold upd gq_rp
  by_cases c : j = k
  · subst c
    rw [if_pos rfl, if_pos ⟨by omega, h⟩]
  · rw [if_neg c]
    by_cases d : j < k ∧ a j = old
    · rw [if_pos d, if_pos ⟨by omega, d.2⟩]
    · rw [if_neg d, if_neg (fun z => d ⟨by omega, z.2⟩)]
theorem gq_rp_f {a : Nat → Int32} {old fresh : Int32} {k : Nat} (h : ¬ a k = old) : gq_rp a old fresh k = gq_rp a old fresh (k + 1) := by
  funext j
  unfold gq_rp
  by_cases d : j < k ∧ a j = old
  · rw [if_pos d, if_pos ⟨by omega, d.2⟩]
  · have nn : ¬ (j < k + 1 ∧ a j = old) := by
      rintro ⟨z1, z2⟩
      by_cases c : j = k
      · subst c; exact h z2
      · exact d ⟨by omega, z2⟩
    rw [if_neg d, if_neg nn]
def gp_rp (f : Nat → Nat) (hi lo k : Nat) : Nat → Nat := fun j => if j < k ∧ f j = hi then lo else f j
theorem gq_rp_n {f : Nat → Nat} {N hi lo : Nat} (k : Nat) (hf : ∀ j, f j < N) (hN : N ≤ 6) (hh : hi < N) : gq_rp (fun j => nI (f j)) (nI hi) (nI lo) k = fun j => nI (gp_rp f hi lo k j) := by
  funext j
  unfold gq_rp gp_rp
  have e : nI (f j) = nI hi ↔ f j = hi := nI_eq (by have := hf j; omega) (by omega)
  by_cases c : j < k ∧ f j = hi
  · rw [if_pos c, if_pos ⟨c.1, e.mpr c.2⟩]
  · rw [if_neg c, if_neg (fun z => c ⟨z.1, e.mp z.2⟩)]
theorem gp_rp_lt {f : Nat → Nat} {N hi lo : Nat} (k : Nat) (hf : ∀ j, f j < N) (hl : lo < N) (j : Nat) : gp_rp f hi lo k j < N := by
  unfold gp_rp
  by_cases c : j < k ∧ f j = hi
  · rw [if_pos c]; exact hl
  · rw [if_neg c]; exact hf j
theorem gp_rp_0 (f : Nat → Nat) (hi lo : Nat) : gp_rp f hi lo 0 = f := by
  funext j
  unfold gp_rp
  rw [if_neg (by omega)]
theorem gp_rp_at (f : Nat → Nat) (hi lo k : Nat) : gp_rp f hi lo k k = f k := by
  unfold gp_rp
  rw [if_neg (by omega)]
theorem gp_rp_t {f : Nat → Nat} {hi lo k : Nat} (h : f k = hi) : upd (fun j => nI (gp_rp f hi lo k j)) k (nI lo) = fun j => nI (gp_rp f hi lo (k + 1) j) := by
  funext j
  unfold upd gp_rp
  by_cases c : j = k
  · subst c
    rw [if_pos rfl, if_pos ⟨by omega, h⟩]
  · rw [if_neg c]
    dsimp only
    by_cases d : j < k ∧ f j = hi
    · rw [if_pos d, if_pos ⟨by omega, d.2⟩]
    · rw [if_neg d, if_neg (fun z => d ⟨by omega, z.2⟩)]
theorem gp_rp_f {f : Nat → Nat} {hi lo k : Nat} (h : ¬ f k = hi) : gp_rp f hi lo (k + 1) = gp_rp f hi lo k := by
  funext j
  unfold gp_rp
  by_cases d : j < k ∧ f j = hi
  · rw [if_pos d, if_pos ⟨by omega, d.2⟩]
  · have nn : ¬ (j < k + 1 ∧ f j = hi) := by
      rintro ⟨z1, z2⟩
      by_cases c : j = k
      · subst c; exact h z2
      · exact d ⟨by omega, z2⟩
    rw [if_neg d, if_neg nn]
def gp_ad (f : Nat → Nat) (k x : Nat) : Nat → Nat := fun j => if j = k then x else f j
theorem gp_ad_u (f : Nat → Nat) (k x : Nat) : upd (fun j => nI (f j)) k (nI x) = fun j => nI (gp_ad f k x j) := by
  funext j
  unfold upd gp_ad
  by_cases c : j = k
  · rw [if_pos c, if_pos c]
  · rw [if_neg c, if_neg c]
theorem gp_ad_lt {f : Nat → Nat} {N k x : Nat} (hf : ∀ j, f j < N) (hx : x < N) (j : Nat) : gp_ad f k x j < N := by
  unfold gp_ad
  by_cases c : j = k
  · rw [if_pos c]; exact hx
  · rw [if_neg c]; exact hf j
theorem gp_up {a : Nat → Int32} {g : Nat → Int32} {k : Nat} (h : ∀ j, j < k → a j = g j) : ∀ j, j < k + 1 → upd a k (g k) j = g j := by
  intro j hj
  by_cases c : j = k
  · rw [c]; exact pk_us
  · rw [pk_un c]; exact h j (by omega)
def gp_rs (f s : Nat → Nat) (M a : Nat) : Nat := gp_rk f s (fun e => a.testBit e) M
theorem gp_rs_le {f s : Nat → Nat} {N : Nat} (M a : Nat) (hN : ∀ e, f e < N ∧ s e < N) : gp_rs f s M a ≤ N := by
  have h := gp_xt_cnt (A := fun e => a.testBit e) hN M
  show (gp_xt f s (fun e => a.testBit e) M).2 ≤ N
  omega
noncomputable def gp_ps (f s : Nat → Nat) (M N a : Nat) : Nat := gp_pt f s (fun e => a.testBit e) M N
theorem gp_ps_rs {f s : Nat → Nat} {N : Nat} (M a : Nat) (hN : ∀ e, f e < N ∧ s e < N) (h6 : N ≤ 6) : gp_ps f s M N a + gp_rs f s M a = N := gp_rank hN h6
def gp_cf (f s : Nat → Nat) (M i j : Nat) : Nat → Int32
  | 0 => 0
  | a + 1 => gp_cf f s M i j a + gp_ex (gp_rs f s M (2 ^ M - 1)) (gp_rs f s M a) i * gp_ex (gp_sz a 8) (gp_rs f s M a) j
def gp_sp (f s : Nat → Nat) (v : Nat → Int32) (e : Nat) (g : Nat → Int32) : Nat → Int32 := upd (upd g (f e) (g (f e) + v e)) (s e) (upd g (f e) (g (f e) + v e) (s e) - v e)
def gp_sv (f s : Nat → Nat) (v : Nat → Int32) (k : Nat) : Nat → Int32 := gp_it (gp_sp f s v) k (fun _ => 0)
theorem gp_sp_c {f s : Nat → Nat} {v g h : Nat → Int32} {e N : Nat} (hN : f e < N ∧ s e < N) (hg : ∀ p, p < N → h p = g p) : ∀ p, p < N → upd (upd h (f e) (h (f e) + v e)) (s e) (upd h (f e) (h (f e) + v e) (s e) - v e) p = gp_sp f s v e g p := by
  intro p hp
  have e1 := hg (f e) hN.1
  have e2 := hg (s e) hN.2
  have e3 := hg p hp
  unfold gp_sp upd
  by_cases c : p = s e
  · rw [if_pos c, if_pos c, e1, e2]
  · rw [if_neg c, if_neg c, e1, e3]
end
section
theorem gx_rep_firstEnd {post : SX → Prop} (N M : Int32) (a1 a2 pa co fl su re : Nat → Int32) {C : Nat} (hC : C ≤ 8) (old fresh : Int32) (h : post (N, M, gq_rp a1 old fresh C, a2, pa, co, fl, su, re)) : wpX_replace__firstEnd post (N, M, a1, a2, pa, co, fl, su, re) (nI C) old fresh := by
  refine pk_loop (σ := Nat → Int32) (fun n i t => wX_replace__firstEnd_3 post (nI C) old fresh N M n (nI i) t a2 pa co fl su re) (fun i t => t = gq_rp a1 old fresh i) C 0 a1 (Nat.zero_le _) (gq_rp_0 _ _ _).symm ?_ ?_
  · intro n t ht
    subst ht
    exact br_t (nI_le (Nat.le_refl _) (by omega)) h
  · intro n i t hi ht K
    have hc : (nI i).toNatClampNeg = i := nI_clamp (by omega)
    have hv : t i = a1 i := by rw [ht]; exact gq_rp_at _ _ _ _
    have hin : vp_in (nI i) 8 := vp_in_nI (by omega) (by omega)
    refine br_f (nI_ge hi (by omega)) ⟨hin, ?_⟩
    rw [hc]
    by_cases c : t i = old
    · refine br_t c ⟨hin, nm_r (e' := gq_rp a1 old fresh (i + 1)) ?_ (nm_r (nI_1 i) (K _ rfl))⟩
      rw [ht]
      exact gq_rp_t (hv.symm.trans c)
    · exact br_f c (nm_r (nI_1 i) (K _ (ht.trans (gq_rp_f (fun z => c (hv.trans z))))))
theorem gx_rep_secondEnd {post : SX → Prop} (N M : Int32) (a1 a2 pa co fl su re : Nat → Int32) {C : Nat} (hC : C ≤ 8) (old fresh : Int32) (h : post (N, M, a1, gq_rp a2 old fresh C, pa, co, fl, su, re)) : wpX_replace__secondEnd post (N, M, a1, a2, pa, co, fl, su, re) (nI C) old fresh := by
  refine pk_loop (σ := Nat → Int32) (fun n i t => wX_replace__secondEnd_3 post (nI C) old fresh N M n (nI i) a1 t pa co fl su re) (fun i t => t = gq_rp a2 old fresh i) C 0 a2 (Nat.zero_le _) (gq_rp_0 _ _ _).symm ?_ ?_
  · intro n t ht
    subst ht
    exact br_t (nI_le (Nat.le_refl _) (by omega)) h
  · intro n i t hi ht K
    have hc : (nI i).toNatClampNeg = i := nI_clamp (by omega)
    have hv : t i = a2 i := by rw [ht]; exact gq_rp_at _ _ _ _
    have hin : vp_in (nI i) 8 := vp_in_nI (by omega) (by omega)
    refine br_f (nI_ge hi (by omega)) ⟨hin, ?_⟩
    rw [hc]
    by_cases c : t i = old
    · refine br_t c ⟨hin, nm_r (e' := gq_rp a2 old fresh (i + 1)) ?_ (nm_r (nI_1 i) (K _ rfl))⟩
      rw [ht]
      exact gq_rp_t (hv.symm.trans c)
    · exact br_f c (nm_r (nI_1 i) (K _ (ht.trans (gq_rp_f (fun z => c (hv.trans z))))))
theorem gx_rep_partOf {post : SX → Prop} (N M : Int32) (a1 a2 pa co fl su re : Nat → Int32) {C : Nat} (hC : C ≤ 6) (old fresh : Int32) (h : post (N, M, a1, a2, gq_rp pa old fresh C, co, fl, su, re)) : wpX_replace__partOf post (N, M, a1, a2, pa, co, fl, su, re) (nI C) old fresh := by
  refine pk_loop (σ := Nat → Int32) (fun n i t => wX_replace__partOf_3 post (nI C) old fresh N M n (nI i) a1 a2 t co fl su re) (fun i t => t = gq_rp pa old fresh i) C 0 pa (Nat.zero_le _) (gq_rp_0 _ _ _).symm ?_ ?_
  · intro n t ht
    subst ht
    exact br_t (nI_le (Nat.le_refl _) (by omega)) h
  · intro n i t hi ht K
    have hc : (nI i).toNatClampNeg = i := nI_clamp (by omega)
    have hv : t i = pa i := by rw [ht]; exact gq_rp_at _ _ _ _
    have hin : vp_in (nI i) 6 := vp_in_nI (by omega) (by omega)
    refine br_f (nI_ge hi (by omega)) ⟨hin, ?_⟩
    rw [hc]
    by_cases c : t i = old
    · refine br_t c ⟨hin, nm_r (e' := gq_rp pa old fresh (i + 1)) ?_ (nm_r (nI_1 i) (K _ rfl))⟩
      rw [ht]
      exact gq_rp_t (hv.symm.trans c)
    · exact br_f c (nm_r (nI_1 i) (K _ (ht.trans (gq_rp_f (fun z => c (hv.trans z))))))
theorem gx_dig_colourOf {post : SX → Prop} (N M : Int32) (a1 a2 pa co fl su re : Nat → Int32) {b c C : Nat} (hC : C ≤ 6) (hb : 1 ≤ b ∨ C = 0) (hb6 : b ≤ 6) (hc31 : c < 2 ^ 31) (h : ∀ t : Nat → Int32, (∀ j, j < C → t j = nI (gp_dg b c j + 1)) → post (N, M, a1, a2, pa, t, fl, su, re)) : wpX_writeDigits__colourOf post (N, M, a1, a2, pa, co, fl, su, re) (nI c) (nI b) (nI C) := by
  by_cases hb1 : 1 ≤ b
  · refine br_t (nI_le hb1 (by omega)) ?_
    have q : ∃ n, wX_writeDigits__colourOf_12 post (nI b) (nI C) N M n (nI (c / b ^ 0)) (nI 0) a1 a2 pa co fl su re := by
      refine pk_loop (σ := Nat → Int32) (fun n i t => wX_writeDigits__colourOf_12 post (nI b) (nI C) N M n (nI (c / b ^ i)) (nI i) a1 a2 pa t fl su re) (fun i t => ∀ j, j < i → t j = nI (gp_dg b c j + 1)) C 0 co (Nat.zero_le _) (fun j hj => absurd hj (by omega)) (fun n t ht => br_t (nI_le (Nat.le_refl _) (by omega)) (h t ht)) ?_
      intro n i t hi ht K
      have hc : (nI i).toNatClampNeg = i := nI_clamp (by omega)
      have hin : vp_in (nI i) 6 := vp_in_nI (by omega) (by omega)
      have hd : c / b ^ i < 2 ^ 31 := Nat.lt_of_le_of_lt (Nat.div_le_self _ _) hc31
      have hz : ¬ nI b = 0 := nI_ne0 (by omega) (by omega)
      have e1 : nI (c / b ^ i) - nI (c / b ^ i) / nI b * nI b + 1 = nI (gp_dg b c i + 1) := by
        rw [pk_rem hd (by omega) (by omega), nI_1]; rfl
      have e2 : nI (c / b ^ i) / nI b = nI (c / b ^ (i + 1)) := by
        rw [pk_div hd (by omega) (by omega), gp_dv]
      refine br_f (nI_ge hi (by omega)) ⟨hz, hin, nm_r (e' := upd t i (nI (gp_dg b c i + 1))) (by rw [hc, e1]) ⟨hz, nm_r e2 (nm_r (nI_1 i) (K _ ?_))⟩⟩
      exact gp_up (g := fun j => nI (gp_dg b c j + 1)) ht
    rw [Nat.pow_zero, Nat.div_one] at q
    exact q
  · refine br_f (nI_ge (a := b) (b := 1) (by omega) (by omega)) (h _ (fun j hj => absurd hj (by omega)))
theorem gx_dig_flowOver {post : SX → Prop} (N M : Int32) (a1 a2 pa co fl su re : Nat → Int32) {b c C : Nat} (hC : C ≤ 8) (hb : 1 ≤ b ∨ C = 0) (hb6 : b ≤ 6) (hc31 : c < 2 ^ 31) (h : ∀ t : Nat → Int32, (∀ j, j < C → t j = nI (gp_dg b c j + 1)) → post (N, M, a1, a2, pa, co, t, su, re)) : wpX_writeDigits__flowOver post (N, M, a1, a2, pa, co, fl, su, re) (nI c) (nI b) (nI C) := by
  by_cases hb1 : 1 ≤ b
  · refine br_t (nI_le hb1 (by omega)) ?_
    have q : ∃ n, wX_writeDigits__flowOver_12 post (nI b) (nI C) N M n (nI (c / b ^ 0)) (nI 0) a1 a2 pa co fl su re := by
      refine pk_loop (σ := Nat → Int32) (fun n i t => wX_writeDigits__flowOver_12 post (nI b) (nI C) N M n (nI (c / b ^ i)) (nI i) a1 a2 pa co t su re) (fun i t => ∀ j, j < i → t j = nI (gp_dg b c j + 1)) C 0 fl (Nat.zero_le _) (fun j hj => absurd hj (by omega)) (fun n t ht => br_t (nI_le (Nat.le_refl _) (by omega)) (h t ht)) ?_
      intro n i t hi ht K
      have hc : (nI i).toNatClampNeg = i := nI_clamp (by omega)
      have hin : vp_in (nI i) 8 := vp_in_nI (by omega) (by omega)
      have hd : c / b ^ i < 2 ^ 31 := Nat.lt_of_le_of_lt (Nat.div_le_self _ _) hc31
      have hz : ¬ nI b = 0 := nI_ne0 (by omega) (by omega)
      have e1 : nI (c / b ^ i) - nI (c / b ^ i) / nI b * nI b + 1 = nI (gp_dg b c i + 1) := by
        rw [pk_rem hd (by omega) (by omega), nI_1]; rfl
      have e2 : nI (c / b ^ i) / nI b = nI (c / b ^ (i + 1)) := by
        rw [pk_div hd (by omega) (by omega), gp_dv]
      refine br_f (nI_ge hi (by omega)) ⟨hz, hin, nm_r (e' := upd t i (nI (gp_dg b c i + 1))) (by rw [hc, e1]) ⟨hz, nm_r e2 (nm_r (nI_1 i) (K _ ?_))⟩⟩
      exact gp_up (g := fun j => nI (gp_dg b c j + 1)) ht
    rw [Nat.pow_zero, Nat.div_one] at q
    exact q
  · refine br_f (nI_ge (a := b) (b := 1) (by omega) (by omega)) (h _ (fun j hj => absurd hj (by omega)))
def gp_ok (N M : Nat) (f s : Nat → Nat) : Prop := 1 ≤ N ∧ N ≤ 6 ∧ M ≤ 8 ∧ ∀ e, f e < N ∧ s e < N
theorem gx_takeOut {post : SX → Prop} {N m i : Nat} {f s : Nat → Nat} (pa co fl su re : Nat → Int32) (hm : m ≤ 7) (hi : i ≤ m) (h : post (nI N, nI m, (fun j => nI (gp_sh f i m j)), (fun j => nI (gp_sh s i m j)), pa, co, fl, su, re)) : wpX_takeOut post (nI N, nI (m + 1), (fun j => nI (f j)), (fun j => nI (s j)), pa, co, fl, su, re) (nI i) := by
  refine nm_r (nI_pred m) ?_
  refine pk_loop (σ := (Nat → Int32) × (Nat → Int32)) (fun n e t => wX_takeOut_12 post (nI N) (nI m) n (nI e) t.1 t.2 pa co fl su re) (fun e t => i ≤ e ∧ t = ((fun j => nI (gp_sh f i e j)), (fun j => nI (gp_sh s i e j)))) m i ((fun j => nI (f j)), (fun j => nI (s j))) hi ⟨Nat.le_refl _, by rw [gp_sh_0, gp_sh_0]⟩ ?_ ?_
  · intro n t ht
    obtain ⟨_, rfl⟩ := ht
    exact br_t (nI_le (Nat.le_refl _) (by omega)) h
  · intro n e t he ht K
    obtain ⟨hie, rfl⟩ := ht
    have hc : (nI e).toNatClampNeg = e := nI_clamp (by omega)
    have hc1 : (nI e + 1).toNatClampNeg = e + 1 := by rw [nI_1]; exact nI_clamp (by omega)
    have hin : vp_in (nI e) 8 := vp_in_nI (by omega) (by omega)
    have hin1 : vp_in (nI e + 1) 8 := by rw [nI_1]; exact vp_in_nI (by omega) (by omega)
    have g : ∀ w : Nat → Nat, upd (fun j => nI (gp_sh w i e j)) (nI e).toNatClampNeg ((fun j => nI (gp_sh w i e j)) (nI e + 1).toNatClampNeg) = fun j => nI (gp_sh w i (e + 1) j) := by
      intro w
      rw [hc, hc1]
      show upd (fun j => nI (gp_sh w i e j)) e (nI (gp_sh w i e (e + 1))) = _
      rw [gp_sh_at]
      exact gp_sh_s w hie
    exact br_f (nI_ge he (by omega)) ⟨hin1, hin, nm_r (g f) ⟨hin1, hin, nm_r (g s) (nm_r (nI_1 e) (K ((fun j => nI (gp_sh f i (e + 1) j)), (fun j => nI (gp_sh s i (e + 1) j))) ⟨by omega, rfl⟩))⟩⟩
theorem gx_size {post : Int32 → Prop} {a : Nat} (ha : a < 2 ^ 31) (h : post (nI (gp_sz a 8))) : wpX_size post (nI a) := by
  refine pk_loop (σ := Unit) (fun n i _ => wX_size_4 post (nI a) n (nI (gp_sz a i)) (nI i)) (fun _ _ => True) 8 0 () (Nat.zero_le _) trivial ?_ ?_
  · intro n _ _
    exact br_t (nI_le (a := 8) (b := 8) (Nat.le_refl _) (by omega)) h
  · intro n i _ hi _ K
    refine br_f (nI_ge (b := 8) hi (by omega)) (nm_r (e' := nI (gp_sz a (i + 1))) ?_ (nm_r (nI_1 i) (K () trivial)))
    rw [gp_bit ha (by omega), nI_add]
    rfl
theorem gx_exp {post : Int32 → Prop} {A r i : Nat} (hA : A ≤ 8) (hr : r ≤ 8) (hi : i ≤ 8) (h : post (gp_ex A r i)) : wpX_expanded post (nI A - nI r) (nI i) := by
  by_cases c : r + i ≤ A
  · have e : nI A - nI r = nI (A - r) := pk_sub (by omega)
    have h2 : post (gp_sg (A - r - i) (gp_cx (A - r) i)) := by
      have e2 : gp_ex A r i = gp_sg (A - r - i) (gp_cx (A - r) i) := if_pos c
      rw [← e2]; exact h
    rw [e]
    refine br_t (nI_le (by omega) (by omega)) ?_
    refine pk_loop (σ := Unit) (fun n j _ => wX_expanded_11 post (nI (A - r)) (nI i) n (gp_cx (A - r) j) (nI (j + 1))) (fun _ _ => True) i 0 () (Nat.zero_le _) trivial ?_ ?_
    · intro n _ _
      refine br_t (nI_lt (by omega) (by omega)) ⟨by decide, ?_⟩
      rw [pk_sub (a := A - r) (b := i) (by omega)]
      by_cases p : (A - r - i) % 2 = 0
      · refine br_t ((gp_par _ (by omega)).mpr p) ?_
        have e3 : gp_sg (A - r - i) (gp_cx (A - r) i) = gp_cx (A - r) i := if_pos p
        rw [e3] at h2; exact h2
      · refine br_f (fun z => p ((gp_par _ (by omega)).mp z)) ?_
        have e3 : gp_sg (A - r - i) (gp_cx (A - r) i) = -gp_cx (A - r) i := if_neg p
        rw [e3] at h2; exact h2
    · intro n j _ hj _ K
      exact br_f (nI_nlt (by omega) (by omega)) ⟨nI_ne0 (by omega) (by omega), nm_r (e' := gp_cx (A - r) (j + 1)) rfl (nm_r (nI_1 (j + 1)) (K () trivial))⟩
  · have e2 : gp_ex A r i = 0 := if_neg c
    rw [e2] at h
    refine br_f ?_ h
    rw [Int32.le_iff_toInt_le, pk_sub_toInt (by omega) (by omega), nI_toInt (by omega)]
    omega
theorem gx_power {post : Int32 → Prop} {b C : Nat} (hC : C ≤ 8) (h : post (nI (b ^ C))) : wpX_power post (nI b) (nI C) := by
  refine pk_loop (σ := Unit) (fun n i _ => wX_power_4 post (nI b) (nI C) n (nI (b ^ i)) (nI i)) (fun _ _ => True) C 0 () (Nat.zero_le _) trivial ?_ ?_
  · intro n _ _
    exact br_t (nI_le (Nat.le_refl _) (by omega)) h
  · intro n i _ hi _ K
    exact br_f (nI_ge hi (by omega)) (nm_r (e' := nI (b ^ (i + 1))) (by rw [pk_mul, Nat.pow_succ]) (nm_r (nI_1 i) (K () trivial)))
theorem gx_rank27 {post : Int32 → SX → Prop} {N M : Nat} {f s : Nat → Nat} (H : gp_ok N M f s) {a : Nat} (ha : a < 2 ^ 31) (pa co fl su re : Nat → Int32) (h0 : ∀ p, p < N → pa p = nI p) (hp : ∀ t : Nat → Int32, post (nI (gp_rs f s M a)) (nI N, nI M, (fun j => nI (f j)), (fun j => nI (s j)), t, co, fl, su, re)) : ∃ n, wX_rank_27 post (nI a) n 0 0 (nI N) (nI M) (fun j => nI (f j)) (fun j => nI (s j)) pa co fl su re := by
  obtain ⟨h1, h6, h8, hb⟩ := H
  refine pk_loop (σ := Nat → Int32) (fun n i t => wX_rank_27 post (nI a) n (nI (gp_xt f s (fun e => a.testBit e) i).2) (nI i) (nI N) (nI M) (fun j => nI (f j)) (fun j => nI (s j)) t co fl su re) (fun i t => ∀ p, p < N → t p = nI ((gp_xt f s (fun e => a.testBit e) i).1 p)) M 0 pa (Nat.zero_le _) h0 ?_ ?_
  · intro n t ht
    exact br_t (nI_le (Nat.le_refl _) (by omega)) (hp t)
  · intro n i t hi ht K
    have hf := (hb i).1
    have hs := (hb i).2
    have hc : (nI i).toNatClampNeg = i := nI_clamp (by omega)
    have hcf : (nI (f i)).toNatClampNeg = f i := nI_clamp (by omega)
    have hcs : (nI (s i)).toNatClampNeg = s i := nI_clamp (by omega)
    have hin : vp_in (nI i) 8 := vp_in_nI (by omega) (by omega)
    have hif : vp_in (nI (f i)) 6 := vp_in_nI (by omega) (by omega)
    have his : vp_in (nI (s i)) 6 := vp_in_nI (by omega) (by omega)
    refine br_f (nI_ge hi (by omega)) ?_
    simp only [hc, hcf, hcs]
    refine ⟨hin, hif, nm_r (ht (f i) hf) ⟨hin, his, nm_r (ht (s i) hs) ?_⟩⟩
    have lf := gp_xt_lt (A := fun e => a.testBit e) hb i (f i) hf
    have ls := gp_xt_lt (A := fun e => a.testBit e) hb i (s i) hs
    by_cases hA : a.testBit i = true
    · refine br_t ((gp_bit1 ha (by omega)).mpr hA) ?_
      by_cases hne : (gp_xt f s (fun e => a.testBit e) i).1 (f i) = (gp_xt f s (fun e => a.testBit e) i).1 (s i)
      · have e : gp_xt f s (fun e => a.testBit e) (i + 1) = (gp_xt f s (fun e => a.testBit e) i) := gp_xs_f (fun z => z.2 hne)
        have k := K t (by rw [e]; exact ht)
        simp only [e] at k
        exact br_t (by rw [hne]) (nm_r (nI_1 i) k)
      · have e : gp_xt f s (fun e => a.testBit e) (i + 1) = (gp_jn (gp_xt f s (fun e => a.testBit e) i).1 ((gp_xt f s (fun e => a.testBit e) i).1 (f i)) ((gp_xt f s (fun e => a.testBit e) i).1 (s i)), (gp_xt f s (fun e => a.testBit e) i).2 + 1) := gp_xs_t ⟨hA, hne⟩
        refine br_f (fun z => hne ((nI_eq (by omega) (by omega)).mp z)) ?_
        refine gx_rep_partOf _ _ _ _ _ _ _ _ _ h6 _ _ ?_
        refine nm_r (nI_1 _) (nm_r (nI_1 i) ?_)
        have k := K (gq_rp t (nI ((gp_xt f s (fun e => a.testBit e) i).1 (s i))) (nI ((gp_xt f s (fun e => a.testBit e) i).1 (f i))) N) (by
          intro p hp2
          rw [e]
          have lp := gp_xt_lt (A := fun e => a.testBit e) hb i p hp2
          have eq := ht p hp2
          show (if p < N ∧ t p = nI ((gp_xt f s (fun e => a.testBit e) i).1 (s i)) then nI ((gp_xt f s (fun e => a.testBit e) i).1 (f i)) else t p) = nI (if (gp_xt f s (fun e => a.testBit e) i).1 p = (gp_xt f s (fun e => a.testBit e) i).1 (s i) then (gp_xt f s (fun e => a.testBit e) i).1 (f i) else (gp_xt f s (fun e => a.testBit e) i).1 p)
          by_cases d : (gp_xt f s (fun e => a.testBit e) i).1 p = (gp_xt f s (fun e => a.testBit e) i).1 (s i)
          · rw [if_pos d, if_pos ⟨hp2, by rw [eq, d]⟩]
          · rw [if_neg d, if_neg (fun z => d ((nI_eq (by omega) (by omega)).mp (eq.symm.trans z.2))), eq])
        simp only [e] at k
        exact k
    · have e : gp_xt f s (fun e => a.testBit e) (i + 1) = (gp_xt f s (fun e => a.testBit e) i) := gp_xs_f (fun z => hA z.1)
      have k := K t (by rw [e]; exact ht)
      simp only [e] at k
      exact br_f (fun z => hA ((gp_bit1 ha (by omega)).mp z)) (nm_r (nI_1 i) k)
theorem gx_rank {post : Int32 → SX → Prop} {N M : Nat} {f s : Nat → Nat} (H : gp_ok N M f s) {a : Nat} (ha : a < 2 ^ 31) (pa co fl su re : Nat → Int32) (hp : ∀ t : Nat → Int32, post (nI (gp_rs f s M a)) (nI N, nI M, (fun j => nI (f j)), (fun j => nI (s j)), t, co, fl, su, re)) : wpX_rank post (nI N, nI M, (fun j => nI (f j)), (fun j => nI (s j)), pa, co, fl, su, re) (nI a) := by
  have HH := H
  obtain ⟨h1, h6, h8, hb⟩ := HH
  refine pk_loop (σ := Nat → Int32) (fun n i t => wX_rank_2 post (nI a) (nI N) (nI M) n (nI i) (fun j => nI (f j)) (fun j => nI (s j)) t co fl su re) (fun i t => ∀ p, p < i → t p = nI p) N 0 pa (Nat.zero_le _) (fun p hp => absurd hp (by omega)) ?_ ?_
  · intro n t ht
    exact br_t (nI_le (Nat.le_refl _) (by omega)) (gx_rank27 H ha t co fl su re ht hp)
  · intro n i t hi ht K
    have hc : (nI i).toNatClampNeg = i := nI_clamp (by omega)
    exact br_f (nI_ge hi (by omega)) ⟨vp_in_nI (by omega) (by omega), nm_r (e' := upd t i (nI i)) (by rw [hc]) (nm_r (nI_1 i) (K _ (gp_up (g := fun j => nI j) ht)))⟩
theorem gx_full {post : Int32 → SX → Prop} {N M : Nat} {f s : Nat → Nat} (H : gp_ok N M f s) (pa co fl su re : Nat → Int32) (hp : ∀ t : Nat → Int32, post (nI (gp_rs f s M (2 ^ M - 1))) (nI N, nI M, (fun j => nI (f j)), (fun j => nI (s j)), t, co, fl, su, re)) : wpX_fullRank post (nI N, nI M, (fun j => nI (f j)), (fun j => nI (s j)), pa, co, fl, su, re) := by
  have h8 := gp_p8 H.2.2.1
  unfold wpX_fullRank
  dsimp only
  rw [gp_full H.2.2.1]
  exact gx_rank H (by omega) pa co fl su re hp
end
section
theorem gx_cd {post : Int32 → Prop} {N M : Nat} {f s : Nat → Nat} (H : gp_ok N M f s) (pa co fl su re : Nat → Int32) (y1 : (∀ e, e < M → ¬ co (f e) = co (s e)) → post 1) (y0 : ¬ (∀ e, e < M → ¬ co (f e) = co (s e)) → post 0) : wpX_coloursDiffer post (nI N, nI M, (fun j => nI (f j)), (fun j => nI (s j)), pa, co, fl, su, re) := by
  obtain ⟨h1, h6, h8, hb⟩ := H
  refine pk_loop (σ := Unit) (fun n i _ => wX_coloursDiffer_2 post (nI N) (nI M) (fun j => nI (f j)) (fun j => nI (s j)) pa co fl su re n (nI i)) (fun i _ => ∀ e, e < i → ¬ co (f e) = co (s e)) M 0 () (Nat.zero_le _) (fun e he => absurd he (by omega)) ?_ ?_
  · intro n _ ht
    exact br_t (nI_le (Nat.le_refl _) (by omega)) (y1 ht)
  · intro n i _ hi ht K
    have hf := (hb i).1
    have hs := (hb i).2
    have hc : (nI i).toNatClampNeg = i := nI_clamp (by omega)
    have hcf : (nI (f i)).toNatClampNeg = f i := nI_clamp (by omega)
    have hcs : (nI (s i)).toNatClampNeg = s i := nI_clamp (by omega)
    have hin : vp_in (nI i) 8 := vp_in_nI (by omega) (by omega)
    have hif : vp_in (nI (f i)) 6 := vp_in_nI (by omega) (by omega)
    have his : vp_in (nI (s i)) 6 := vp_in_nI (by omega) (by omega)
    refine br_f (nI_ge hi (by omega)) ?_
    simp only [hc, hcf, hcs]
    refine ⟨hin, hif, hin, his, ?_⟩
    by_cases c : co (f i) = co (s i)
    · exact br_t c (y0 (fun z => z i hi c))
    · exact br_f c (nm_r (nI_1 i) (K () (lt_s ht c)))
theorem gx_fb81 {post : Int32 → SX → Prop} {N M : Nat} {f s : Nat → Nat} (H : gp_ok N M f s) {w : Nat → Int32} {k : Nat} (hk : 1 ≤ k ∧ k ≤ 6) (pa co fl su re : Nat → Int32) (hu : ∀ p, p < N → su p = gp_sv f s w M p) (y1 : (∀ p, p < N → gp_sv f s w M p - gp_sv f s w M p / nI k * nI k = 0) → post 1 (nI N, nI M, (fun j => nI (f j)), (fun j => nI (s j)), pa, co, fl, su, re)) (y0 : ¬ (∀ p, p < N → gp_sv f s w M p - gp_sv f s w M p / nI k * nI k = 0) → post 0 (nI N, nI M, (fun j => nI (f j)), (fun j => nI (s j)), pa, co, fl, su, re)) : ∃ n, wX_flowBalances_81 post (nI k) (nI N) (nI M) (fun j => nI (f j)) (fun j => nI (s j)) pa co fl su re n 0 := by
  obtain ⟨h1, h6, h8, hb⟩ := H
  refine pk_loop (σ := Unit) (fun n i _ => wX_flowBalances_81 post (nI k) (nI N) (nI M) (fun j => nI (f j)) (fun j => nI (s j)) pa co fl su re n (nI i)) (fun i _ => ∀ p, p < i → gp_sv f s w M p - gp_sv f s w M p / nI k * nI k = 0) N 0 () (Nat.zero_le _) (fun e he => absurd he (by omega)) ?_ ?_
  · intro n _ ht
    exact br_t (nI_le (Nat.le_refl _) (by omega)) (y1 ht)
  · intro n i _ hi ht K
    have hc : (nI i).toNatClampNeg = i := nI_clamp (by omega)
    have hin : vp_in (nI i) 6 := vp_in_nI (by omega) (by omega)
    refine br_f (nI_ge hi (by omega)) ⟨hin, nI_ne0 (by omega) (by omega), ?_⟩
    rw [hc, hu i hi]
    by_cases c : gp_sv f s w M i - gp_sv f s w M i / nI k * nI k = 0
    · exact br_t c (nm_r (nI_1 i) (K () (lt_s ht c)))
    · exact br_f c (y0 (fun z => c (z i hi)))
theorem gx_fb25 {post : Int32 → SX → Prop} {N M : Nat} {f s : Nat → Nat} (H : gp_ok N M f s) {w : Nat → Int32} {k : Nat} (hk : 1 ≤ k ∧ k ≤ 6) (pa co fl su re : Nat → Int32) (hw : ∀ e, e < M → fl e = w e) (h0 : ∀ p, p < N → su p = 0) (y1 : (∀ p, p < N → gp_sv f s w M p - gp_sv f s w M p / nI k * nI k = 0) → ∀ t : Nat → Int32, post 1 (nI N, nI M, (fun j => nI (f j)), (fun j => nI (s j)), pa, co, fl, t, re)) (y0 : ¬ (∀ p, p < N → gp_sv f s w M p - gp_sv f s w M p / nI k * nI k = 0) → ∀ t : Nat → Int32, post 0 (nI N, nI M, (fun j => nI (f j)), (fun j => nI (s j)), pa, co, fl, t, re)) : ∃ n, wX_flowBalances_25 post (nI k) (nI N) (nI M) n 0 (fun j => nI (f j)) (fun j => nI (s j)) pa co fl su re := by
  have HH := H
  obtain ⟨h1, h6, h8, hb⟩ := HH
  refine pk_loop (σ := Nat → Int32) (fun n i t => wX_flowBalances_25 post (nI k) (nI N) (nI M) n (nI i) (fun j => nI (f j)) (fun j => nI (s j)) pa co fl t re) (fun i t => ∀ p, p < N → t p = gp_sv f s w i p) M 0 su (Nat.zero_le _) h0 ?_ ?_
  · intro n t ht
    exact br_t (nI_le (Nat.le_refl _) (by omega)) (gx_fb81 H hk pa co fl t re ht (fun z => y1 z t) (fun z => y0 z t))
  · intro n i t hi ht K
    have hf := (hb i).1
    have hs := (hb i).2
    have hc : (nI i).toNatClampNeg = i := nI_clamp (by omega)
    have hcf : (nI (f i)).toNatClampNeg = f i := nI_clamp (by omega)
    have hcs : (nI (s i)).toNatClampNeg = s i := nI_clamp (by omega)
    have hin : vp_in (nI i) 8 := vp_in_nI (by omega) (by omega)
    have hif : vp_in (nI (f i)) 6 := vp_in_nI (by omega) (by omega)
    have his : vp_in (nI (s i)) 6 := vp_in_nI (by omega) (by omega)
    refine br_f (nI_ge hi (by omega)) ?_
    simp only [hc, hcf, hcs, hw i hi]
    refine ⟨hin, hif, hin, hif, nm_e ⟨hin, his, hin, his, nm_e (nm_r (nI_1 i) (K _ ?_))⟩⟩
    exact gp_sp_c (hb i) ht
theorem gx_fb {post : Int32 → SX → Prop} {N M : Nat} {f s : Nat → Nat} (H : gp_ok N M f s) {w : Nat → Int32} {k : Nat} (hk : 1 ≤ k ∧ k ≤ 6) (pa co fl su re : Nat → Int32) (hw : ∀ e, e < M → fl e = w e) (y1 : (∀ p, p < N → gp_sv f s w M p - gp_sv f s w M p / nI k * nI k = 0) → ∀ t : Nat → Int32, post 1 (nI N, nI M, (fun j => nI (f j)), (fun j => nI (s j)), pa, co, fl, t, re)) (y0 : ¬ (∀ p, p < N → gp_sv f s w M p - gp_sv f s w M p / nI k * nI k = 0) → ∀ t : Nat → Int32, post 0 (nI N, nI M, (fun j => nI (f j)), (fun j => nI (s j)), pa, co, fl, t, re)) : wpX_flowBalances post (nI N, nI M, (fun j => nI (f j)), (fun j => nI (s j)), pa, co, fl, su, re) (nI k) := by
  have HH := H
  obtain ⟨h1, h6, h8, hb⟩ := HH
  refine pk_loop (σ := Nat → Int32) (fun n i t => wX_flowBalances_2 post (nI k) (nI N) (nI M) n (nI i) (fun j => nI (f j)) (fun j => nI (s j)) pa co fl t re) (fun i t => ∀ p, p < i → t p = 0) N 0 su (Nat.zero_le _) (fun p hp => absurd hp (by omega)) ?_ ?_
  · intro n t ht
    exact br_t (nI_le (Nat.le_refl _) (by omega)) (gx_fb25 H hk pa co fl t re hw ht y1 y0)
  · intro n i t hi ht K
    have hc : (nI i).toNatClampNeg = i := nI_clamp (by omega)
    exact br_f (nI_ge hi (by omega)) ⟨vp_in_nI (by omega) (by omega), nm_r (e' := upd t i 0) (by rw [hc]) (nm_r (nI_1 i) (K _ (gp_up (g := fun _ => 0) ht)))⟩
def gp_fr (f s : Nat → Nat) (a e : Nat) : Nat := if a.testBit e = true then s e else f e
def gp_to (f s : Nat → Nat) (a e : Nat) : Nat := if a.testBit e = true then f e else s e
theorem gp_ft {f s : Nat → Nat} {N : Nat} (a : Nat) (hb : ∀ e, f e < N ∧ s e < N) (e : Nat) : gp_fr f s a e < N ∧ gp_to f s a e < N := by
  unfold gp_fr gp_to
  by_cases c : a.testBit e = true
  · rw [if_pos c, if_pos c]; exact ⟨(hb e).2, (hb e).1⟩
  · rw [if_neg c, if_neg c]; exact hb e
theorem gx_hc173 {post : Int32 → SX → Prop} {N M : Nat} {f s : Nat → Nat} (H : gp_ok N M f s) {a : Nat} (pa co fl su re : Nat → Int32) (hr : ∀ p, p < N → re p = nI (gp_wk (gp_fr f s a) (gp_to f s a) N M N p)) (y1 : (∃ p, p < N ∧ (gp_wk (gp_fr f s a) (gp_to f s a) N M N p).testBit p = true) → post 1 (nI N, nI M, (fun j => nI (f j)), (fun j => nI (s j)), pa, co, fl, su, re)) (y0 : ¬ (∃ p, p < N ∧ (gp_wk (gp_fr f s a) (gp_to f s a) N M N p).testBit p = true) → post 0 (nI N, nI M, (fun j => nI (f j)), (fun j => nI (s j)), pa, co, fl, su, re)) : ∃ n, wX_hasCircle_173 post (nI N) (nI M) (fun j => nI (f j)) (fun j => nI (s j)) pa co fl su re n 0 := by
  obtain ⟨h1, h6, h8, hb⟩ := H
  have lt := fun k p => gp_wk_lt (fr := (gp_fr f s a)) (to := (gp_to f s a)) (N := N) (M := M) (fun e => Nat.lt_of_lt_of_le (gp_ft a hb e).2 h6) k p
  refine pk_loop (σ := Unit) (fun n i _ => wX_hasCircle_173 post (nI N) (nI M) (fun j => nI (f j)) (fun j => nI (s j)) pa co fl su re n (nI i)) (fun i _ => ∀ p, p < i → ¬ (gp_wk (gp_fr f s a) (gp_to f s a) N M N p).testBit p = true) N 0 () (Nat.zero_le _) (fun e he => absurd he (by omega)) ?_ ?_
  · intro n _ ht
    exact br_t (nI_le (Nat.le_refl _) (by omega)) (y0 (fun ⟨p, hp, z⟩ => ht p hp z))
  · intro n i _ hi ht K
    have hc : (nI i).toNatClampNeg = i := nI_clamp (by omega)
    have hin : vp_in (nI i) 6 := vp_in_nI (by omega) (by omega)
    have l := lt N i
    have bt := gp_bit1 (k := gp_wk (gp_fr f s a) (gp_to f s a) N M N i) (j := i) (by omega) (by omega)
    refine br_f (nI_ge hi (by omega)) ⟨hin, ?_⟩
    rw [hc, hr i hi]
    by_cases c : (gp_wk (gp_fr f s a) (gp_to f s a) N M N i).testBit i = true
    · exact br_t (bt.mpr c) (y1 ⟨i, hi, c⟩)
    · exact br_f (fun z => c (bt.mp z)) (nm_r (nI_1 i) (K () (lt_s ht c)))
theorem gx_hc122 {post : Int32 → SX → Prop} {J : Int32 → (Nat → Int32) → (Nat → Int32) → (Nat → Int32) → (Nat → Int32) → (Nat → Int32) → (Nat → Int32) → (Nat → Int32) → Prop} {N M : Nat} {f s : Nat → Nat} (H : gp_ok N M f s) {k : Nat} (hk : k < N) {r : Nat → Nat} (lr : ∀ p, r p < 2 ^ 6) (pa co fl su re : Nat → Int32) (hr : ∀ p, p < N → re p = nI (r p)) (y : ∀ t : Nat → Int32, (∀ p, p < N → t p = nI (gp_ws N k r p)) → J (nI (k + 1)) (fun j => nI (f j)) (fun j => nI (s j)) pa co fl su t) : ∃ n, wX_hasCircle_122 post J (nI k) (nI N) (nI M) n 0 (fun j => nI (f j)) (fun j => nI (s j)) pa co fl su re := by
  obtain ⟨h1, h6, h8, hb⟩ := H
  refine pk_loop (σ := Nat → Int32) (fun n i t => wX_hasCircle_122 post J (nI k) (nI N) (nI M) n (nI i) (fun j => nI (f j)) (fun j => nI (s j)) pa co fl su t) (fun i t => ∀ p, p < N → t p = nI (gp_wi k r i p)) N 0 re (Nat.zero_le _) (fun p hp => by
    rw [hr p hp]
    show nI (r p) = nI (if p < 0 ∧ (r p).testBit k = true then r p ||| r k else r p)
    rw [if_neg (by omega)]) ?_ ?_
  · intro n t ht
    exact br_t (nI_le (Nat.le_refl _) (by omega)) (nm_r (nI_1 k) (y t ht))
  · intro n i t hi ht K
    have hc : (nI i).toNatClampNeg = i := nI_clamp (by omega)
    have hck : (nI k).toNatClampNeg = k := nI_clamp (by omega)
    have hin : vp_in (nI i) 6 := vp_in_nI (by omega) (by omega)
    have hik : vp_in (nI k) 6 := vp_in_nI (by omega) (by omega)
    have ti : t i = nI (r i) := by
      rw [ht i hi]
      show nI (if i < i ∧ (r i).testBit k = true then r i ||| r k else r i) = nI (r i)
      rw [if_neg (by omega)]
    have tk : t k = nI (r k) := by
      rw [ht k hk]
      show nI (if k < i ∧ (r k).testBit k = true then r k ||| r k else r k) = nI (r k)
      by_cases c : k < i ∧ (r k).testBit k = true
      · rw [if_pos c, Nat.or_self]
      · rw [if_neg c]
    have l := lr i
    have bt := gp_bit1 (k := r i) (j := k) (by omega) (by omega)
    refine br_f (nI_ge hi (by omega)) ?_
    simp only [hc, hck, ti, tk]
    refine ⟨hin, ?_⟩
    by_cases c : (r i).testBit k = true
    · refine br_t (bt.mpr c) ⟨hin, hik, hin, nm_e (nm_r (nI_1 i) (K _ ?_))⟩
      intro p hp
      rw [gp_or]
      show (if p = i then nI (r i ||| r k) else t p) = nI (if p < i + 1 ∧ (r p).testBit k = true then r p ||| r k else r p)
      by_cases d : p = i
      · subst d
        rw [if_pos rfl, if_pos ⟨by omega, c⟩]
      · rw [if_neg d, ht p hp]
        show nI (if p < i ∧ (r p).testBit k = true then r p ||| r k else r p) = _
        by_cases g : p < i ∧ (r p).testBit k = true
        · rw [if_pos g, if_pos ⟨by omega, g.2⟩]
        · rw [if_neg g, if_neg (fun z => g ⟨by omega, z.2⟩)]
    · refine br_f (fun z => c (bt.mp z)) (nm_r (nI_1 i) (K _ ?_))
      intro p hp
      rw [ht p hp]
      show nI (if p < i ∧ (r p).testBit k = true then r p ||| r k else r p) = nI (if p < i + 1 ∧ (r p).testBit k = true then r p ||| r k else r p)
      by_cases g : p < i ∧ (r p).testBit k = true
      · rw [if_pos g, if_pos ⟨by omega, g.2⟩]
      · have nn : ¬ (p < i + 1 ∧ (r p).testBit k = true) := by
          rintro ⟨z1, z2⟩
          by_cases d : p = i
          · subst d; exact c z2
          · exact g ⟨by omega, z2⟩
        rw [if_neg g, if_neg nn]
theorem gx_hc112 {post : Int32 → SX → Prop} {N M : Nat} {f s : Nat → Nat} (H : gp_ok N M f s) {a : Nat} (pa co fl su re : Nat → Int32) (hr : ∀ p, p < N → re p = nI (gp_wk (gp_fr f s a) (gp_to f s a) N M 0 p)) (y1 : (∃ p, p < N ∧ (gp_wk (gp_fr f s a) (gp_to f s a) N M N p).testBit p = true) → ∀ t : Nat → Int32, post 1 (nI N, nI M, (fun j => nI (f j)), (fun j => nI (s j)), pa, co, fl, su, t)) (y0 : ¬ (∃ p, p < N ∧ (gp_wk (gp_fr f s a) (gp_to f s a) N M N p).testBit p = true) → ∀ t : Nat → Int32, post 0 (nI N, nI M, (fun j => nI (f j)), (fun j => nI (s j)), pa, co, fl, su, t)) : ∃ n, wX_hasCircle_112 post (nI N) (nI M) n 0 (fun j => nI (f j)) (fun j => nI (s j)) pa co fl su re := by
  have HH := H
  obtain ⟨h1, h6, h8, hb⟩ := HH
  refine pk_loop (σ := Nat → Int32) (fun n i t => wX_hasCircle_112 post (nI N) (nI M) n (nI i) (fun j => nI (f j)) (fun j => nI (s j)) pa co fl su t) (fun i t => ∀ p, p < N → t p = nI (gp_wk (gp_fr f s a) (gp_to f s a) N M i p)) N 0 re (Nat.zero_le _) hr ?_ ?_
  · intro n t ht
    exact br_t (nI_le (Nat.le_refl _) (by omega)) (gx_hc173 (a := a) H pa co fl su t ht (fun z => y1 z t) (fun z => y0 z t))
  · intro n i t hi ht K
    have lt := gp_wk_lt (fr := (gp_fr f s a)) (to := (gp_to f s a)) (N := N) (M := M) (fun e => Nat.lt_of_lt_of_le (gp_ft a hb e).2 h6) i
    exact br_f (nI_ge hi (by omega)) (gx_hc122 H hi lt pa co fl su t ht K)
theorem gx_hc25 {post : Int32 → SX → Prop} {N M : Nat} {f s : Nat → Nat} (H : gp_ok N M f s) {a : Nat} (ha : a < 2 ^ 31) (pa co fl su re : Nat → Int32) (hr : ∀ p, p < N → re p = 0) (y1 : (∃ p, p < N ∧ (gp_wk (gp_fr f s a) (gp_to f s a) N M N p).testBit p = true) → ∀ t : Nat → Int32, post 1 (nI N, nI M, (fun j => nI (f j)), (fun j => nI (s j)), pa, co, fl, su, t)) (y0 : ¬ (∃ p, p < N ∧ (gp_wk (gp_fr f s a) (gp_to f s a) N M N p).testBit p = true) → ∀ t : Nat → Int32, post 0 (nI N, nI M, (fun j => nI (f j)), (fun j => nI (s j)), pa, co, fl, su, t)) : ∃ n, wX_hasCircle_25 post (nI a) (nI N) (nI M) n 0 (fun j => nI (f j)) (fun j => nI (s j)) pa co fl su re := by
  have HH := H
  obtain ⟨h1, h6, h8, hb⟩ := HH
  refine pk_loop (σ := Nat → Int32) (fun n i t => wX_hasCircle_25 post (nI a) (nI N) (nI M) n (nI i) (fun j => nI (f j)) (fun j => nI (s j)) pa co fl su t) (fun i t => ∀ p, p < N → t p = nI (gp_ek (gp_fr f s a) (gp_to f s a) i p)) M 0 re (Nat.zero_le _) hr ?_ ?_
  · intro n t ht
    exact br_t (nI_le (Nat.le_refl _) (by omega)) (gx_hc112 H pa co fl su t ht y1 y0)
  · intro n i t hi ht K
    have hf := (hb i).1
    have hs := (hb i).2
    have hc : (nI i).toNatClampNeg = i := nI_clamp (by omega)
    have hcf : (nI (f i)).toNatClampNeg = f i := nI_clamp (by omega)
    have hcs : (nI (s i)).toNatClampNeg = s i := nI_clamp (by omega)
    have hin : vp_in (nI i) 8 := vp_in_nI (by omega) (by omega)
    have hif : vp_in (nI (f i)) 6 := vp_in_nI (by omega) (by omega)
    have his : vp_in (nI (s i)) 6 := vp_in_nI (by omega) (by omega)
    have bt := gp_bit1 (k := a) (j := i) ha (by omega)
    have fin : ∀ q r : Nat, q = gp_fr f s a i → r = gp_to f s a i → wX_hasCircle_88 post (wX_hasCircle_25 post (nI a) (nI N) (nI M) n) (nI a) (nI i) (nI q) (nI r) (nI N) (nI M) (fun j => nI (f j)) (fun j => nI (s j)) pa co fl su t := by
      intro q r hq hr2
      have lq : q < N := hq ▸ (gp_ft a hb i).1
      have lr : r < N := hr2 ▸ (gp_ft a hb i).2
      have hcq : (nI q).toNatClampNeg = q := nI_clamp (by omega)
      have hiq : vp_in (nI q) 6 := vp_in_nI (by omega) (by omega)
      refine ⟨hiq, hiq, nm_r (e' := upd t q (nI (gp_ek (gp_fr f s a) (gp_to f s a) i q ||| 2 ^ r))) ?_ (nm_r (nI_1 i) (K _ ?_))⟩
      · rw [hcq, ht q lq, gp_shl (by omega), gp_or]
      · intro p hp
        show (if p = q then nI (gp_ek (gp_fr f s a) (gp_to f s a) i q ||| 2 ^ r) else t p) = nI (if p = gp_fr f s a i then gp_ek (gp_fr f s a) (gp_to f s a) i p ||| 2 ^ (gp_to f s a i) else gp_ek (gp_fr f s a) (gp_to f s a) i p)
        rw [← hq, ← hr2]
        by_cases d : p = q
        · rw [if_pos d, if_pos d, d]
        · rw [if_neg d, if_neg d, ht p hp]
    refine br_f (nI_ge hi (by omega)) ?_
    by_cases c : a.testBit i = true
    · refine br_t (bt.mpr c) (br_f (by decide) ⟨hin, br_f (by decide) ⟨hin, ?_⟩⟩)
      rw [hc]
      exact fin (s i) (f i) (if_pos c).symm (if_pos c).symm
    · refine br_f (fun z => c (bt.mp z)) (br_t rfl ⟨hin, br_t rfl ⟨hin, ?_⟩⟩)
      rw [hc]
      exact fin (f i) (s i) (if_neg c).symm (if_neg c).symm
theorem gx_hc {post : Int32 → SX → Prop} {N M : Nat} {f s : Nat → Nat} (H : gp_ok N M f s) {a : Nat} (ha : a < 2 ^ 31) (pa co fl su re : Nat → Int32) (y1 : (∃ p, p < N ∧ (gp_wk (gp_fr f s a) (gp_to f s a) N M N p).testBit p = true) → ∀ t : Nat → Int32, post 1 (nI N, nI M, (fun j => nI (f j)), (fun j => nI (s j)), pa, co, fl, su, t)) (y0 : ¬ (∃ p, p < N ∧ (gp_wk (gp_fr f s a) (gp_to f s a) N M N p).testBit p = true) → ∀ t : Nat → Int32, post 0 (nI N, nI M, (fun j => nI (f j)), (fun j => nI (s j)), pa, co, fl, su, t)) : wpX_hasCircle post (nI N, nI M, (fun j => nI (f j)), (fun j => nI (s j)), pa, co, fl, su, re) (nI a) := by
  have HH := H
  obtain ⟨h1, h6, h8, hb⟩ := HH
  refine pk_loop (σ := Nat → Int32) (fun n i t => wX_hasCircle_2 post (nI a) (nI N) (nI M) n (nI i) (fun j => nI (f j)) (fun j => nI (s j)) pa co fl su t) (fun i t => ∀ p, p < i → t p = 0) N 0 re (Nat.zero_le _) (fun p hp => absurd hp (by omega)) ?_ ?_
  · intro n t ht
    exact br_t (nI_le (Nat.le_refl _) (by omega)) (gx_hc25 H ha pa co fl su t ht y1 y0)
  · intro n i t hi ht K
    have hc : (nI i).toNatClampNeg = i := nI_clamp (by omega)
    exact br_f (nI_ge hi (by omega)) ⟨vp_in_nI (by omega) (by omega), nm_r (e' := upd t i 0) (by rw [hc]) (nm_r (nI_1 i) (K _ (gp_up (g := fun _ => 0) ht)))⟩
end
section
def gp_qt (f s : Nat → Nat) (M a : Nat) : Prop := gp_rs f s M a = gp_rs f s M (2 ^ M - 1) ∧ gp_sz a 8 = gp_rs f s M a
def gp_qf (f s : Nat → Nat) (M a : Nat) : Prop := gp_sz a 8 = gp_rs f s M a
def gp_qs (f s : Nat → Nat) (M a : Nat) : Prop := gp_rs f s M a = gp_rs f s M (2 ^ M - 1)
def gp_qc (f s : Nat → Nat) (M k c : Nat) : Prop := ∀ e, e < M → ¬ gp_dg k c (f e) = gp_dg k c (s e)
def gp_wv (b c : Nat) : Nat → Int32 := fun e => nI (gp_dg b c e + 1)
def gp_ql (f s : Nat → Nat) (N M b c : Nat) : Prop := ∀ p, p < N → gp_sv f s (gp_wv b c) M p - gp_sv f s (gp_wv b c) M p / nI (b + 1) * nI (b + 1) = 0
def gp_qa (f s : Nat → Nat) (N M a : Nat) : Prop := ∃ p, p < N ∧ (gp_wk (gp_fr f s a) (gp_to f s a) N M N p).testBit p = true
def gp_qn (f s : Nat → Nat) (N M a : Nat) : Prop := ¬ gp_qa f s N M a
theorem gx_parts {post : Int32 → SX → Prop} {N M : Nat} {f s : Nat → Nat} (H : gp_ok N M f s) (pa co fl su re : Nat → Int32) (hp : ∀ t : Nat → Int32, post (nI (gp_ps f s M N (2 ^ M - 1))) (nI N, nI M, (fun j => nI (f j)), (fun j => nI (s j)), t, co, fl, su, re)) : wpX_parts post (nI N, nI M, (fun j => nI (f j)), (fun j => nI (s j)), pa, co, fl, su, re) := by
  have HH := H
  obtain ⟨h1, h6, h8, hb⟩ := HH
  have h2 := gp_p8 h8
  have e := gp_ps_rs M (2 ^ M - 1) hb h6
  unfold wpX_parts
  dsimp only
  refine gx_full H pa co fl su re (fun t => ?_)
  have e2 : nI N - nI (gp_rs f s M (2 ^ M - 1)) = nI (gp_ps f s M N (2 ^ M - 1)) := by
    rw [pk_sub (by omega)]
    exact congrArg nI (by omega)
  dsimp only
  rw [e2]
  exact hp t
theorem gx_trees17 {post : Int32 → SX → Prop} {N M : Nat} {f s : Nat → Nat} (H : gp_ok N M f s) (pa co fl su re : Nat → Int32) (hp : ∀ t : Nat → Int32, post (nI (gp_cn (gp_qt f s M) (2 ^ M))) (nI N, nI M, (fun j => nI (f j)), (fun j => nI (s j)), t, co, fl, su, re)) : ∃ n, wX_trees_17 post (nI (gp_rs f s M (2 ^ M - 1))) (nI (2 ^ M)) n 0 0 (nI N) (nI M) (fun j => nI (f j)) (fun j => nI (s j)) pa co fl su re := by
  have HH := H
  obtain ⟨h1, h6, h8, hb⟩ := HH
  have h2 := gp_p8 h8
  refine pk_loop (σ := Nat → Int32) (fun n i t => wX_trees_17 post (nI (gp_rs f s M (2 ^ M - 1))) (nI (2 ^ M)) n (nI (gp_cn (gp_qt f s M) i)) (nI i) (nI N) (nI M) (fun j => nI (f j)) (fun j => nI (s j)) t co fl su re) (fun _ _ => True) (2 ^ M) 0 pa (Nat.zero_le _) trivial ?_ ?_
  · intro n t _
    exact br_t (nI_le (Nat.le_refl _) (by omega)) (hp t)
  · intro n i t hi _ K
    have l1 := gp_rs_le M i hb
    have l2 := gp_rs_le M (2 ^ M - 1) hb
    have l3 := gp_sz_le i 8
    refine br_f (nI_ge hi (by omega)) ?_
    refine gx_rank H (by omega) t co fl su re (fun t' => ?_)
    refine gx_size (by omega) ?_
    by_cases c1 : gp_rs f s M i = gp_rs f s M (2 ^ M - 1)
    · refine br_t (by rw [c1]) ?_
      by_cases c2 : gp_sz i 8 = gp_rs f s M i
      · exact br_t (by rw [c2]) (nm_r (nI_1 _) (nm_r (nI_1 i) (by have e := gp_cn_t (p := gp_qt f s M) (n := i) ⟨c1, c2⟩; have k := K t' trivial; simp only [e] at k; exact k)))
      · exact br_f (fun z => c2 ((nI_eq (by omega) (by omega)).mp z)) (nm_r (nI_1 i) (by have e := gp_cn_f (p := gp_qt f s M) (n := i) (fun z => c2 z.2); have k := K t' trivial; simp only [e] at k; exact k))
    · exact br_f (fun z => c1 ((nI_eq (by omega) (by omega)).mp z)) (nm_r (nI_1 i) (by have e := gp_cn_f (p := gp_qt f s M) (n := i) (fun z => c1 z.1); have k := K t' trivial; simp only [e] at k; exact k))
theorem gx_trees {post : Int32 → SX → Prop} {N M : Nat} {f s : Nat → Nat} (H : gp_ok N M f s) (pa co fl su re : Nat → Int32) (hp : ∀ t : Nat → Int32, post (nI (gp_cn (gp_qt f s M) (2 ^ M))) (nI N, nI M, (fun j => nI (f j)), (fun j => nI (s j)), t, co, fl, su, re)) : wpX_trees post (nI N, nI M, (fun j => nI (f j)), (fun j => nI (s j)), pa, co, fl, su, re) := by
  unfold wpX_trees
  dsimp only
  refine gx_full H pa co fl su re (fun t => ?_)
  exact nm_r (gp_shl (by have := H.2.2.1; omega)) (gx_trees17 H t co fl su re hp)
theorem gx_forests {post : Int32 → SX → Prop} {N M : Nat} {f s : Nat → Nat} (H : gp_ok N M f s) (pa co fl su re : Nat → Int32) (hp : ∀ t : Nat → Int32, post (nI (gp_cn (gp_qf f s M) (2 ^ M))) (nI N, nI M, (fun j => nI (f j)), (fun j => nI (s j)), t, co, fl, su, re)) : wpX_forests post (nI N, nI M, (fun j => nI (f j)), (fun j => nI (s j)), pa, co, fl, su, re) := by
  have HH := H
  obtain ⟨h1, h6, h8, hb⟩ := HH
  have h2 := gp_p8 h8
  refine nm_r (gp_shl (by omega)) ?_
  refine pk_loop (σ := Nat → Int32) (fun n i t => wX_forests_11 post (nI (2 ^ M)) n (nI (gp_cn (gp_qf f s M) i)) (nI i) (nI N) (nI M) (fun j => nI (f j)) (fun j => nI (s j)) t co fl su re) (fun _ _ => True) (2 ^ M) 0 pa (Nat.zero_le _) trivial ?_ ?_
  · intro n t _
    exact br_t (nI_le (Nat.le_refl _) (by omega)) (hp t)
  · intro n i t hi _ K
    have l1 := gp_rs_le M i hb
    have l2 := gp_rs_le M (2 ^ M - 1) hb
    have l3 := gp_sz_le i 8
    refine br_f (nI_ge hi (by omega)) ?_
    refine gx_rank H (by omega) t co fl su re (fun t' => ?_)
    refine gx_size (by omega) ?_
    by_cases c2 : gp_sz i 8 = gp_rs f s M i
    · exact br_t (by rw [c2]) (nm_r (nI_1 _) (nm_r (nI_1 i) (by have e := gp_cn_t (p := gp_qf f s M) (n := i) c2; have k := K t' trivial; simp only [e] at k; exact k)))
    · exact br_f (fun z => c2 ((nI_eq (by omega) (by omega)).mp z)) (nm_r (nI_1 i) (by have e := gp_cn_f (p := gp_qf f s M) (n := i) c2; have k := K t' trivial; simp only [e] at k; exact k))
theorem gx_spanning17 {post : Int32 → SX → Prop} {N M : Nat} {f s : Nat → Nat} (H : gp_ok N M f s) (pa co fl su re : Nat → Int32) (hp : ∀ t : Nat → Int32, post (nI (gp_cn (gp_qs f s M) (2 ^ M))) (nI N, nI M, (fun j => nI (f j)), (fun j => nI (s j)), t, co, fl, su, re)) : ∃ n, wX_spanning_17 post (nI (gp_rs f s M (2 ^ M - 1))) (nI (2 ^ M)) n 0 0 (nI N) (nI M) (fun j => nI (f j)) (fun j => nI (s j)) pa co fl su re := by
  have HH := H
  obtain ⟨h1, h6, h8, hb⟩ := HH
  have h2 := gp_p8 h8
  refine pk_loop (σ := Nat → Int32) (fun n i t => wX_spanning_17 post (nI (gp_rs f s M (2 ^ M - 1))) (nI (2 ^ M)) n (nI (gp_cn (gp_qs f s M) i)) (nI i) (nI N) (nI M) (fun j => nI (f j)) (fun j => nI (s j)) t co fl su re) (fun _ _ => True) (2 ^ M) 0 pa (Nat.zero_le _) trivial ?_ ?_
  · intro n t _
    exact br_t (nI_le (Nat.le_refl _) (by omega)) (hp t)
  · intro n i t hi _ K
    have l1 := gp_rs_le M i hb
    have l2 := gp_rs_le M (2 ^ M - 1) hb
    have l3 := gp_sz_le i 8
    refine br_f (nI_ge hi (by omega)) ?_
    refine gx_rank H (by omega) t co fl su re (fun t' => ?_)
    by_cases c1 : gp_rs f s M i = gp_rs f s M (2 ^ M - 1)
    · exact br_t (by rw [c1]) (nm_r (nI_1 _) (nm_r (nI_1 i) (by have e := gp_cn_t (p := gp_qs f s M) (n := i) c1; have k := K t' trivial; simp only [e] at k; exact k)))
    · exact br_f (fun z => c1 ((nI_eq (by omega) (by omega)).mp z)) (nm_r (nI_1 i) (by have e := gp_cn_f (p := gp_qs f s M) (n := i) c1; have k := K t' trivial; simp only [e] at k; exact k))
theorem gx_spanning {post : Int32 → SX → Prop} {N M : Nat} {f s : Nat → Nat} (H : gp_ok N M f s) (pa co fl su re : Nat → Int32) (hp : ∀ t : Nat → Int32, post (nI (gp_cn (gp_qs f s M) (2 ^ M))) (nI N, nI M, (fun j => nI (f j)), (fun j => nI (s j)), t, co, fl, su, re)) : wpX_spanning post (nI N, nI M, (fun j => nI (f j)), (fun j => nI (s j)), pa, co, fl, su, re) := by
  unfold wpX_spanning
  dsimp only
  refine gx_full H pa co fl su re (fun t => ?_)
  exact nm_r (gp_shl (by have := H.2.2.1; omega)) (gx_spanning17 H t co fl su re hp)
theorem gx_coef41 {post : Int32 → SX → Prop} {N M : Nat} {f s : Nat → Nat} (H : gp_ok N M f s) {x y : Nat} (hx : x ≤ 8) (hy : y ≤ 8) (pa co fl su re : Nat → Int32) (hp : ∀ t : Nat → Int32, post (gp_cf f s M x y (2 ^ M)) (nI N, nI M, (fun j => nI (f j)), (fun j => nI (s j)), t, co, fl, su, re)) : ∃ n, wX_coefficient_41 post (nI x) (nI y) (nI (gp_rs f s M (2 ^ M - 1))) (nI (2 ^ M)) n 0 0 (nI N) (nI M) (fun j => nI (f j)) (fun j => nI (s j)) pa co fl su re := by
  have HH := H
  obtain ⟨h1, h6, h8, hb⟩ := HH
  have h2 := gp_p8 h8
  refine pk_loop (σ := Nat → Int32) (fun n i t => wX_coefficient_41 post (nI x) (nI y) (nI (gp_rs f s M (2 ^ M - 1))) (nI (2 ^ M)) n (gp_cf f s M x y i) (nI i) (nI N) (nI M) (fun j => nI (f j)) (fun j => nI (s j)) t co fl su re) (fun _ _ => True) (2 ^ M) 0 pa (Nat.zero_le _) trivial ?_ ?_
  · intro n t _
    exact br_t (nI_le (Nat.le_refl _) (by omega)) (hp t)
  · intro n i t hi _ K
    have l1 := gp_rs_le M i hb
    have l2 := gp_rs_le M (2 ^ M - 1) hb
    have l3 := gp_sz_le i 8
    refine br_f (nI_ge hi (by omega)) ?_
    refine gx_rank H (by omega) t co fl su re (fun t' => ?_)
    refine gx_size (by omega) ?_
    refine gx_exp (by omega) (by omega) hx ?_
    refine gx_exp (by omega) (by omega) hy ?_
    exact nm_r (e' := gp_cf f s M x y (i + 1)) rfl (nm_r (nI_1 i) (K t' trivial))
theorem gx_coef {post : Int32 → SX → Prop} {N M : Nat} {f s : Nat → Nat} (H : gp_ok N M f s) {x y : Nat} (hx : x ≤ 8) (hy : y ≤ 8) (pa co fl su re : Nat → Int32) (hp : ∀ t : Nat → Int32, post (gp_cf f s M x y (2 ^ M)) (nI N, nI M, (fun j => nI (f j)), (fun j => nI (s j)), t, co, fl, su, re)) : wpX_coefficient post (nI N, nI M, (fun j => nI (f j)), (fun j => nI (s j)), pa, co, fl, su, re) (nI x) (nI y) := by
  refine br_f (nI_pos (by omega)) (br_f (nI_nlt (a := 8) hx (by omega)) (br_f (nI_pos (by omega)) (br_t (nI_le (b := 8) hy (by omega)) ?_)))
  refine gx_full H pa co fl su re (fun t => ?_)
  exact nm_r (gp_shl (by have := H.2.2.1; omega)) (gx_coef41 H hx hy t co fl su re hp)
theorem gx_col26 {post : Int32 → SX → Prop} {N M : Nat} {f s : Nat → Nat} (H : gp_ok N M f s) {k : Nat} (hk : k ≤ 6) (pa co fl su re : Nat → Int32) (hp : ∀ t : Nat → Int32, post (nI (gp_cn (gp_qc f s M k) (k ^ N))) (nI N, nI M, (fun j => nI (f j)), (fun j => nI (s j)), pa, t, fl, su, re)) : ∃ n, wX_colourings_26 post (nI k) (nI (k ^ N)) n 0 0 (nI N) (nI M) (fun j => nI (f j)) (fun j => nI (s j)) pa co fl su re := by
  have HH := H
  obtain ⟨h1, h6, h8, hb⟩ := HH
  have h2 := gp_p8 h8
  have hw := gp_pw hk (Nat.le_trans h6 (by omega) : N ≤ 8)
  refine pk_loop (σ := Nat → Int32) (fun n i t => wX_colourings_26 post (nI k) (nI (k ^ N)) n (nI (gp_cn (gp_qc f s M k) i)) (nI i) (nI N) (nI M) (fun j => nI (f j)) (fun j => nI (s j)) pa t fl su re) (fun _ _ => True) (k ^ N) 0 co (Nat.zero_le _) trivial ?_ ?_
  · intro n t _
    exact br_t (nI_le (Nat.le_refl _) hw) (hp t)
  · intro n i t hi _ K
    have hk1 : 1 ≤ k := by
      refine Classical.byContradiction (fun z => ?_)
      have k0 : k = 0 := by omega
      rw [k0, Nat.zero_pow (by omega)] at hi
      omega
    refine br_f (nI_ge hi hw) ?_
    refine gx_dig_colourOf _ _ _ _ _ _ _ _ _ h6 (Or.inl hk1) hk (by omega) (fun t' ht' => ?_)
    have ev : ∀ e, (t' (f e) = t' (s e)) ↔ gp_dg k i (f e) = gp_dg k i (s e) := by
      intro e
      have d1 : gp_dg k i (f e) < k := gp_dg_lt hk1
      have d2 : gp_dg k i (s e) < k := gp_dg_lt hk1
      rw [ht' _ (hb e).1, ht' _ (hb e).2, nI_eq (by omega) (by omega)]
      omega
    refine gx_cd H pa t' fl su re (fun z => ?_) (fun z => ?_)
    · exact br_f (by decide) (nm_r (nI_1 _) (nm_r (nI_1 i) (by have e := gp_cn_t (p := gp_qc f s M k) (n := i) (fun e he g => z e he ((ev e).mpr g)); have k := K t' trivial; simp only [e] at k; exact k)))
    · exact br_t rfl (nm_r (nI_1 i) (by have e := gp_cn_f (p := gp_qc f s M k) (n := i) (fun g => z (fun e he q => g e he ((ev e).mp q))); have k := K t' trivial; simp only [e] at k; exact k))
theorem gx_col {post : Int32 → SX → Prop} {N M : Nat} {f s : Nat → Nat} (H : gp_ok N M f s) {k : Nat} (hk : k ≤ 6) (pa co fl su re : Nat → Int32) (hp : ∀ t : Nat → Int32, post (nI (gp_cn (gp_qc f s M k) (k ^ N))) (nI N, nI M, (fun j => nI (f j)), (fun j => nI (s j)), pa, t, fl, su, re)) : wpX_colourings post (nI N, nI M, (fun j => nI (f j)), (fun j => nI (s j)), pa, co, fl, su, re) (nI k) := by
  refine br_f (nI_pos (by omega)) (br_t (nI_le (b := 6) hk (by omega)) ?_)
  exact gx_power (Nat.le_trans H.2.1 (by omega)) (gx_col26 H hk pa co fl su re hp)
theorem gx_flo28 {post : Int32 → SX → Prop} {N M : Nat} {f s : Nat → Nat} (H : gp_ok N M f s) {b : Nat} (hk : b ≤ 3) (pa co fl su re : Nat → Int32) (hp : ∀ t1 t2 : Nat → Int32, post (nI (gp_cn (gp_ql f s N M b) (b ^ M))) (nI N, nI M, (fun j => nI (f j)), (fun j => nI (s j)), pa, co, t1, t2, re)) : ∃ n, wX_flows_28 post (nI (b + 1)) (nI (b ^ M)) n 0 0 (nI N) (nI M) (fun j => nI (f j)) (fun j => nI (s j)) pa co fl su re := by
  have HH := H
  obtain ⟨h1, h6, h8, hb⟩ := HH
  have h2 := gp_p8 h8
  have hw := gp_pw (b := b) (by omega) h8
  refine pk_loop (σ := (Nat → Int32) × (Nat → Int32)) (fun n i t => wX_flows_28 post (nI (b + 1)) (nI (b ^ M)) n (nI (gp_cn (gp_ql f s N M b) i)) (nI i) (nI N) (nI M) (fun j => nI (f j)) (fun j => nI (s j)) pa co t.1 t.2 re) (fun _ _ => True) (b ^ M) 0 (fl, su) (Nat.zero_le _) trivial ?_ ?_
  · intro n t _
    exact br_t (nI_le (Nat.le_refl _) hw) (hp t.1 t.2)
  · intro n i t hi _ K
    have hb1 : 1 ≤ b ∨ M = 0 := by
      refine Classical.byContradiction (fun z => ?_)
      have k0 : b = 0 := by omega
      rw [k0, Nat.zero_pow (by omega)] at hi
      omega
    refine br_f (nI_ge hi hw) ?_
    rw [nI_pred b]
    refine gx_dig_flowOver _ _ _ _ _ _ _ _ _ h8 hb1 (by omega) (by omega) (fun t1 ht1 => ?_)
    refine gx_fb H (w := gp_wv b i) (by omega) pa co t1 t.2 re ht1 (fun z t2 => ?_) (fun z t2 => ?_)
    · refine br_f (by decide) (nm_r (nI_1 _) (nm_r (nI_1 i) ?_))
      have e := gp_cn_t (p := gp_ql f s N M b) (n := i) z
      have k := K (t1, t2) trivial
      simp only [e] at k
      exact k
    · refine br_t rfl (nm_r (nI_1 i) ?_)
      have e := gp_cn_f (p := gp_ql f s N M b) (n := i) z
      have k := K (t1, t2) trivial
      simp only [e] at k
      exact k
theorem gx_flo {post : Int32 → SX → Prop} {N M : Nat} {f s : Nat → Nat} (H : gp_ok N M f s) {b : Nat} (hk : b ≤ 3) (pa co fl su re : Nat → Int32) (hp : ∀ t1 t2 : Nat → Int32, post (nI (gp_cn (gp_ql f s N M b) (b ^ M))) (nI N, nI M, (fun j => nI (f j)), (fun j => nI (s j)), pa, co, t1, t2, re)) : wpX_flows post (nI N, nI M, (fun j => nI (f j)), (fun j => nI (s j)), pa, co, fl, su, re) (nI (b + 1)) := by
  refine br_f (nI_nlt (b := 1) (by omega) (by omega)) (br_t (nI_le (b := 4) (by omega) (by omega)) ?_)
  rw [nI_pred b]
  exact gx_power H.2.2.1 (gx_flo28 H hk pa co fl su re hp)
theorem gx_acy {post : Int32 → SX → Prop} {N M : Nat} {f s : Nat → Nat} (H : gp_ok N M f s) (pa co fl su re : Nat → Int32) (hp : ∀ t : Nat → Int32, post (nI (gp_cn (gp_qn f s N M) (2 ^ M))) (nI N, nI M, (fun j => nI (f j)), (fun j => nI (s j)), pa, co, fl, su, t)) : wpX_acyclic post (nI N, nI M, (fun j => nI (f j)), (fun j => nI (s j)), pa, co, fl, su, re) := by
  have HH := H
  obtain ⟨h1, h6, h8, hb⟩ := HH
  have h2 := gp_p8 h8
  refine nm_r (gp_shl (by omega)) ?_
  refine pk_loop (σ := Nat → Int32) (fun n i t => wX_acyclic_11 post (nI (2 ^ M)) n (nI (gp_cn (gp_qn f s N M) i)) (nI i) (nI N) (nI M) (fun j => nI (f j)) (fun j => nI (s j)) pa co fl su t) (fun _ _ => True) (2 ^ M) 0 re (Nat.zero_le _) trivial ?_ ?_
  · intro n t _
    exact br_t (nI_le (Nat.le_refl _) (by omega)) (hp t)
  · intro n i t hi _ K
    refine br_f (nI_ge hi (by omega)) ?_
    refine gx_hc H (a := i) (by omega) pa co fl su t (fun z t' => ?_) (fun z t' => ?_)
    · exact br_f (by decide) (nm_r (nI_1 i) (by have e := gp_cn_f (p := gp_qn f s N M) (n := i) (fun g => g z); have k := K t' trivial; simp only [e] at k; exact k))
    · exact br_t rfl (nm_r (nI_1 _) (nm_r (nI_1 i) (by have e := gp_cn_t (p := gp_qn f s N M) (n := i) z; have k := K t' trivial; simp only [e] at k; exact k)))
end
section
theorem gy_in {post : Int32 → Prop} {N M : Int32} {a1 a2 la sm : Nat → Int32} {po : Nat → Int64} {a j : Nat} (ha : a < 2 ^ 31) (hj : j < 32) (y1 : a.testBit j = true → post 1) (y0 : ¬ a.testBit j = true → post 0) : wpY_in post (N, M, a1, a2, la, sm, po) (nI a) (nI j) :=
  ⟨fun z => y1 ((gp_bit1 ha hj).mp z), fun z => y0 (fun q => z ((gp_bit1 ha hj).mpr q))⟩
theorem gy_size {post : Int32 → Prop} {N M : Nat} {f s : Nat → Nat} (H : gp_ok N M f s) {a : Nat} (ha : a < 2 ^ 31) (la sm : Nat → Int32) (po : Nat → Int64) (h : post (nI (gp_sz a M))) : wpY_sizeOf post (nI N, nI M, (fun j => nI (f j)), (fun j => nI (s j)), la, sm, po) (nI a) := by
  have HH := H
  obtain ⟨h1, h6, h8, hb⟩ := HH
  have h2 := gp_p8 h8
  refine pk_loop (σ := Unit) (fun n i _ => wY_sizeOf_4 post (nI a) (nI N) (nI M) (fun j => nI (f j)) (fun j => nI (s j)) la sm po n (nI (gp_sz a i)) (nI i)) (fun _ _ => True) M 0 () (Nat.zero_le _) trivial ?_ ?_
  · intro n _ _
    exact br_t (nI_le (Nat.le_refl _) (by omega)) h
  · intro n i _ hi _ K
    have k := K () trivial
    refine br_f (nI_ge hi (by omega)) (gy_in ha (by omega) (fun c => ?_) (fun c => ?_))
    · have e : gp_sz a (i + 1) = gp_sz a i + 1 := by
        show gp_sz a i + (a.testBit i).toNat = _
        rw [c]; rfl
      simp only [e] at k
      exact br_f (by decide) (nm_r (nI_1 _) (nm_r (nI_1 i) k))
    · have e : gp_sz a (i + 1) = gp_sz a i := by
        show gp_sz a i + (a.testBit i).toNat = _
        rw [Bool.not_eq_true] at c
        rw [c]; rfl
      simp only [e] at k
      exact br_t rfl (nm_r (nI_1 i) k)
theorem gy_spread {post : SY → Prop} {N M : Nat} {f s : Nat → Nat} (H : gp_ok N M f s) {a : Nat} (ha : a < 2 ^ 31) (la sm : Nat → Int32) (po : Nat → Int64) {l : Nat → Nat} (hl : ∀ p, l p ≤ p) (h0 : ∀ p, p < N → la p = nI (l p)) (h : ∀ t : Nat → Int32, (∀ p, p < N → t p = nI (gp_yr f s (fun e => a.testBit e) M l p)) → post (nI N, nI M, (fun j => nI (f j)), (fun j => nI (s j)), t, sm, po)) : wpY_spread post (nI N, nI M, (fun j => nI (f j)), (fun j => nI (s j)), la, sm, po) (nI a) := by
  have HH := H
  obtain ⟨h1, h6, h8, hb⟩ := HH
  have h2 := gp_p8 h8
  refine pk_loop (σ := Nat → Int32) (fun n i t => wY_spread_2 post (nI a) (nI N) (nI M) n (nI i) (fun j => nI (f j)) (fun j => nI (s j)) t sm po) (fun i t => ∀ p, p < N → t p = nI (gp_yr f s (fun e => a.testBit e) i l p)) M 0 la (Nat.zero_le _) h0 ?_ ?_
  · intro n t ht
    exact br_t (nI_le (Nat.le_refl _) (by omega)) (h t ht)
  · intro n i t hi ht K
    have hf := (hb i).1
    have hs := (hb i).2
    have hc : (nI i).toNatClampNeg = i := nI_clamp (by omega)
    have hcf : (nI (f i)).toNatClampNeg = f i := nI_clamp (by omega)
    have hcs : (nI (s i)).toNatClampNeg = s i := nI_clamp (by omega)
    have hin : vp_in (nI i) 9 := vp_in_nI (by omega) (by omega)
    have hif : vp_in (nI (f i)) 6 := vp_in_nI (by omega) (by omega)
    have his : vp_in (nI (s i)) 6 := vp_in_nI (by omega) (by omega)
    refine br_f (nI_ge hi (by omega)) (gy_in ha (by omega) (fun c => br_f (by decide) ?_) (fun c => ?_))
    · have tf := ht (f i) hf
      have ts := ht (s i) hs
      have lf := Nat.le_trans (gp_yr_le f s (fun e => a.testBit e) l i (f i)) (hl (f i))
      have ls := Nat.le_trans (gp_yr_le f s (fun e => a.testBit e) l i (s i)) (hl (s i))
      have fin : wY_spread_69 post (wY_spread_2 post (nI a) (nI N) (nI M) n) (nI a) (nI i) (nI (gp_mi (gp_yr f s (fun e => a.testBit e) i l (f i)) (gp_yr f s (fun e => a.testBit e) i l (s i)))) (nI N) (nI M) (fun j => nI (f j)) (fun j => nI (s j)) t sm po := by
        unfold wY_spread_69
        simp only [hc, hcf, hcs]
        refine ⟨hin, hif, nm_e ⟨hin, his, nm_e (nm_r (nI_1 i) (K _ ?_))⟩⟩
        intro p hp
        rw [gp_yr_s, gp_ys_t c]
        show (if p = s i then _ else if p = f i then _ else t p) = _
        by_cases d : p = s i
        · rw [if_pos d, if_pos d]
        · rw [if_neg d, if_neg d]
          by_cases g : p = f i
          · rw [if_pos g, if_pos g]
          · rw [if_neg g, if_neg g]; exact ht p hp
      simp only [hc, hcf, hcs, tf, ts]
      refine ⟨hin, hif, hin, his, ?_⟩
      by_cases d : gp_yr f s (fun e => a.testBit e) i l (f i) < gp_yr f s (fun e => a.testBit e) i l (s i)
      · have e : gp_mi (gp_yr f s (fun e => a.testBit e) i l (f i)) (gp_yr f s (fun e => a.testBit e) i l (s i)) = gp_yr f s (fun e => a.testBit e) i l (f i) := if_pos d
        rw [e] at fin
        exact br_f (nI_ge d (by omega)) ⟨hin, hif, fin⟩
      · have e : gp_mi (gp_yr f s (fun e => a.testBit e) i l (f i)) (gp_yr f s (fun e => a.testBit e) i l (s i)) = gp_yr f s (fun e => a.testBit e) i l (s i) := if_neg d
        rw [e] at fin
        exact br_t (nI_le (by omega) (by omega)) ⟨hin, his, fin⟩
    · refine br_t rfl (nm_r (nI_1 i) (K t ?_))
      intro p hp
      rw [gp_yr_s, gp_ys_f (A := (fun e => a.testBit e)) c]
      exact ht p hp
theorem gy_parts46 {post : Int32 → SY → Prop} {N M : Nat} {f s : Nat → Nat} (H : gp_ok N M f s) (la sm : Nat → Int32) (po : Nat → Int64) {l : Nat → Nat} (hl : ∀ p, l p ≤ p) (h0 : ∀ p, p < N → la p = nI (l p)) (h : post (nI (gp_cn (fun u => l u = u) N)) (nI N, nI M, (fun j => nI (f j)), (fun j => nI (s j)), la, sm, po)) : ∃ n, wY_partsOf_46 post (nI N) (nI M) (fun j => nI (f j)) (fun j => nI (s j)) la sm po n 0 0 := by
  have HH := H
  obtain ⟨h1, h6, h8, hb⟩ := HH
  have h2 := gp_p8 h8
  refine pk_loop (σ := Unit) (fun n i _ => wY_partsOf_46 post (nI N) (nI M) (fun j => nI (f j)) (fun j => nI (s j)) la sm po n (nI (gp_cn (fun u => l u = u) i)) (nI i)) (fun _ _ => True) N 0 () (Nat.zero_le _) trivial ?_ ?_
  · intro n _ _
    exact br_t (nI_le (Nat.le_refl _) (by omega)) h
  · intro n i _ hi _ K
    have hc : (nI i).toNatClampNeg = i := nI_clamp (by omega)
    have hin : vp_in (nI i) 6 := vp_in_nI (by omega) (by omega)
    have k := K () trivial
    have li := hl i
    refine br_f (nI_ge hi (by omega)) ⟨hin, ?_⟩
    rw [hc, h0 i hi]
    by_cases c : l i = i
    · have e := gp_cn_t (p := fun u => l u = u) (n := i) c
      simp only [e] at k
      exact br_t (by rw [c]) (nm_r (nI_1 _) (nm_r (nI_1 i) k))
    · have e := gp_cn_f (p := fun u => l u = u) (n := i) c
      simp only [e] at k
      exact br_f (fun z => c ((nI_eq (by omega) (by omega)).mp z)) (nm_r (nI_1 i) k)
theorem gy_parts25 {post : Int32 → SY → Prop} {N M : Nat} {f s : Nat → Nat} (H : gp_ok N M f s) {a : Nat} (ha : a < 2 ^ 31) (la sm : Nat → Int32) (po : Nat → Int64) (h0 : ∀ p, p < N → la p = nI p) (h : ∀ t : Nat → Int32, post (nI (gp_ps f s M N a)) (nI N, nI M, (fun j => nI (f j)), (fun j => nI (s j)), t, sm, po)) : ∃ n, wY_partsOf_25 post (nI a) n 0 (nI N) (nI M) (fun j => nI (f j)) (fun j => nI (s j)) la sm po := by
  have HH := H
  obtain ⟨h1, h6, h8, hb⟩ := HH
  have h2 := gp_p8 h8
  refine pk_loop (σ := Nat → Int32) (fun n i t => wY_partsOf_25 post (nI a) n (nI i) (nI N) (nI M) (fun j => nI (f j)) (fun j => nI (s j)) t sm po) (fun i t => ∀ p, p < N → t p = nI (gp_yt f s (fun e => a.testBit e) M i p)) 6 0 la (Nat.zero_le _) h0 ?_ ?_
  · intro n t ht
    exact br_t (nI_le (a := 6) (b := 6) (Nat.le_refl _) (by omega)) (gy_parts46 H t sm po (gp_yt_le f s (fun e => a.testBit e) M 6) ht (h t))
  · intro n i t hi ht K
    refine br_f (nI_ge (b := 6) hi (by omega)) ?_
    exact gy_spread H ha t sm po (gp_yt_le f s (fun e => a.testBit e) M i) ht (fun t' ht' => nm_r (nI_1 i) (K t' ht'))
theorem gy_partsOf {post : Int32 → SY → Prop} {N M : Nat} {f s : Nat → Nat} (H : gp_ok N M f s) {a : Nat} (ha : a < 2 ^ 31) (la sm : Nat → Int32) (po : Nat → Int64) (h : ∀ t : Nat → Int32, post (nI (gp_ps f s M N a)) (nI N, nI M, (fun j => nI (f j)), (fun j => nI (s j)), t, sm, po)) : wpY_partsOf post (nI N, nI M, (fun j => nI (f j)), (fun j => nI (s j)), la, sm, po) (nI a) := by
  have HH := H
  obtain ⟨h1, h6, h8, hb⟩ := HH
  have h2 := gp_p8 h8
  refine pk_loop (σ := Nat → Int32) (fun n i t => wY_partsOf_2 post (nI a) (nI N) (nI M) n (nI i) (fun j => nI (f j)) (fun j => nI (s j)) t sm po) (fun i t => ∀ p, p < i → t p = nI p) N 0 la (Nat.zero_le _) (fun p hp => absurd hp (by omega)) ?_ ?_
  · intro n t ht
    exact br_t (nI_le (Nat.le_refl _) (by omega)) (gy_parts25 H ha t sm po ht h)
  · intro n i t hi ht K
    have hc : (nI i).toNatClampNeg = i := nI_clamp (by omega)
    exact br_f (nI_ge hi (by omega)) ⟨vp_in_nI (by omega) (by omega), nm_r (e' := upd t i (nI i)) (by rw [hc]) (nm_r (nI_1 i) (K _ (gp_up (g := fun j => nI j) ht)))⟩
theorem gy_rank {post : Int32 → SY → Prop} {N M : Nat} {f s : Nat → Nat} (H : gp_ok N M f s) {a : Nat} (ha : a < 2 ^ 31) (la sm : Nat → Int32) (po : Nat → Int64) (h : ∀ t : Nat → Int32, post (nI (gp_rs f s M a)) (nI N, nI M, (fun j => nI (f j)), (fun j => nI (s j)), t, sm, po)) : wpY_rank post (nI N, nI M, (fun j => nI (f j)), (fun j => nI (s j)), la, sm, po) (nI a) := by
  have HH := H
  obtain ⟨h1, h6, h8, hb⟩ := HH
  have h2 := gp_p8 h8
  have e := gp_ps_rs M a hb h6
  have e2 : nI N - nI (gp_ps f s M N a) = nI (gp_rs f s M a) := by
    rw [pk_sub (by omega)]
    exact congrArg nI (by omega)
  unfold wpY_rank
  dsimp only
  refine gy_partsOf H ha la sm po (fun t => ?_)
  dsimp only
  rw [e2]
  exact h t
theorem gy_all {post : Int32 → Prop} {N : Int32} {M : Nat} (h8 : M ≤ 8) {a1 a2 la sm : Nat → Int32} {po : Nat → Int64} (h : post (nI (2 ^ M - 1))) : wpY_all post (N, nI M, a1, a2, la, sm, po) := by
  show post (((1 : Int32) <<< (nI M &&& 31)) - 1)
  rw [gp_full h8]
  exact h
theorem gy_choose {post : Int64 → Prop} {N M : Int32} {a1 a2 la sm : Nat → Int32} {po : Nat → Int64} {a i : Nat} (hi : i ≤ 8) (h : post (gp_cy a i)) : wpY_choose post (N, M, a1, a2, la, sm, po) (nI a) (nI i) := by
  refine pk_loop (σ := Unit) (fun n j _ => wY_choose_5 post (nI a) (nI i) N M a1 a2 la sm po n (gp_cy a j) (nI (j + 1))) (fun _ _ => True) i 0 () (Nat.zero_le _) trivial ?_ ?_
  · intro n _ _
    exact br_t (nI_lt (by omega) (by omega)) h
  · intro n j _ hj _ K
    have nz : ¬ (nI (j + 1)).toInt64 = 0 := by
      rw [nI_l (by omega)]
      intro z
      have := (lN_eq (a := j + 1) (b := 0) (by omega) (by omega)).mp z
      omega
    exact br_f (nI_nlt (by omega) (by omega)) ⟨nz, nm_r (e' := gp_cy a (j + 1)) rfl (nm_r (nI_1 (j + 1)) (K () trivial))⟩
theorem gy_add10 {post : SY → Prop} {J : Int32 → (Nat → Int32) → (Nat → Int32) → (Nat → Int32) → (Nat → Int32) → (Nat → Int64) → Prop} {N M : Int32} {a1 a2 la sm : Nat → Int32} {old : Nat → Int64} {a b i : Nat} (ha : a ≤ 8) (hb : b ≤ 8) (hi : i ≤ a) (h : J (nI (i + 1)) a1 a2 la sm (gp_pl old a b (i + 1) 0)) : ∃ n, wY_addTerm_10 post J (nI a) (nI b) (nI i) N M n 0 a1 a2 la sm (gp_pl old a b i 0) := by
  refine pk_loop (σ := Nat → Int64) (fun n j t => wY_addTerm_10 post J (nI a) (nI b) (nI i) N M n (nI j) a1 a2 la sm t) (fun j t => t = gp_pl old a b i j) (b + 1) 0 _ (Nat.zero_le _) rfl ?_ ?_
  · intro n t ht
    subst ht
    rw [← gp_pl_n] at h
    exact br_t (nI_lt (by omega) (by omega)) (nm_r (nI_1 i) h)
  · intro n j t hj ht K
    subst ht
    have e9 : 9 * nI i + nI j = nI (9 * i + j) := by
      show nI 9 * nI i + nI j = _
      rw [pk_mul, nI_add]
    have ep : ((nI a - nI i) + nI b) - nI j = nI (a - i + b - j) := by
      rw [pk_sub hi, nI_add, pk_sub (by omega)]
    have hc : (nI (9 * i + j)).toNatClampNeg = 9 * i + j := nI_clamp (by omega)
    have hin : vp_in (nI (9 * i + j)) 81 := vp_in_nI (by omega) (by omega)
    refine br_f (nI_nlt (by omega) (by omega)) ?_
    refine gy_choose (by omega) ?_
    refine gy_choose (by omega) ?_
    refine nm_e ?_
    rw [e9, ep, hc]
    refine ⟨hin, by decide, ?_⟩
    by_cases p : (a - i + b - j) % 2 = 0
    · have et : gp_tm a b i j = gp_cy a i * gp_cy b j := if_pos p
      refine br_t ((gp_par _ (by omega)).mpr p) ⟨hin, nm_e (nm_r (nI_1 j) (K _ ?_))⟩
      rw [← et]
      exact gp_pl_s old a b i j (by omega)
    · have et : gp_tm a b i j = -(gp_cy a i * gp_cy b j) := if_neg p
      refine br_f (fun z => p ((gp_par _ (by omega)).mp z)) ⟨hin, nm_e (nm_r (nI_1 j) (K _ ?_))⟩
      rw [← et]
      exact gp_pl_s old a b i j (by omega)
theorem gy_addTerm {post : SY → Prop} {N M : Int32} {a1 a2 la sm : Nat → Int32} {po : Nat → Int64} {A B r : Nat} (hA : A ≤ 8) (hB : B ≤ 8) (hr : r ≤ 8) (h : ∀ t : Nat → Int64, (∀ i j, j < 9 → (t (9 * i + j)).toInt32 = (po (9 * i + j)).toInt32 + gp_ex A r i * gp_ex B r j) → post (N, M, a1, a2, la, sm, t)) : wpY_addTerm post (N, M, a1, a2, la, sm, po) (nI A - nI r) (nI B - nI r) := by
  by_cases c : r ≤ A
  · have eA : nI A - nI r = nI (A - r) := pk_sub c
    rw [eA]
    by_cases d : r ≤ B
    · have eB : nI B - nI r = nI (B - r) := pk_sub d
      rw [eB]
      refine pk_loop (σ := Nat → Int64) (fun n i t => wY_addTerm_2 post (nI (A - r)) (nI (B - r)) N M n (nI i) a1 a2 la sm t) (fun i t => t = gp_pl po (A - r) (B - r) i 0) (A - r + 1) 0 po (Nat.zero_le _) (gp_pl_0 _ _ _).symm ?_ ?_
      · intro n t ht
        subst ht
        exact br_t (nI_lt (by omega) (by omega)) (h _ (fun i j hj => gp_pl_v (by omega) (by omega) c d hj))
      · intro n i t hi ht K
        subst ht
        exact br_f (nI_nlt (by omega) (by omega)) (gy_add10 (by omega) (by omega) (by omega) (K _ rfl))
    · have hneg : nI B - nI r < 0 := pk_sneg (by omega) (by omega)
      have hz : ∀ j, gp_ex B r j = 0 := fun j => if_neg (by omega)
      refine pk_loop (σ := Unit) (fun n i _ => wY_addTerm_2 post (nI (A - r)) (nI B - nI r) N M n (nI i) a1 a2 la sm po) (fun _ _ => True) (A - r + 1) 0 () (Nat.zero_le _) trivial ?_ ?_
      · intro n _ _
        exact br_t (nI_lt (by omega) (by omega)) (h _ (fun i j hj => by rw [hz, Int32.mul_zero, Int32.add_zero]))
      · intro n i _ hi _ K
        exact br_f (nI_nlt (by omega) (by omega)) ⟨1, br_t hneg (nm_r (nI_1 i) (K () trivial))⟩
  · have hneg : nI A - nI r < 0 := pk_sneg (by omega) (by omega)
    have hz : ∀ i, gp_ex A r i = 0 := fun i => if_neg (by omega)
    exact ⟨1, br_t hneg (h _ (fun i j hj => by rw [hz, Int32.zero_mul, Int32.add_zero]))⟩
end
section
theorem gy_parts {post : Int32 → SY → Prop} {N M : Nat} {f s : Nat → Nat} (H : gp_ok N M f s) (la sm : Nat → Int32) (po : Nat → Int64) (h : ∀ t : Nat → Int32, post (nI (gp_ps f s M N (2 ^ M - 1))) (nI N, nI M, (fun j => nI (f j)), (fun j => nI (s j)), t, sm, po)) : wpY_parts post (nI N, nI M, (fun j => nI (f j)), (fun j => nI (s j)), la, sm, po) := by
  have HH := H
  obtain ⟨h1, h6, h8, hb⟩ := HH
  have h2 := gp_p8 h8
  unfold wpY_parts
  dsimp only
  refine gy_all h8 ?_
  exact gy_partsOf H (by omega) la sm po h
theorem gy_coef61 {post : Int32 → SY → Prop} {N M : Nat} {f s : Nat → Nat} (H : gp_ok N M f s) {x y : Nat} (hx : x ≤ 8) (hy : y ≤ 8) (la sm : Nat → Int32) (po : Nat → Int64) (h0 : (po (9 * x + y)).toInt32 = 0) (h : ∀ (t : Nat → Int32) (q : Nat → Int64), post (gp_cf f s M x y (2 ^ M)) (nI N, nI M, (fun j => nI (f j)), (fun j => nI (s j)), t, sm, q)) : ∃ n, wY_coefficient_61 post (nI x) (nI y) (nI (2 ^ M - 1)) (nI (gp_rs f s M (2 ^ M - 1))) n 0 (nI N) (nI M) (fun j => nI (f j)) (fun j => nI (s j)) la sm po := by
  have HH := H
  obtain ⟨h1, h6, h8, hb⟩ := HH
  have h2 := gp_p8 h8
  have e9 : 9 * nI x + nI y = nI (9 * x + y) := by
    show nI 9 * nI x + nI y = _
    rw [pk_mul, nI_add]
  have hc9 : (nI (9 * x + y)).toNatClampNeg = 9 * x + y := nI_clamp (by omega)
  have hi9 : vp_in (nI (9 * x + y)) 81 := vp_in_nI (by omega) (by omega)
  refine pk_loop (σ := (Nat → Int32) × (Nat → Int64)) (fun n i t => wY_coefficient_61 post (nI x) (nI y) (nI (2 ^ M - 1)) (nI (gp_rs f s M (2 ^ M - 1))) n (nI i) (nI N) (nI M) (fun j => nI (f j)) (fun j => nI (s j)) t.1 sm t.2) (fun i t => (t.2 (9 * x + y)).toInt32 = gp_cf f s M x y i) (2 ^ M) 0 (la, po) (Nat.zero_le _) h0 ?_ ?_
  · intro n t ht
    refine br_t (nI_lt (by omega) (by omega)) ?_
    rw [e9, hc9, ht]
    exact ⟨hi9, h t.1 t.2⟩
  · intro n i t hi ht K
    have l1 := gp_rs_le M i hb
    have l2 := gp_rs_le M (2 ^ M - 1) hb
    have l3 := gp_sz_le i M
    refine br_f (nI_nlt (by omega) (by omega)) ?_
    refine gy_rank H (by omega) t.1 sm t.2 (fun t' => ?_)
    refine gy_size H (by omega) t' sm t.2 ?_
    refine gy_addTerm (by omega) (by omega) (by omega) (fun q hq => ?_)
    refine nm_r (nI_1 i) (K (t', q) ?_)
    show (q (9 * x + y)).toInt32 = gp_cf f s M x y i + gp_ex (gp_rs f s M (2 ^ M - 1)) (gp_rs f s M i) x * gp_ex (gp_sz i 8) (gp_rs f s M i) y
    rw [hq x y (by omega), ht, gp_sz_8 h8 hi]
theorem gy_coef37 {post : Int32 → SY → Prop} {N M : Nat} {f s : Nat → Nat} (H : gp_ok N M f s) {x y : Nat} (hx : x ≤ 8) (hy : y ≤ 8) (la sm : Nat → Int32) (po : Nat → Int64) (h : ∀ (t : Nat → Int32) (q : Nat → Int64), post (gp_cf f s M x y (2 ^ M)) (nI N, nI M, (fun j => nI (f j)), (fun j => nI (s j)), t, sm, q)) : ∃ n, wY_coefficient_37 post (nI x) (nI y) (nI (2 ^ M - 1)) (nI (gp_rs f s M (2 ^ M - 1))) (nI N) (nI M) n 0 (fun j => nI (f j)) (fun j => nI (s j)) la sm po := by
  refine pk_loop (σ := Nat → Int64) (fun n i t => wY_coefficient_37 post (nI x) (nI y) (nI (2 ^ M - 1)) (nI (gp_rs f s M (2 ^ M - 1))) (nI N) (nI M) n (nI i) (fun j => nI (f j)) (fun j => nI (s j)) la sm t) (fun i t => ∀ j, j < i → t j = 0) 81 0 po (Nat.zero_le _) (fun j hj => absurd hj (by omega)) ?_ ?_
  · intro n t ht
    refine br_t (nI_le (a := 81) (b := 81) (Nat.le_refl _) (by omega)) ?_
    exact gy_coef61 H hx hy la sm t (by rw [ht (9 * x + y) (by omega), gp_z]) h
  · intro n i t hi ht K
    have hc : (nI i).toNatClampNeg = i := nI_clamp (by omega)
    refine br_f (nI_ge (b := 81) hi (by omega)) ⟨vp_in_nI (by omega) (by omega), nm_r (e' := vp_updL t i 0) (by rw [hc]) (nm_r (nI_1 i) (K _ ?_))⟩
    intro j hj
    by_cases c : j = i
    · rw [c]; exact pk_uLs
    · rw [pk_uLn c]; exact ht j (by omega)
theorem gy_coef {post : Int32 → SY → Prop} {N M : Nat} {f s : Nat → Nat} (H : gp_ok N M f s) {x y : Nat} (hx : x ≤ 8) (hy : y ≤ 8) (la sm : Nat → Int32) (po : Nat → Int64) (h : ∀ (t : Nat → Int32) (q : Nat → Int64), post (gp_cf f s M x y (2 ^ M)) (nI N, nI M, (fun j => nI (f j)), (fun j => nI (s j)), t, sm, q)) : wpY_coefficient post (nI N, nI M, (fun j => nI (f j)), (fun j => nI (s j)), la, sm, po) (nI x) (nI y) := by
  have h2 := gp_p8 H.2.2.1
  refine br_f (nI_pos (by omega)) (br_f (nI_nlt (a := 8) hx (by omega)) (br_f (nI_pos (by omega)) (br_t (nI_le (b := 8) hy (by omega)) ?_)))
  refine gy_all H.2.2.1 ?_
  refine gy_rank H (by omega) la sm po (fun t => ?_)
  exact gy_coef37 H hx hy t sm po h
theorem gy_cnt_trees {post : Int32 → SY → Prop} {N M : Nat} {f s : Nat → Nat} (H : gp_ok N M f s) (la sm : Nat → Int32) (po : Nat → Int64) (h : ∀ t : Nat → Int32, post (nI (gp_cn (gp_qt f s M) (2 ^ M))) (nI N, nI M, (fun j => nI (f j)), (fun j => nI (s j)), t, sm, po)) : ∃ n, wY_count_18 post 1 1 (nI (2 ^ M - 1)) (nI (gp_rs f s M (2 ^ M - 1))) n 0 0 (nI N) (nI M) (fun j => nI (f j)) (fun j => nI (s j)) la sm po := by
  have HH := H
  obtain ⟨h1, h6, h8, hb⟩ := HH
  have h2 := gp_p8 h8
  refine pk_loop (σ := Nat → Int32) (fun n i t => wY_count_18 post 1 1 (nI (2 ^ M - 1)) (nI (gp_rs f s M (2 ^ M - 1))) n (nI (gp_cn (gp_qt f s M) i)) (nI i) (nI N) (nI M) (fun j => nI (f j)) (fun j => nI (s j)) t sm po) (fun _ _ => True) (2 ^ M) 0 la (Nat.zero_le _) trivial ?_ ?_
  · intro n t _
    exact br_t (nI_lt (by omega) (by omega)) (h t)
  · intro n i t hi _ K
    have l1 := gp_rs_le M i hb
    have l2 := gp_rs_le M (2 ^ M - 1) hb
    have l3 := gp_sz_le i 8
    refine br_f (nI_nlt (by omega) (by omega)) ?_
    refine gy_rank H (by omega) t sm po (fun t' => ?_)
    refine br_f (by decide) ?_
    by_cases c1 : gp_rs f s M i = gp_rs f s M (2 ^ M - 1)
    · refine br_t (by rw [c1]) ?_
      refine br_f (by decide) (gy_size H (by omega) t' sm po ?_)
      rw [← gp_sz_8 h8 hi]
      by_cases c2 : gp_sz i 8 = gp_rs f s M i
      · exact br_t (by rw [c2]) (nm_r (nI_1 _) (nm_r (nI_1 i) (by have e := gp_cn_t (p := gp_qt f s M) (n := i) ⟨c1, c2⟩; have k := K t' trivial; simp only [e] at k; exact k)))
      · exact br_f (fun z => c2 ((nI_eq (by omega) (by omega)).mp z)) (nm_r (nI_1 i) (by have e := gp_cn_f (p := gp_qt f s M) (n := i) (fun z => c2 z.2); have k := K t' trivial; simp only [e] at k; exact k))
    · exact br_f (fun z => c1 ((nI_eq (by omega) (by omega)).mp z)) (nm_r (nI_1 i) (by have e := gp_cn_f (p := gp_qt f s M) (n := i) (fun z => c1 z.1); have k := K t' trivial; simp only [e] at k; exact k))
theorem gy_trees {post : Int32 → SY → Prop} {N M : Nat} {f s : Nat → Nat} (H : gp_ok N M f s) (la sm : Nat → Int32) (po : Nat → Int64) (h : ∀ t : Nat → Int32, post (nI (gp_cn (gp_qt f s M) (2 ^ M))) (nI N, nI M, (fun j => nI (f j)), (fun j => nI (s j)), t, sm, po)) : wpY_trees post (nI N, nI M, (fun j => nI (f j)), (fun j => nI (s j)), la, sm, po) := by
  have h2 := gp_p8 H.2.2.1
  unfold wpY_trees
  dsimp only
  unfold wpY_count
  dsimp only
  refine gy_all H.2.2.1 ?_
  refine gy_rank H (by omega) la sm po (fun t => ?_)
  exact gy_cnt_trees H t sm po h
theorem gy_cnt_forests {post : Int32 → SY → Prop} {N M : Nat} {f s : Nat → Nat} (H : gp_ok N M f s) (la sm : Nat → Int32) (po : Nat → Int64) (h : ∀ t : Nat → Int32, post (nI (gp_cn (gp_qf f s M) (2 ^ M))) (nI N, nI M, (fun j => nI (f j)), (fun j => nI (s j)), t, sm, po)) : ∃ n, wY_count_18 post 0 1 (nI (2 ^ M - 1)) (nI (gp_rs f s M (2 ^ M - 1))) n 0 0 (nI N) (nI M) (fun j => nI (f j)) (fun j => nI (s j)) la sm po := by
  have HH := H
  obtain ⟨h1, h6, h8, hb⟩ := HH
  have h2 := gp_p8 h8
  refine pk_loop (σ := Nat → Int32) (fun n i t => wY_count_18 post 0 1 (nI (2 ^ M - 1)) (nI (gp_rs f s M (2 ^ M - 1))) n (nI (gp_cn (gp_qf f s M) i)) (nI i) (nI N) (nI M) (fun j => nI (f j)) (fun j => nI (s j)) t sm po) (fun _ _ => True) (2 ^ M) 0 la (Nat.zero_le _) trivial ?_ ?_
  · intro n t _
    exact br_t (nI_lt (by omega) (by omega)) (h t)
  · intro n i t hi _ K
    have l1 := gp_rs_le M i hb
    have l2 := gp_rs_le M (2 ^ M - 1) hb
    have l3 := gp_sz_le i 8
    refine br_f (nI_nlt (by omega) (by omega)) ?_
    refine gy_rank H (by omega) t sm po (fun t' => ?_)
    refine br_t rfl ?_
    · refine br_f (by decide) (gy_size H (by omega) t' sm po ?_)
      rw [← gp_sz_8 h8 hi]
      by_cases c2 : gp_sz i 8 = gp_rs f s M i
      · exact br_t (by rw [c2]) (nm_r (nI_1 _) (nm_r (nI_1 i) (by have e := gp_cn_t (p := gp_qf f s M) (n := i) c2; have k := K t' trivial; simp only [e] at k; exact k)))
      · exact br_f (fun z => c2 ((nI_eq (by omega) (by omega)).mp z)) (nm_r (nI_1 i) (by have e := gp_cn_f (p := gp_qf f s M) (n := i) c2; have k := K t' trivial; simp only [e] at k; exact k))
theorem gy_forests {post : Int32 → SY → Prop} {N M : Nat} {f s : Nat → Nat} (H : gp_ok N M f s) (la sm : Nat → Int32) (po : Nat → Int64) (h : ∀ t : Nat → Int32, post (nI (gp_cn (gp_qf f s M) (2 ^ M))) (nI N, nI M, (fun j => nI (f j)), (fun j => nI (s j)), t, sm, po)) : wpY_forests post (nI N, nI M, (fun j => nI (f j)), (fun j => nI (s j)), la, sm, po) := by
  have h2 := gp_p8 H.2.2.1
  unfold wpY_forests
  dsimp only
  unfold wpY_count
  dsimp only
  refine gy_all H.2.2.1 ?_
  refine gy_rank H (by omega) la sm po (fun t => ?_)
  exact gy_cnt_forests H t sm po h
theorem gy_cnt_spanning {post : Int32 → SY → Prop} {N M : Nat} {f s : Nat → Nat} (H : gp_ok N M f s) (la sm : Nat → Int32) (po : Nat → Int64) (h : ∀ t : Nat → Int32, post (nI (gp_cn (gp_qs f s M) (2 ^ M))) (nI N, nI M, (fun j => nI (f j)), (fun j => nI (s j)), t, sm, po)) : ∃ n, wY_count_18 post 1 0 (nI (2 ^ M - 1)) (nI (gp_rs f s M (2 ^ M - 1))) n 0 0 (nI N) (nI M) (fun j => nI (f j)) (fun j => nI (s j)) la sm po := by
  have HH := H
  obtain ⟨h1, h6, h8, hb⟩ := HH
  have h2 := gp_p8 h8
  refine pk_loop (σ := Nat → Int32) (fun n i t => wY_count_18 post 1 0 (nI (2 ^ M - 1)) (nI (gp_rs f s M (2 ^ M - 1))) n (nI (gp_cn (gp_qs f s M) i)) (nI i) (nI N) (nI M) (fun j => nI (f j)) (fun j => nI (s j)) t sm po) (fun _ _ => True) (2 ^ M) 0 la (Nat.zero_le _) trivial ?_ ?_
  · intro n t _
    exact br_t (nI_lt (by omega) (by omega)) (h t)
  · intro n i t hi _ K
    have l1 := gp_rs_le M i hb
    have l2 := gp_rs_le M (2 ^ M - 1) hb
    have l3 := gp_sz_le i 8
    refine br_f (nI_nlt (by omega) (by omega)) ?_
    refine gy_rank H (by omega) t sm po (fun t' => ?_)
    refine br_f (by decide) ?_
    by_cases c1 : gp_rs f s M i = gp_rs f s M (2 ^ M - 1)
    · refine br_t (by rw [c1]) ?_
      refine br_t rfl ?_
      exact nm_r (nI_1 _) (nm_r (nI_1 i) (by have e := gp_cn_t (p := gp_qs f s M) (n := i) c1; have k := K t' trivial; simp only [e] at k; exact k))
    · exact br_f (fun z => c1 ((nI_eq (by omega) (by omega)).mp z)) (nm_r (nI_1 i) (by have e := gp_cn_f (p := gp_qs f s M) (n := i) c1; have k := K t' trivial; simp only [e] at k; exact k))
theorem gy_spanning {post : Int32 → SY → Prop} {N M : Nat} {f s : Nat → Nat} (H : gp_ok N M f s) (la sm : Nat → Int32) (po : Nat → Int64) (h : ∀ t : Nat → Int32, post (nI (gp_cn (gp_qs f s M) (2 ^ M))) (nI N, nI M, (fun j => nI (f j)), (fun j => nI (s j)), t, sm, po)) : wpY_spanning post (nI N, nI M, (fun j => nI (f j)), (fun j => nI (s j)), la, sm, po) := by
  have h2 := gp_p8 H.2.2.1
  unfold wpY_spanning
  dsimp only
  unfold wpY_count
  dsimp only
  refine gy_all H.2.2.1 ?_
  refine gy_rank H (by omega) la sm po (fun t => ?_)
  exact gy_cnt_spanning H t sm po h
theorem gy_digit {post : Int32 → Prop} {N M : Int32} {a1 a2 la sm : Nat → Int32} {po : Nat → Int64} {b c p : Nat} (hb : 1 ≤ b) (hb6 : b ≤ 6) (hc : c < 2 ^ 31) (hp : p ≤ 8) (h : post (nI (gp_dg b c p))) : wpY_digit post (N, M, a1, a2, la, sm, po) (nI c) (nI b) (nI p) := by
  have q : ∃ n, wY_digit_6 post (nI b) (nI p) N M a1 a2 la sm po n (nI (c / b ^ 0)) (nI 0) := by
    refine pk_loop (σ := Unit) (fun n i _ => wY_digit_6 post (nI b) (nI p) N M a1 a2 la sm po n (nI (c / b ^ i)) (nI i)) (fun _ _ => True) p 0 () (Nat.zero_le _) trivial ?_ ?_
    · intro n _ _
      have hd : c / b ^ p < 2 ^ 31 := Nat.lt_of_le_of_lt (Nat.div_le_self _ _) hc
      refine br_t (nI_le (Nat.le_refl _) (by omega)) (br_t (nI_le (a := 1) hb (by omega)) ⟨nI_ne0 (by omega) (by omega), ?_⟩)
      rw [pk_rem hd (by omega) (by omega)]
      exact h
    · intro n i _ hi _ K
      have hd : c / b ^ i < 2 ^ 31 := Nat.lt_of_le_of_lt (Nat.div_le_self _ _) hc
      have e2 : nI (c / b ^ i) / nI b = nI (c / b ^ (i + 1)) := by
        rw [pk_div hd (by omega) (by omega), gp_dv]
      exact br_f (nI_ge hi (by omega)) (br_t (nI_le (a := 1) hb (by omega)) ⟨nI_ne0 (by omega) (by omega), nm_r e2 (nm_r (nI_1 i) (K () trivial))⟩)
  rw [Nat.pow_zero, Nat.div_one] at q
  exact q
theorem gy_power {post : Int32 → Prop} {N M : Int32} {a1 a2 la sm : Nat → Int32} {po : Nat → Int64} {b C : Nat} (hC : C ≤ 8) (h : post (nI (b ^ C))) : wpY_power post (N, M, a1, a2, la, sm, po) (nI b) (nI C) := by
  refine pk_loop (σ := Unit) (fun n i _ => wY_power_5 post (nI b) (nI C) N M a1 a2 la sm po n (nI (b ^ i)) (nI i)) (fun _ _ => True) C 0 () (Nat.zero_le _) trivial ?_ ?_
  · intro n _ _
    exact br_t (nI_le (Nat.le_refl _) (by omega)) h
  · intro n i _ hi _ K
    exact br_f (nI_ge hi (by omega)) (nm_r (e' := nI (b ^ (i + 1))) (by rw [pk_mul, Nat.pow_succ]) (nm_r (nI_1 i) (K () trivial)))
theorem gy_col39 {post : Int32 → Prop} {J : Int32 → Int32 → Prop} {N M : Nat} {f s : Nat → Nat} (H : gp_ok N M f s) {k c : Nat} (hk1 : 1 ≤ k) (hk : k ≤ 6) (hc31 : c < 2 ^ 31) (x2 x3 : Int32) (la sm : Nat → Int32) (po : Nat → Int64) (y1 : gp_qc f s M k c → J (x2 + 1) (nI (c + 1))) (y0 : ¬ gp_qc f s M k c → J x2 (nI (c + 1))) : ∃ n, wY_colourings_39 post J (nI k) x2 x3 (nI c) (nI N) (nI M) (fun j => nI (f j)) (fun j => nI (s j)) la sm po n 1 0 := by
  have HH := H
  obtain ⟨h1, h6, h8, hb⟩ := HH
  have h2 := gp_p8 h8
  refine pk_loop (σ := Int32) (fun n i g => wY_colourings_39 post J (nI k) x2 x3 (nI c) (nI N) (nI M) (fun j => nI (f j)) (fun j => nI (s j)) la sm po n g (nI i)) (fun i g => (g = 1 ∧ ∀ e, e < i → ¬ gp_dg k c (f e) = gp_dg k c (s e)) ∨ (g = 0 ∧ ¬ gp_qc f s M k c)) M 0 1 (Nat.zero_le _) (Or.inl ⟨rfl, fun e he => absurd he (by omega)⟩) ?_ ?_
  · intro n g hg
    refine br_t (nI_le (Nat.le_refl _) (by omega)) ?_
    rcases hg with ⟨rfl, hg⟩ | ⟨rfl, hg⟩
    · exact br_f (by decide) (nm_e (nm_r (nI_1 c) (y1 hg)))
    · exact br_t rfl (nm_r (nI_1 c) (y0 hg))
  · intro n i g hi hg K
    have hf := (hb i).1
    have hs := (hb i).2
    have hc : (nI i).toNatClampNeg = i := nI_clamp (by omega)
    have hcf : (nI (f i)).toNatClampNeg = f i := nI_clamp (by omega)
    have hcs : (nI (s i)).toNatClampNeg = s i := nI_clamp (by omega)
    have hin : vp_in (nI i) 9 := vp_in_nI (by omega) (by omega)
    have hif : vp_in (nI (f i)) 6 := vp_in_nI (by omega) (by omega)
    have his : vp_in (nI (s i)) 6 := vp_in_nI (by omega) (by omega)
    refine br_f (nI_ge hi (by omega)) ?_
    rcases hg with ⟨rfl, hg⟩ | ⟨rfl, hg⟩
    · refine br_f (by decide) ⟨hin, ?_⟩
      simp only [hc]
      refine gy_digit hk1 hk hc31 (by omega) ⟨hin, ?_⟩
      refine gy_digit hk1 hk hc31 (by omega) ?_
      have d1 : gp_dg k c (f i) < k := gp_dg_lt hk1
      have d2 : gp_dg k c (s i) < k := gp_dg_lt hk1
      by_cases d : gp_dg k c (f i) = gp_dg k c (s i)
      · exact br_t (by rw [d]) (nm_r (nI_1 i) (K 0 (Or.inr ⟨rfl, fun z => z i hi d⟩)))
      · exact br_f (fun z => d ((nI_eq (by omega) (by omega)).mp z)) (nm_r (nI_1 i) (K 1 (Or.inl ⟨rfl, lt_s hg d⟩)))
    · exact br_t rfl (br_t rfl (nm_r (nI_1 c) (y0 hg)))
theorem gy_col27 {post : Int32 → Prop} {N M : Nat} {f s : Nat → Nat} (H : gp_ok N M f s) {k : Nat} (hk : k ≤ 6) (la sm : Nat → Int32) (po : Nat → Int64) (h : post (nI (gp_cn (gp_qc f s M k) (k ^ N)))) : ∃ n, wY_colourings_27 post (nI k) (nI (k ^ N)) (nI N) (nI M) (fun j => nI (f j)) (fun j => nI (s j)) la sm po n 0 0 := by
  have HH := H
  obtain ⟨h1, h6, h8, hb⟩ := HH
  have h2 := gp_p8 h8
  have hw := gp_pw hk (Nat.le_trans h6 (by omega) : N ≤ 8)
  refine pk_loop (σ := Unit) (fun n i _ => wY_colourings_27 post (nI k) (nI (k ^ N)) (nI N) (nI M) (fun j => nI (f j)) (fun j => nI (s j)) la sm po n (nI (gp_cn (gp_qc f s M k) i)) (nI i)) (fun _ _ => True) (k ^ N) 0 () (Nat.zero_le _) trivial ?_ ?_
  · intro n _ _
    exact br_t (nI_le (Nat.le_refl _) hw) h
  · intro n i _ hi _ K
    have hk1 : 1 ≤ k := by
      refine Classical.byContradiction (fun z => ?_)
      have k0 : k = 0 := by omega
      rw [k0, Nat.zero_pow (by omega)] at hi
      omega
    have kk := K () trivial
    refine br_f (nI_ge hi hw) (gy_col39 H hk1 hk (by omega) _ _ la sm po (fun z => ?_) (fun z => ?_))
    · have e := gp_cn_t (p := gp_qc f s M k) (n := i) z
      simp only [e] at kk
      rw [nI_1]
      exact kk
    · have e := gp_cn_f (p := gp_qc f s M k) (n := i) z
      simp only [e] at kk
      exact kk
theorem gy_col {post : Int32 → Prop} {N M : Nat} {f s : Nat → Nat} (H : gp_ok N M f s) {k : Nat} (hk : k ≤ 6) (la sm : Nat → Int32) (po : Nat → Int64) (h : post (nI (gp_cn (gp_qc f s M k) (k ^ N)))) : wpY_colourings post (nI N, nI M, (fun j => nI (f j)), (fun j => nI (s j)), la, sm, po) (nI k) := by
  refine br_f (nI_pos (by omega)) (br_t (nI_le (b := 6) hk (by omega)) ?_)
  exact gy_power (Nat.le_trans H.2.1 (by omega)) (gy_col27 H hk la sm po h)
end
section
theorem gy_bal86 {post : Int32 → SY → Prop} {N M : Nat} {f s : Nat → Nat} (H : gp_ok N M f s) {b c : Nat} (hk : b ≤ 3) (la sm : Nat → Int32) (po : Nat → Int64) (hu : ∀ p, p < N → sm p = gp_sv f s (gp_wv b c) M p) (y1 : gp_ql f s N M b c → post 1 (nI N, nI M, (fun j => nI (f j)), (fun j => nI (s j)), la, sm, po)) (y0 : ¬ gp_ql f s N M b c → post 0 (nI N, nI M, (fun j => nI (f j)), (fun j => nI (s j)), la, sm, po)) : ∃ n, wY_balanced_86 post (nI (b + 1)) (nI N) (nI M) (fun j => nI (f j)) (fun j => nI (s j)) la sm po n 0 := by
  have HH := H
  obtain ⟨h1, h6, h8, hb⟩ := HH
  have h2 := gp_p8 h8
  refine pk_loop (σ := Unit) (fun n i _ => wY_balanced_86 post (nI (b + 1)) (nI N) (nI M) (fun j => nI (f j)) (fun j => nI (s j)) la sm po n (nI i)) (fun i _ => ∀ p, p < i → gp_sv f s (gp_wv b c) M p - gp_sv f s (gp_wv b c) M p / nI (b + 1) * nI (b + 1) = 0) N 0 () (Nat.zero_le _) (fun e he => absurd he (by omega)) ?_ ?_
  · intro n _ ht
    exact br_t (nI_le (Nat.le_refl _) (by omega)) (y1 ht)
  · intro n i _ hi ht K
    have hc : (nI i).toNatClampNeg = i := nI_clamp (by omega)
    have hin : vp_in (nI i) 6 := vp_in_nI (by omega) (by omega)
    refine br_f (nI_ge hi (by omega)) ⟨hin, br_t (nI_le (a := 1) (by omega) (by omega)) ⟨nI_ne0 (by omega) (by omega), ?_⟩⟩
    rw [hc, hu i hi]
    by_cases d : gp_sv f s (gp_wv b c) M i - gp_sv f s (gp_wv b c) M i / nI (b + 1) * nI (b + 1) = 0
    · exact br_t d (nm_r (nI_1 i) (K () (lt_s ht d)))
    · exact br_f d (y0 (fun z => d (z i hi)))
theorem gy_bal25 {post : Int32 → SY → Prop} {N M : Nat} {f s : Nat → Nat} (H : gp_ok N M f s) {b c : Nat} (hk : b ≤ 3) (hb1 : 1 ≤ b ∨ M = 0) (hc31 : c < 2 ^ 31) (la sm : Nat → Int32) (po : Nat → Int64) (h0 : ∀ p, p < N → sm p = 0) (y1 : gp_ql f s N M b c → ∀ t : Nat → Int32, post 1 (nI N, nI M, (fun j => nI (f j)), (fun j => nI (s j)), la, t, po)) (y0 : ¬ gp_ql f s N M b c → ∀ t : Nat → Int32, post 0 (nI N, nI M, (fun j => nI (f j)), (fun j => nI (s j)), la, t, po)) : ∃ n, wY_balanced_25 post (nI c) (nI (b + 1)) (nI N) (nI M) n 0 (fun j => nI (f j)) (fun j => nI (s j)) la sm po := by
  have HH := H
  obtain ⟨h1, h6, h8, hb⟩ := HH
  have h2 := gp_p8 h8
  refine pk_loop (σ := Nat → Int32) (fun n i t => wY_balanced_25 post (nI c) (nI (b + 1)) (nI N) (nI M) n (nI i) (fun j => nI (f j)) (fun j => nI (s j)) la t po) (fun i t => ∀ p, p < N → t p = gp_sv f s (gp_wv b c) i p) M 0 sm (Nat.zero_le _) h0 ?_ ?_
  · intro n t ht
    exact br_t (nI_le (Nat.le_refl _) (by omega)) (gy_bal86 H hk la t po ht (fun z => y1 z t) (fun z => y0 z t))
  · intro n i t hi ht K
    have hf := (hb i).1
    have hs := (hb i).2
    have hc : (nI i).toNatClampNeg = i := nI_clamp (by omega)
    have hcf : (nI (f i)).toNatClampNeg = f i := nI_clamp (by omega)
    have hcs : (nI (s i)).toNatClampNeg = s i := nI_clamp (by omega)
    have hin : vp_in (nI i) 9 := vp_in_nI (by omega) (by omega)
    have hif : vp_in (nI (f i)) 6 := vp_in_nI (by omega) (by omega)
    have his : vp_in (nI (s i)) 6 := vp_in_nI (by omega) (by omega)
    have ew : 1 + nI (gp_dg b c i) = gp_wv b c i := by
      rw [Int32.add_comm, nI_1]; rfl
    refine br_f (nI_ge hi (by omega)) ?_
    rw [nI_pred b]
    refine gy_digit (by omega) (by omega) hc31 (by omega) ?_
    simp only [hc, hcf, hcs]
    refine nm_r ew ⟨hin, hif, hif, nm_e ⟨hin, his, his, nm_e (nm_r (nI_1 i) (K _ ?_))⟩⟩
    exact gp_sp_c (hb i) ht
theorem gy_bal {post : Int32 → SY → Prop} {N M : Nat} {f s : Nat → Nat} (H : gp_ok N M f s) {b c : Nat} (hk : b ≤ 3) (hb1 : 1 ≤ b ∨ M = 0) (hc31 : c < 2 ^ 31) (la sm : Nat → Int32) (po : Nat → Int64) (y1 : gp_ql f s N M b c → ∀ t : Nat → Int32, post 1 (nI N, nI M, (fun j => nI (f j)), (fun j => nI (s j)), la, t, po)) (y0 : ¬ gp_ql f s N M b c → ∀ t : Nat → Int32, post 0 (nI N, nI M, (fun j => nI (f j)), (fun j => nI (s j)), la, t, po)) : wpY_balanced post (nI N, nI M, (fun j => nI (f j)), (fun j => nI (s j)), la, sm, po) (nI c) (nI (b + 1)) := by
  have HH := H
  obtain ⟨h1, h6, h8, hb⟩ := HH
  have h2 := gp_p8 h8
  refine pk_loop (σ := Nat → Int32) (fun n i t => wY_balanced_2 post (nI c) (nI (b + 1)) (nI N) (nI M) n (nI i) (fun j => nI (f j)) (fun j => nI (s j)) la t po) (fun i t => ∀ p, p < i → t p = 0) N 0 sm (Nat.zero_le _) (fun p hp => absurd hp (by omega)) ?_ ?_
  · intro n t ht
    exact br_t (nI_le (Nat.le_refl _) (by omega)) (gy_bal25 H hk hb1 hc31 la t po ht y1 y0)
  · intro n i t hi ht K
    have hc : (nI i).toNatClampNeg = i := nI_clamp (by omega)
    exact br_f (nI_ge hi (by omega)) ⟨vp_in_nI (by omega) (by omega), nm_r (e' := upd t i 0) (by rw [hc]) (nm_r (nI_1 i) (K _ (gp_up (g := fun _ => 0) ht)))⟩
theorem gy_flo29 {post : Int32 → SY → Prop} {N M : Nat} {f s : Nat → Nat} (H : gp_ok N M f s) {b : Nat} (hk : b ≤ 3) (la sm : Nat → Int32) (po : Nat → Int64) (h : ∀ t : Nat → Int32, post (nI (gp_cn (gp_ql f s N M b) (b ^ M))) (nI N, nI M, (fun j => nI (f j)), (fun j => nI (s j)), la, t, po)) : ∃ n, wY_flows_29 post (nI (b + 1)) (nI (b ^ M)) n 0 0 (nI N) (nI M) (fun j => nI (f j)) (fun j => nI (s j)) la sm po := by
  have HH := H
  obtain ⟨h1, h6, h8, hb⟩ := HH
  have h2 := gp_p8 h8
  have hw := gp_pw (b := b) (by omega) h8
  refine pk_loop (σ := Nat → Int32) (fun n i t => wY_flows_29 post (nI (b + 1)) (nI (b ^ M)) n (nI (gp_cn (gp_ql f s N M b) i)) (nI i) (nI N) (nI M) (fun j => nI (f j)) (fun j => nI (s j)) la t po) (fun _ _ => True) (b ^ M) 0 sm (Nat.zero_le _) trivial ?_ ?_
  · intro n t _
    exact br_t (nI_le (Nat.le_refl _) hw) (h t)
  · intro n i t hi _ K
    have hb1 : 1 ≤ b ∨ M = 0 := by
      refine Classical.byContradiction (fun z => ?_)
      have k0 : b = 0 := by omega
      rw [k0, Nat.zero_pow (by omega)] at hi
      omega
    refine br_f (nI_ge hi hw) ?_
    refine gy_bal H hk hb1 (by omega) la t po (fun z t2 => ?_) (fun z t2 => ?_)
    · refine br_f (by decide) (nm_r (nI_1 _) (nm_r (nI_1 i) ?_))
      have e := gp_cn_t (p := gp_ql f s N M b) (n := i) z
      have k := K t2 trivial
      simp only [e] at k
      exact k
    · refine br_t rfl (nm_r (nI_1 i) ?_)
      have e := gp_cn_f (p := gp_ql f s N M b) (n := i) z
      have k := K t2 trivial
      simp only [e] at k
      exact k
theorem gy_flo {post : Int32 → SY → Prop} {N M : Nat} {f s : Nat → Nat} (H : gp_ok N M f s) {b : Nat} (hk : b ≤ 3) (la sm : Nat → Int32) (po : Nat → Int64) (h : ∀ t : Nat → Int32, post (nI (gp_cn (gp_ql f s N M b) (b ^ M))) (nI N, nI M, (fun j => nI (f j)), (fun j => nI (s j)), la, t, po)) : wpY_flows post (nI N, nI M, (fun j => nI (f j)), (fun j => nI (s j)), la, sm, po) (nI (b + 1)) := by
  refine br_f (nI_nlt (b := 1) (by omega) (by omega)) (br_t (nI_le (b := 4) (by omega) (by omega)) ?_)
  rw [nI_pred b]
  exact gy_power H.2.2.1 (gy_flo29 H hk la sm po h)
theorem gy_nc142 {post : Int32 → SY → Prop} {N M : Nat} {f s : Nat → Nat} (H : gp_ok N M f s) {a : Nat} (la sm : Nat → Int32) (po : Nat → Int64) (hr : ∀ p, p < N → la p = nI (gp_lt (gp_fr f s a) (gp_to f s a) M (N + 1) p)) (y1 : ¬ (∃ u, u < N ∧ N ≤ gp_lt (gp_fr f s a) (gp_to f s a) M (N + 1) u) → post 1 (nI N, nI M, (fun j => nI (f j)), (fun j => nI (s j)), la, sm, po)) (y0 : (∃ u, u < N ∧ N ≤ gp_lt (gp_fr f s a) (gp_to f s a) M (N + 1) u) → post 0 (nI N, nI M, (fun j => nI (f j)), (fun j => nI (s j)), la, sm, po)) : ∃ n, wY_noCircle_142 post (nI N) (nI M) (fun j => nI (f j)) (fun j => nI (s j)) la sm po n 0 := by
  have HH := H
  obtain ⟨h1, h6, h8, hb⟩ := HH
  have h2 := gp_p8 h8
  have bd : ∀ p, gp_lt (gp_fr f s a) (gp_to f s a) M (N + 1) p ≤ 56 := fun p => Nat.le_trans (gp_lt_bd (gp_fr f s a) (gp_to f s a) M (N + 1) p) (Nat.mul_le_mul (by omega : N + 1 ≤ 7) h8)
  refine pk_loop (σ := Unit) (fun n i _ => wY_noCircle_142 post (nI N) (nI M) (fun j => nI (f j)) (fun j => nI (s j)) la sm po n (nI i)) (fun i _ => ∀ p, p < i → ¬ N ≤ gp_lt (gp_fr f s a) (gp_to f s a) M (N + 1) p) N 0 () (Nat.zero_le _) (fun e he => absurd he (by omega)) ?_ ?_
  · intro n _ ht
    exact br_t (nI_le (Nat.le_refl _) (by omega)) (y1 (fun ⟨p, hp, z⟩ => ht p hp z))
  · intro n i _ hi ht K
    have hc : (nI i).toNatClampNeg = i := nI_clamp (by omega)
    have hin : vp_in (nI i) 6 := vp_in_nI (by omega) (by omega)
    have l := bd i
    refine br_f (nI_ge hi (by omega)) ⟨hin, ?_⟩
    rw [hc, hr i hi]
    by_cases d : N ≤ gp_lt (gp_fr f s a) (gp_to f s a) M (N + 1) i
    · exact br_f (nI_nlt d (by omega)) (y0 ⟨i, hi, d⟩)
    · exact br_t (nI_lt (by omega) (by omega)) (nm_r (nI_1 i) (K () (lt_s ht d)))
theorem gy_nc35 {post : Int32 → SY → Prop} {J : Int32 → (Nat → Int32) → (Nat → Int32) → (Nat → Int32) → (Nat → Int32) → (Nat → Int64) → Prop} {N M : Nat} {f s : Nat → Nat} (H : gp_ok N M f s) {a r : Nat} (ha : a < 2 ^ 31) {l : Nat → Nat} (bl : ∀ p, l p ≤ 48) (la sm : Nat → Int32) (po : Nat → Int64) (hr : ∀ p, p < N → la p = nI (l p)) (y : ∀ t : Nat → Int32, (∀ p, p < N → t p = nI (gp_lk (gp_fr f s a) (gp_to f s a) M l p)) → J (nI (r + 1)) (fun j => nI (f j)) (fun j => nI (s j)) t sm po) : ∃ n, wY_noCircle_35 post J (nI a) (nI r) (nI N) (nI M) n 0 (fun j => nI (f j)) (fun j => nI (s j)) la sm po := by
  have HH := H
  obtain ⟨h1, h6, h8, hb⟩ := HH
  have h2 := gp_p8 h8
  refine pk_loop (σ := Nat → Int32) (fun n i t => wY_noCircle_35 post J (nI a) (nI r) (nI N) (nI M) n (nI i) (fun j => nI (f j)) (fun j => nI (s j)) t sm po) (fun i t => ∀ p, p < N → t p = nI (gp_lk (gp_fr f s a) (gp_to f s a) i l p)) M 0 la (Nat.zero_le _) hr ?_ ?_
  · intro n t ht
    exact br_t (nI_le (Nat.le_refl _) (by omega)) (nm_r (nI_1 r) (y t ht))
  · intro n i t hi ht K
    have hf := (hb i).1
    have hs := (hb i).2
    have hc : (nI i).toNatClampNeg = i := nI_clamp (by omega)
    have hcf : (nI (f i)).toNatClampNeg = f i := nI_clamp (by omega)
    have hcs : (nI (s i)).toNatClampNeg = s i := nI_clamp (by omega)
    have hin : vp_in (nI i) 9 := vp_in_nI (by omega) (by omega)
    have hif : vp_in (nI (f i)) 6 := vp_in_nI (by omega) (by omega)
    have his : vp_in (nI (s i)) 6 := vp_in_nI (by omega) (by omega)
    have bd := fun p => gp_lk_bd (fr := (gp_fr f s a)) (to := (gp_to f s a)) bl i p
    have fin : ∀ q g : Nat, q = gp_fr f s a i → g = gp_to f s a i → wY_noCircle_93 post J (wY_noCircle_35 post J (nI a) (nI r) (nI N) (nI M) n) (nI a) (nI r) (nI i) (nI q) (nI g) (nI N) (nI M) (fun j => nI (f j)) (fun j => nI (s j)) t sm po := by
      intro q g hq hg
      have lq : q < N := hq ▸ (gp_ft a hb i).1
      have lg : g < N := hg ▸ (gp_ft a hb i).2
      have hcq : (nI q).toNatClampNeg = q := nI_clamp (by omega)
      have hiq : vp_in (nI q) 6 := vp_in_nI (by omega) (by omega)
      have hcg : (nI g).toNatClampNeg = g := nI_clamp (by omega)
      have hig : vp_in (nI g) 6 := vp_in_nI (by omega) (by omega)
      have tq := ht q lq
      have tg := ht g lg
      have bq := bd q
      have bg := bd g
      unfold wY_noCircle_93
      simp only [hcq, hcg, tq, tg]
      refine ⟨hiq, hig, ?_⟩
      by_cases d : gp_lk (gp_fr f s a) (gp_to f s a) i l q ≤ gp_lk (gp_fr f s a) (gp_to f s a) i l g
      · refine br_f (nI_nlt d (by omega)) ⟨hig, hiq, nm_e (nm_r (nI_1 i) (K _ ?_))⟩
        intro p hp
        have d2 : gp_lk (gp_fr f s a) (gp_to f s a) i l (gp_fr f s a i) ≤ gp_lk (gp_fr f s a) (gp_to f s a) i l (gp_to f s a i) := by rw [← hq, ← hg]; exact d
        rw [gp_lk_s, gp_lr_t d2, nI_1, ← hq, ← hg]
        show (if p = q then _ else t p) = _
        by_cases m : p = q
        · rw [if_pos m, if_pos m]
        · rw [if_neg m, if_neg m]; exact ht p hp
      · refine br_t (nI_lt (by omega) (by omega)) (nm_r (nI_1 i) (K t ?_))
        intro p hp
        have d2 : ¬ gp_lk (gp_fr f s a) (gp_to f s a) i l (gp_fr f s a i) ≤ gp_lk (gp_fr f s a) (gp_to f s a) i l (gp_to f s a i) := by rw [← hq, ← hg]; exact d
        rw [gp_lk_s, gp_lr_f d2]
        exact ht p hp
    refine br_f (nI_ge hi (by omega)) (gy_in ha (by omega) (fun c => ?_) (fun c => ?_))
    · refine br_f (by decide) ⟨hin, ?_⟩
      refine gy_in ha (by omega) (fun _ => br_f (by decide) ⟨hin, ?_⟩) (fun c2 => absurd c c2)
      rw [hc]
      exact fin (s i) (f i) (if_pos c).symm (if_pos c).symm
    · refine br_t rfl ⟨hin, ?_⟩
      refine gy_in ha (by omega) (fun c2 => absurd c2 c) (fun _ => br_t rfl ⟨hin, ?_⟩)
      rw [hc]
      exact fin (f i) (s i) (if_neg c).symm (if_neg c).symm
theorem gy_nc25 {post : Int32 → SY → Prop} {N M : Nat} {f s : Nat → Nat} (H : gp_ok N M f s) {a : Nat} (ha : a < 2 ^ 31) (la sm : Nat → Int32) (po : Nat → Int64) (hr : ∀ p, p < N → la p = 0) (y1 : ¬ (∃ u, u < N ∧ N ≤ gp_lt (gp_fr f s a) (gp_to f s a) M (N + 1) u) → ∀ t : Nat → Int32, post 1 (nI N, nI M, (fun j => nI (f j)), (fun j => nI (s j)), t, sm, po)) (y0 : (∃ u, u < N ∧ N ≤ gp_lt (gp_fr f s a) (gp_to f s a) M (N + 1) u) → ∀ t : Nat → Int32, post 0 (nI N, nI M, (fun j => nI (f j)), (fun j => nI (s j)), t, sm, po)) : ∃ n, wY_noCircle_25 post (nI a) (nI N) (nI M) n 0 (fun j => nI (f j)) (fun j => nI (s j)) la sm po := by
  have HH := H
  obtain ⟨h1, h6, h8, hb⟩ := HH
  have h2 := gp_p8 h8
  refine pk_loop (σ := Nat → Int32) (fun n i t => wY_noCircle_25 post (nI a) (nI N) (nI M) n (nI i) (fun j => nI (f j)) (fun j => nI (s j)) t sm po) (fun i t => ∀ p, p < N → t p = nI (gp_lt (gp_fr f s a) (gp_to f s a) M i p)) (N + 1) 0 la (Nat.zero_le _) hr ?_ ?_
  · intro n t ht
    exact br_t (nI_lt (by omega) (by omega)) (gy_nc142 (a := a) H t sm po ht (fun z => y1 z t) (fun z => y0 z t))
  · intro n i t hi ht K
    have bd : ∀ p, gp_lt (gp_fr f s a) (gp_to f s a) M i p ≤ 48 := fun p => Nat.le_trans (gp_lt_bd (gp_fr f s a) (gp_to f s a) M i p) (Nat.mul_le_mul (by omega : i ≤ 6) h8)
    exact br_f (nI_nlt (by omega) (by omega)) (gy_nc35 H ha bd t sm po ht K)
theorem gy_nc {post : Int32 → SY → Prop} {N M : Nat} {f s : Nat → Nat} (H : gp_ok N M f s) {a : Nat} (ha : a < 2 ^ 31) (la sm : Nat → Int32) (po : Nat → Int64) (y1 : ¬ (∃ u, u < N ∧ N ≤ gp_lt (gp_fr f s a) (gp_to f s a) M (N + 1) u) → ∀ t : Nat → Int32, post 1 (nI N, nI M, (fun j => nI (f j)), (fun j => nI (s j)), t, sm, po)) (y0 : (∃ u, u < N ∧ N ≤ gp_lt (gp_fr f s a) (gp_to f s a) M (N + 1) u) → ∀ t : Nat → Int32, post 0 (nI N, nI M, (fun j => nI (f j)), (fun j => nI (s j)), t, sm, po)) : wpY_noCircle post (nI N, nI M, (fun j => nI (f j)), (fun j => nI (s j)), la, sm, po) (nI a) := by
  have HH := H
  obtain ⟨h1, h6, h8, hb⟩ := HH
  have h2 := gp_p8 h8
  refine pk_loop (σ := Nat → Int32) (fun n i t => wY_noCircle_2 post (nI a) (nI N) (nI M) n (nI i) (fun j => nI (f j)) (fun j => nI (s j)) t sm po) (fun i t => ∀ p, p < i → t p = 0) N 0 la (Nat.zero_le _) (fun p hp => absurd hp (by omega)) ?_ ?_
  · intro n t ht
    exact br_t (nI_le (Nat.le_refl _) (by omega)) (gy_nc25 H ha t sm po ht y1 y0)
  · intro n i t hi ht K
    have hc : (nI i).toNatClampNeg = i := nI_clamp (by omega)
    exact br_f (nI_ge hi (by omega)) ⟨vp_in_nI (by omega) (by omega), nm_r (e' := upd t i 0) (by rw [hc]) (nm_r (nI_1 i) (K _ (gp_up (g := fun _ => 0) ht)))⟩
theorem gy_acy {post : Int32 → SY → Prop} {N M : Nat} {f s : Nat → Nat} (H : gp_ok N M f s) (la sm : Nat → Int32) (po : Nat → Int64) (h : ∀ t : Nat → Int32, post (nI (gp_cn (gp_qn f s N M) (2 ^ M))) (nI N, nI M, (fun j => nI (f j)), (fun j => nI (s j)), t, sm, po)) : wpY_acyclic post (nI N, nI M, (fun j => nI (f j)), (fun j => nI (s j)), la, sm, po) := by
  have HH := H
  obtain ⟨h1, h6, h8, hb⟩ := HH
  have h2 := gp_p8 h8
  refine pk_loop (σ := Nat → Int32) (fun n i t => wY_acyclic_4 post n (nI (gp_cn (gp_qn f s N M) i)) (nI i) (nI N) (nI M) (fun j => nI (f j)) (fun j => nI (s j)) t sm po) (fun _ _ => True) (2 ^ M) 0 la (Nat.zero_le _) trivial ?_ ?_
  · intro n t _
    rw [wY_acyclic_4]
    refine gy_all h8 ?_
    exact br_t (nI_lt (by omega) (by omega)) (h t)
  · intro n i t hi _ K
    have cir := gp_circle (M := M) (gp_ft i hb)
    rw [wY_acyclic_4]
    refine gy_all h8 ?_
    refine br_f (nI_nlt (by omega) (by omega)) ?_
    refine gy_nc H (a := i) (by omega) t sm po (fun z t' => ?_) (fun z t' => ?_)
    · refine br_f (by decide) (nm_r (nI_1 _) (nm_r (nI_1 i) ?_))
      have e := gp_cn_t (p := gp_qn f s N M) (n := i) (fun g => z (cir.mp g))
      have k := K t' trivial
      simp only [e] at k
      exact k
    · refine br_t rfl (nm_r (nI_1 i) ?_)
      have e := gp_cn_f (p := gp_qn f s N M) (n := i) (fun g => g (cir.mpr z))
      have k := K t' trivial
      simp only [e] at k
      exact k
end
section
theorem gy_drop {post : Int32 → SY → Prop} {N m j : Nat} {f s : Nat → Nat} (la sm : Nat → Int32) (po : Nat → Int64) (hm : m ≤ 7) (hj : j ≤ m) (h : post (nI m) (nI N, nI m, (fun q => nI (gp_sh f j m q)), (fun q => nI (gp_sh s j m q)), la, sm, po)) : wpY_drop post (nI N, nI (m + 1), (fun j => nI (f j)), (fun j => nI (s j)), la, sm, po) (nI j) := by
  refine br_f (nI_pos (by omega)) (br_f (nI_ge (by omega) (by omega)) (br_f (by decide) ?_))
  refine pk_loop (σ := (Nat → Int32) × (Nat → Int32)) (fun n e t => wY_drop_12 post (nI N) (nI (m + 1)) n (nI e) t.1 t.2 la sm po) (fun e t => j ≤ e ∧ t = ((fun q => nI (gp_sh f j e q)), (fun q => nI (gp_sh s j e q)))) m j ((fun j => nI (f j)), (fun j => nI (s j))) hj ⟨Nat.le_refl _, by rw [gp_sh_0, gp_sh_0]⟩ ?_ ?_
  · intro n t ht
    obtain ⟨_, rfl⟩ := ht
    refine br_t (by rw [nI_pred]; exact nI_le (Nat.le_refl _) (by omega)) (nm_r (nI_pred m) h)
  · intro n e t he ht K
    obtain ⟨hie, rfl⟩ := ht
    have hc : (nI e).toNatClampNeg = e := nI_clamp (by omega)
    have hc1 : (nI e + 1).toNatClampNeg = e + 1 := by rw [nI_1]; exact nI_clamp (by omega)
    have hin : vp_in (nI e) 9 := vp_in_nI (by omega) (by omega)
    have hin1 : vp_in (nI e + 1) 9 := by rw [nI_1]; exact vp_in_nI (by omega) (by omega)
    have g : ∀ w : Nat → Nat, upd (fun q => nI (gp_sh w j e q)) (nI e).toNatClampNeg ((fun q => nI (gp_sh w j e q)) (nI e + 1).toNatClampNeg) = fun q => nI (gp_sh w j (e + 1) q) := by
      intro w
      rw [hc, hc1]
      show upd (fun q => nI (gp_sh w j e q)) e (nI (gp_sh w j e (e + 1))) = _
      rw [gp_sh_at]
      exact gp_sh_s w hie
    exact br_f (by rw [nI_pred]; exact nI_ge he (by omega)) ⟨hin1, hin, nm_r (g f) ⟨hin1, hin, nm_r (g s) (nm_r (nI_1 e) (K ((fun q => nI (gp_sh f j (e + 1) q)), (fun q => nI (gp_sh s j (e + 1) q))) ⟨by omega, rfl⟩))⟩⟩
theorem gx_merge50 {post : Int32 → SX → Prop} {N m j hi lo : Nat} {f s : Nat → Nat} (pa co fl su re : Nat → Int32) (h6 : N ≤ 6) (hb : ∀ e, f e < N ∧ s e < N) (hm : m ≤ 7) (hj : j ≤ m) (hh : hi < N) (h : post (nI m) (nI N, nI m, (fun q => nI (gp_rp (gp_sh f j m) hi lo m q)), (fun q => nI (gp_rp (gp_sh s j m) hi lo m q)), pa, co, fl, su, re)) : wX_merge_50 post (nI j) (nI lo) (nI hi) (nI N) (nI (m + 1)) (fun j => nI (f j)) (fun j => nI (s j)) pa co fl su re := by
  have e1 := gq_rp_n (f := gp_sh f j m) (hi := hi) (lo := lo) m (fun q => gp_sh_lt (fun e => (hb e).1) q) h6 hh
  have e2 := gq_rp_n (f := gp_sh s j m) (hi := hi) (lo := lo) m (fun q => gp_sh_lt (fun e => (hb e).2) q) h6 hh
  unfold wX_merge_50
  refine gx_takeOut pa co fl su re hm hj ?_
  dsimp only
  refine gx_rep_firstEnd _ _ _ _ _ _ _ _ _ (by omega) _ _ ?_
  dsimp only
  refine gx_rep_secondEnd _ _ _ _ _ _ _ _ _ (by omega) _ _ ?_
  dsimp only
  rw [e1, e2]
  exact h
theorem gy_merge81 {post : Int32 → SY → Prop} {N m hi lo : Nat} {f s : Nat → Nat} (la sm : Nat → Int32) (po : Nat → Int64) (h6 : N ≤ 6) (hb : ∀ e, f e < N ∧ s e < N) (hm : m ≤ 7) (hh : hi < N) (h : post (nI m) (nI N, nI m, (fun q => nI (gp_rp f hi lo m q)), (fun q => nI (gp_rp s hi lo m q)), la, sm, po)) : ∃ n, wY_merge_81 post (nI lo) (nI hi) (nI N) (nI m) n 0 (fun j => nI (f j)) (fun j => nI (s j)) la sm po := by
  refine pk_loop (σ := (Nat → Int32) × (Nat → Int32)) (fun n i t => wY_merge_81 post (nI lo) (nI hi) (nI N) (nI m) n (nI i) t.1 t.2 la sm po) (fun i t => t = ((fun q => nI (gp_rp f hi lo i q)), (fun q => nI (gp_rp s hi lo i q)))) m 0 ((fun j => nI (f j)), (fun j => nI (s j))) (Nat.zero_le _) (by rw [gp_rp_0, gp_rp_0]) ?_ ?_
  · intro n t ht
    subst ht
    exact br_t (nI_le (Nat.le_refl _) (by omega)) h
  · intro n i t hi2 ht K
    subst ht
    have hf := (hb i).1
    have hs := (hb i).2
    have hc : (nI i).toNatClampNeg = i := nI_clamp (by omega)
    have hin : vp_in (nI i) 9 := vp_in_nI (by omega) (by omega)
    have k := K ((fun q => nI (gp_rp f hi lo (i + 1) q)), (fun q => nI (gp_rp s hi lo (i + 1) q))) rfl
    have fin : wY_merge_109 post (wY_merge_81 post (nI lo) (nI hi) (nI N) (nI m) n) (nI lo) (nI hi) (nI i) (nI N) (nI m) (fun q => nI (gp_rp f hi lo (i + 1) q)) (fun q => nI (gp_rp s hi lo i q)) la sm po := by
      unfold wY_merge_109
      simp only [hc, gp_rp_at]
      refine ⟨hin, ?_⟩
      by_cases d : s i = hi
      · exact br_t (by rw [d]) ⟨hin, nm_r (gp_rp_t d) (nm_r (nI_1 i) k)⟩
      · simp only [gp_rp_f (lo := lo) d] at k
        exact br_f (fun z => d ((nI_eq (by omega) (by omega)).mp z)) (nm_r (nI_1 i) k)
    refine br_f (nI_ge hi2 (by omega)) ?_
    simp only [hc, gp_rp_at]
    refine ⟨hin, ?_⟩
    by_cases d : f i = hi
    · exact br_t (by rw [d]) ⟨hin, nm_r (gp_rp_t d) fin⟩
    · simp only [gp_rp_f (lo := lo) d] at fin
      exact br_f (fun z => d ((nI_eq (by omega) (by omega)).mp z)) fin
def gx_ok (N M : Nat) (f s : Nat → Nat) (u : SX) : Prop := ∃ pa co fl su re : Nat → Int32, u = (nI N, nI M, (fun j => nI (f j)), (fun j => nI (s j)), pa, co, fl, su, re)
def gy_ok (N M : Nat) (f s : Nat → Nat) (v : SY) : Prop := ∃ (la sm : Nat → Int32) (po : Nat → Int64), v = (nI N, nI M, (fun j => nI (f j)), (fun j => nI (s j)), la, sm, po)
theorem gp_o0 {x : Int32} (a : 1 ≤ x) : ¬ x < 0 := by
  intro z
  have h1 := Int32.le_iff_toInt_le.mp a
  have h2 := Int32.lt_iff_toInt_lt.mp z
  have e1 : (1 : Int32).toInt = 1 := by decide
  have e0 : (0 : Int32).toInt = 0 := by decide
  omega
def i_Rel (_ : Nat) (u : SX) (v : SY) : Prop := ∃ (N M : Nat) (f s : Nat → Nat), gp_ok N M f s ∧ gx_ok N M f s u ∧ gy_ok N M f s v
theorem gp_rel {k N M : Nat} {f s : Nat → Nat} (H : gp_ok N M f s) (pa co fl su re la sm : Nat → Int32) (po : Nat → Int64) : i_Rel k (nI N, nI M, (fun j => nI (f j)), (fun j => nI (s j)), pa, co, fl, su, re) (nI N, nI M, (fun j => nI (f j)), (fun j => nI (s j)), la, sm, po) := ⟨N, M, f, s, H, ⟨pa, co, fl, su, re, rfl⟩, ⟨la, sm, po, rfl⟩⟩
theorem i_up {k : Nat} {u : SX} {v : SY} (h : i_Rel k u v) : i_Rel (k + 3) u v := h
theorem gp_ok0 {N : Nat} (h1 : 1 ≤ N) (h6 : N ≤ 6) : gp_ok N 0 (fun _ => 0) (fun _ => 0) := ⟨h1, h6, Nat.zero_le _, fun _ => ⟨h1, h1⟩⟩
theorem gp_rel0 {k N : Nat} (h1 : 1 ≤ N) (h6 : N ≤ 6) : i_Rel k (nI N, 0, (fun _ => 0), (fun _ => 0), (fun _ => 0), (fun _ => 0), (fun _ => 0), (fun _ => 0), (fun _ => 0)) (nI N, 0, (fun _ => 0), (fun _ => 0), (fun _ => 0), (fun _ => 0), (fun _ => 0)) := gp_rel (gp_ok0 h1 h6) _ _ _ _ _ _ _ _
theorem i_vc0 (k0 : Int32) : wpX_init (fun u => wpY_init (fun v => i_Rel 1 u v) k0) k0 := by
  by_cases a : 1 ≤ k0
  · by_cases b : k0 ≤ 6
    · obtain ⟨j, hj, rfl⟩ := nI_of2 (M := 6) (n := 6) (by decide) (gp_o0 a) b
      have h1 : 1 ≤ j := (nI_leI (a := 1) (by omega) (by omega)).mp a
      exact br_t a (br_t b (br_t a (br_t b (gp_rel0 h1 hj))))
    · exact br_t a (br_f b (br_t a (br_f b (gp_rel0 (N := 6) (by omega) (by omega)))))
  · exact br_f a (br_f a (gp_rel0 (N := 1) (by omega) (by omega)))
end
section
theorem i_vc_add {k : Nat} {u : SX} {v : SY} (I : i_Rel k u v) (hk : k + 3 ≤ 1537) (v1 : Int32) (v2 : Int32) : wpX_add (fun r u' => wpY_add (fun r' v' => r' = r ∧ i_Rel (k + 3) u' v') v v1 v2) u v1 v2 := by
  obtain ⟨N, M, f, s, H, ⟨pa, co, fl, su, re, rfl⟩, ⟨la, sm, po, rfl⟩⟩ := I
  have HH := H
  obtain ⟨h1, h6, h8, hb⟩ := HH
  by_cases m8 : M = 8
  · subst m8
    exact br_f (nI_nlt (b := 8) (Nat.le_refl 8) (by omega)) (br_t rfl ⟨rfl, gp_rel H _ _ _ _ _ _ _ _⟩)
  · have hX : nI M < 8 := nI_lt (b := 8) (by omega) (by omega)
    have hY : ¬ nI M = 8 := fun z => m8 ((nI_eq (b := 8) (by omega) (by omega)).mp z)
    have hc : (nI M).toNatClampNeg = M := nI_clamp (by omega)
    by_cases a : v1 < 0
    · exact br_t hX (br_t a (br_f hY (br_t a (br_t rfl ⟨rfl, gp_rel H _ _ _ _ _ _ _ _⟩))))
    · by_cases b : nI N ≤ v1
      · exact br_t hX (br_f a (br_t b (br_f hY (br_f a (br_t b (br_t rfl ⟨rfl, gp_rel H _ _ _ _ _ _ _ _⟩))))))
      · by_cases c : v2 < 0
        · exact br_t hX (br_f a (br_f b (br_t c (br_f hY (br_f a (br_f b (br_f (by decide) (br_t c (br_t rfl ⟨rfl, gp_rel H _ _ _ _ _ _ _ _⟩)))))))))
        · by_cases d : nI N ≤ v2
          · exact br_t hX (br_f a (br_f b (br_f c (br_f (Int32.not_lt.mpr d) (br_f hY (br_f a (br_f b (br_f (by decide) (br_f c (br_t d (br_t rfl ⟨rfl, gp_rel H _ _ _ _ _ _ _ _⟩)))))))))))
          · obtain ⟨j, hj, rfl⟩ : ∃ j, j < N ∧ v1 = nI j := by
              rcases pk_ix v1 (n := N) (by omega) with z | z | z
              · exact absurd z a
              · exact absurd z b
              · exact z
            obtain ⟨l, hl, rfl⟩ : ∃ j, j < N ∧ v2 = nI j := by
              rcases pk_ix v2 (n := N) (by omega) with z | z | z
              · exact absurd z c
              · exact absurd z d
              · exact z
            have e1 : upd (fun j => nI (f j)) (nI M).toNatClampNeg (nI j) = fun q => nI (gp_ad f M j q) := by rw [hc]; exact gp_ad_u f M j
            have e2 : upd (fun j => nI (s j)) (nI M).toNatClampNeg (nI l) = fun q => nI (gp_ad s M l q) := by rw [hc]; exact gp_ad_u s M l
            have hin8 : vp_in (nI M) 8 := vp_in_nI (by omega) (by omega)
            have hin9 : vp_in (nI M) 9 := vp_in_nI (by omega) (by omega)
            have ok : gp_ok N (M + 1) (gp_ad f M j) (gp_ad s M l) := ⟨h1, h6, by omega, fun e => ⟨gp_ad_lt (fun e => (hb e).1) hj e, gp_ad_lt (fun e => (hb e).2) hl e⟩⟩
            refine br_t hX (br_f a (br_f b (br_f c (br_t (nI_lt hl (by omega)) ⟨hin8, nm_r e1 ⟨hin8, nm_r e2 (nm_r (nI_1 M) ?_)⟩⟩))))
            exact br_f hY (br_f a (br_f b (br_f (by decide) (br_f c (br_f d (br_f (by decide) ⟨hin9, nm_r e1 ⟨hin9, nm_r e2 (nm_r (nI_1 M) ⟨rfl, gp_rel ok _ _ _ _ _ _ _ _⟩)⟩⟩))))))
theorem i_vc_drop {k : Nat} {u : SX} {v : SY} (I : i_Rel k u v) (hk : k + 3 ≤ 1537) (v1 : Int32) : wpX_drop (fun r u' => wpY_drop (fun r' v' => r' = r ∧ i_Rel (k + 3) u' v') v v1) u v1 := by
  obtain ⟨N, M, f, s, H, ⟨pa, co, fl, su, re, rfl⟩, ⟨la, sm, po, rfl⟩⟩ := I
  have HH := H
  obtain ⟨h1, h6, h8, hb⟩ := HH
  by_cases a : v1 < 0
  · exact br_t a (br_t a (br_t rfl ⟨rfl, gp_rel H _ _ _ _ _ _ _ _⟩))
  · by_cases b : nI M ≤ v1
    · exact br_f a (br_f (Int32.not_lt.mpr b) (br_f a (br_t b (br_t rfl ⟨rfl, gp_rel H _ _ _ _ _ _ _ _⟩))))
    · obtain ⟨j, hj, rfl⟩ : ∃ j, j < M ∧ v1 = nI j := by
        rcases pk_ix v1 (n := M) (by omega) with z | z | z
        · exact absurd z a
        · exact absurd z b
        · exact z
      obtain ⟨m, rfl⟩ : ∃ m, M = m + 1 := ⟨M - 1, by omega⟩
      have hb' : ∀ e, gp_sh f j m e < N ∧ gp_sh s j m e < N := fun e => ⟨gp_sh_lt (fun e => (hb e).1) e, gp_sh_lt (fun e => (hb e).2) e⟩
      have ok : gp_ok N m (gp_sh f j m) (gp_sh s j m) := ⟨h1, h6, by omega, hb'⟩
      refine br_f a (br_t (nI_lt hj (by omega)) ?_)
      refine gx_takeOut pa co fl su re (by omega) (by omega) ?_
      exact gy_drop la sm po (by omega) (by omega) ⟨rfl, gp_rel ok _ _ _ _ _ _ _ _⟩
theorem i_vc_merge {k : Nat} {u : SX} {v : SY} (I : i_Rel k u v) (hk : k + 3 ≤ 1537) (v1 : Int32) : wpX_merge (fun r u' => wpY_merge (fun r' v' => r' = r ∧ i_Rel (k + 3) u' v') v v1) u v1 := by
  obtain ⟨N, M, f, s, H, ⟨pa, co, fl, su, re, rfl⟩, ⟨la, sm, po, rfl⟩⟩ := I
  have HH := H
  obtain ⟨h1, h6, h8, hb⟩ := HH
  by_cases a : v1 < 0
  · exact br_t a (br_t a (br_t rfl ⟨rfl, gp_rel H _ _ _ _ _ _ _ _⟩))
  · by_cases b : nI M ≤ v1
    · exact br_f a (br_f (Int32.not_lt.mpr b) (br_f a (br_t b (br_t rfl ⟨rfl, gp_rel H _ _ _ _ _ _ _ _⟩))))
    · obtain ⟨j, hj, rfl⟩ : ∃ j, j < M ∧ v1 = nI j := by
        rcases pk_ix v1 (n := M) (by omega) with z | z | z
        · exact absurd z a
        · exact absurd z b
        · exact z
      obtain ⟨m, rfl⟩ : ∃ m, M = m + 1 := ⟨M - 1, by omega⟩
      have hb' : ∀ e, gp_sh f j m e < N ∧ gp_sh s j m e < N := fun e => ⟨gp_sh_lt (fun e => (hb e).1) e, gp_sh_lt (fun e => (hb e).2) e⟩
      have hf := (hb j).1
      have hs := (hb j).2
      have hc : (nI j).toNatClampNeg = j := nI_clamp (by omega)
      have ef : (fun j => nI (f j)) (nI j).toNatClampNeg = nI (f j) := by rw [hc]
      have es : (fun j => nI (s j)) (nI j).toNatClampNeg = nI (s j) := by rw [hc]
      have hin8 : vp_in (nI j) 8 := vp_in_nI (by omega) (by omega)
      have hin9 : vp_in (nI j) 9 := vp_in_nI (by omega) (by omega)
      by_cases c : s j ≤ f j
      · have le : nI (s j) ≤ nI (f j) := nI_le c (by omega)
        have ok : gp_ok N m (gp_rp (gp_sh f j m) (f j) (s j) m) (gp_rp (gp_sh s j m) (f j) (s j) m) := ⟨h1, h6, by omega, fun e => ⟨gp_rp_lt m (fun e => (hb' e).1) (hb j).2 e, gp_rp_lt m (fun e => (hb' e).2) (hb j).2 e⟩⟩
        refine br_f a (br_t (nI_lt hj (by omega)) ⟨hin8, nm_r ef ⟨hin8, nm_r es ?_⟩⟩)
        refine br_t le (br_t le ?_)
        refine gx_merge50 pa co fl su re h6 hb (by omega) (by omega) (hb j).1 ?_
        refine br_f a (br_f b (br_f (by decide) ⟨hin9, hin9, ?_⟩))
        rw [ef, es]
        refine br_t le ⟨hin9, hin9, hin9, ?_⟩
        rw [ef, es]
        refine br_t le ⟨hin9, ?_⟩
        unfold wY_merge_71
        refine gy_drop la sm po (by omega) (by omega) ?_
        exact gy_merge81 la sm po h6 hb' (by omega) (hb j).1 ⟨rfl, gp_rel ok _ _ _ _ _ _ _ _⟩
      · have le : ¬ nI (s j) ≤ nI (f j) := nI_ge (by omega) (by omega)
        have ok : gp_ok N m (gp_rp (gp_sh f j m) (s j) (f j) m) (gp_rp (gp_sh s j m) (s j) (f j) m) := ⟨h1, h6, by omega, fun e => ⟨gp_rp_lt m (fun e => (hb' e).1) (hb j).1 e, gp_rp_lt m (fun e => (hb' e).2) (hb j).1 e⟩⟩
        refine br_f a (br_t (nI_lt hj (by omega)) ⟨hin8, nm_r ef ⟨hin8, nm_r es ?_⟩⟩)
        refine br_f le (br_f le ?_)
        refine gx_merge50 pa co fl su re h6 hb (by omega) (by omega) (hb j).2 ?_
        refine br_f a (br_f b (br_f (by decide) ⟨hin9, hin9, ?_⟩))
        rw [ef, es]
        refine br_f le ⟨hin9, hin9, hin9, ?_⟩
        rw [ef, es]
        refine br_f le ⟨hin9, ?_⟩
        unfold wY_merge_71
        refine gy_drop la sm po (by omega) (by omega) ?_
        exact gy_merge81 la sm po h6 hb' (by omega) (hb j).2 ⟨rfl, gp_rel ok _ _ _ _ _ _ _ _⟩
theorem i_vc_edges {k : Nat} {u : SX} {v : SY} (I : i_Rel k u v) (hk : k + 3 ≤ 1537) : wpX_edges (fun r => wpY_edges (fun r' => r' = r ∧ i_Rel (k + 3) u v) v) u := by
  obtain ⟨N, M, f, s, H, ⟨pa, co, fl, su, re, rfl⟩, ⟨la, sm, po, rfl⟩⟩ := I
  exact ⟨rfl, gp_rel H _ _ _ _ _ _ _ _⟩
theorem i_vc_parts {k : Nat} {u : SX} {v : SY} (I : i_Rel k u v) (hk : k + 3 ≤ 1537) : wpX_parts (fun r u' => wpY_parts (fun r' v' => r' = r ∧ i_Rel (k + 3) u' v') v) u := by
  obtain ⟨N, M, f, s, H, ⟨pa, co, fl, su, re, rfl⟩, ⟨la, sm, po, rfl⟩⟩ := I
  exact gx_parts H pa co fl su re (fun t => gy_parts H la sm po (fun t' => ⟨rfl, gp_rel H _ _ _ _ _ _ _ _⟩))
theorem i_vc_trees {k : Nat} {u : SX} {v : SY} (I : i_Rel k u v) (hk : k + 3 ≤ 1537) : wpX_trees (fun r u' => wpY_trees (fun r' v' => r' = r ∧ i_Rel (k + 3) u' v') v) u := by
  obtain ⟨N, M, f, s, H, ⟨pa, co, fl, su, re, rfl⟩, ⟨la, sm, po, rfl⟩⟩ := I
  exact gx_trees H pa co fl su re (fun t => gy_trees H la sm po (fun t' => ⟨rfl, gp_rel H _ _ _ _ _ _ _ _⟩))
theorem i_vc_forests {k : Nat} {u : SX} {v : SY} (I : i_Rel k u v) (hk : k + 3 ≤ 1537) : wpX_forests (fun r u' => wpY_forests (fun r' v' => r' = r ∧ i_Rel (k + 3) u' v') v) u := by
  obtain ⟨N, M, f, s, H, ⟨pa, co, fl, su, re, rfl⟩, ⟨la, sm, po, rfl⟩⟩ := I
  exact gx_forests H pa co fl su re (fun t => gy_forests H la sm po (fun t' => ⟨rfl, gp_rel H _ _ _ _ _ _ _ _⟩))
theorem i_vc_spanning {k : Nat} {u : SX} {v : SY} (I : i_Rel k u v) (hk : k + 3 ≤ 1537) : wpX_spanning (fun r u' => wpY_spanning (fun r' v' => r' = r ∧ i_Rel (k + 3) u' v') v) u := by
  obtain ⟨N, M, f, s, H, ⟨pa, co, fl, su, re, rfl⟩, ⟨la, sm, po, rfl⟩⟩ := I
  exact gx_spanning H pa co fl su re (fun t => gy_spanning H la sm po (fun t' => ⟨rfl, gp_rel H _ _ _ _ _ _ _ _⟩))
theorem i_vc_acyclic {k : Nat} {u : SX} {v : SY} (I : i_Rel k u v) (hk : k + 3 ≤ 1537) : wpX_acyclic (fun r u' => wpY_acyclic (fun r' v' => r' = r ∧ i_Rel (k + 3) u' v') v) u := by
  obtain ⟨N, M, f, s, H, ⟨pa, co, fl, su, re, rfl⟩, ⟨la, sm, po, rfl⟩⟩ := I
  exact gx_acy H pa co fl su re (fun t => gy_acy H la sm po (fun t' => ⟨rfl, gp_rel H _ _ _ _ _ _ _ _⟩))
theorem i_vc_coefficient {k : Nat} {u : SX} {v : SY} (I : i_Rel k u v) (hk : k + 3 ≤ 1537) (v1 : Int32) (v2 : Int32) : wpX_coefficient (fun r u' => wpY_coefficient (fun r' v' => r' = r ∧ i_Rel (k + 3) u' v') v v1 v2) u v1 v2 := by
  obtain ⟨N, M, f, s, H, ⟨pa, co, fl, su, re, rfl⟩, ⟨la, sm, po, rfl⟩⟩ := I
  by_cases a : v1 < 0
  · exact br_t a (br_t a ⟨rfl, gp_rel H _ _ _ _ _ _ _ _⟩)
  · by_cases b : 8 < v1
    · exact br_f a (br_t b (br_f a (br_t b ⟨rfl, gp_rel H _ _ _ _ _ _ _ _⟩)))
    · by_cases c : v2 < 0
      · exact br_f a (br_f b (br_t c (br_f a (br_f b (br_t c ⟨rfl, gp_rel H _ _ _ _ _ _ _ _⟩)))))
      · by_cases d : v2 ≤ 8
        · obtain ⟨x, hx, rfl⟩ := nI_of2 (M := 8) (n := 8) (by decide) a (Int32.not_lt.mp b)
          obtain ⟨y, hy, rfl⟩ := nI_of2 (M := 8) (n := 8) (by decide) c d
          exact gx_coef H hx hy pa co fl su re (fun t => gy_coef H hx hy la sm po (fun t' q => ⟨rfl, gp_rel H _ _ _ _ _ _ _ _⟩))
        · exact br_f a (br_f b (br_f c (br_f d (br_f a (br_f b (br_f c (br_f d ⟨rfl, gp_rel H _ _ _ _ _ _ _ _⟩)))))))
theorem i_vc_colourings {k : Nat} {u : SX} {v : SY} (I : i_Rel k u v) (hk : k + 3 ≤ 1537) (v1 : Int32) : wpX_colourings (fun r u' => wpY_colourings (fun r' => r' = r ∧ i_Rel (k + 3) u' v) v v1) u v1 := by
  obtain ⟨N, M, f, s, H, ⟨pa, co, fl, su, re, rfl⟩, ⟨la, sm, po, rfl⟩⟩ := I
  by_cases a : v1 < 0
  · exact br_t a (br_t a ⟨rfl, gp_rel H _ _ _ _ _ _ _ _⟩)
  · by_cases b : v1 ≤ 6
    · obtain ⟨x, hx, rfl⟩ := nI_of2 (M := 6) (n := 6) (by decide) a b
      exact gx_col H hx pa co fl su re (fun t => gy_col H hx la sm po ⟨rfl, gp_rel H _ _ _ _ _ _ _ _⟩)
    · exact br_f a (br_f b (br_f a (br_f b ⟨rfl, gp_rel H _ _ _ _ _ _ _ _⟩)))
theorem i_vc_flows {k : Nat} {u : SX} {v : SY} (I : i_Rel k u v) (hk : k + 3 ≤ 1537) (v1 : Int32) : wpX_flows (fun r u' => wpY_flows (fun r' v' => r' = r ∧ i_Rel (k + 3) u' v') v v1) u v1 := by
  obtain ⟨N, M, f, s, H, ⟨pa, co, fl, su, re, rfl⟩, ⟨la, sm, po, rfl⟩⟩ := I
  by_cases a : v1 < 1
  · exact br_t a (br_t a ⟨rfl, gp_rel H _ _ _ _ _ _ _ _⟩)
  · by_cases b : v1 ≤ 4
    · have a1 : 1 ≤ v1 := Int32.not_lt.mp a
      obtain ⟨x, hx, rfl⟩ := nI_of2 (M := 4) (n := 4) (by decide) (gp_o0 a1) b
      have h1 : 1 ≤ x := (nI_leI (a := 1) (by omega) (by omega)).mp a1
      obtain ⟨y, rfl⟩ : ∃ y, x = y + 1 := ⟨x - 1, by omega⟩
      exact gx_flo H (by omega) pa co fl su re (fun t1 t2 => gy_flo H (by omega) la sm po (fun t' => ⟨rfl, gp_rel H _ _ _ _ _ _ _ _⟩))
    · exact br_f a (br_f b (br_f a (br_f b ⟨rfl, gp_rel H _ _ _ _ _ _ _ _⟩)))
end
