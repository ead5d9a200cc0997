theorem gp_or (a b : Nat) : nI a ||| nI b = nI (a ||| b) := by
  apply Int32.toBitVec_inj.1
  show BitVec.ofNat 32 a ||| BitVec.ofNat 32 b = BitVec.ofNat 32 (a ||| b)
  apply BitVec.eq_of_getLsbD_eq
  intro i hi
  simp [hi]
theorem gp_bit {k j : Nat} (hk : k < 2 ^ 31) (hj : j < 32) : (nI k >>> (nI j &&& 31)) &&& 1 = nI (k.testBit j).toNat := by
  have h2 : k / 2 ^ j ≤ k := Nat.div_le_self _ _
  rw [pk_shrN hk _ j (s_l j hj), pk_andN (n := k / 2 ^ j) (Nat.lt_of_le_of_lt h2 (by omega)) 1 (by decide)]
  exact congrArg nI (Nat.toNat_testBit k j).symm
theorem gp_bit1 {k j : Nat} (hk : k < 2 ^ 31) (hj : j < 32) : (nI k >>> (nI j &&& 31)) &&& 1 = 1 ↔ k.testBit j = true := by
  rw [gp_bit hk hj]
  cases k.testBit j
  · exact ⟨fun h => absurd h (by decide +kernel), fun h => absurd h (by decide)⟩
  · exact ⟨fun _ => rfl, fun _ => by decide +kernel⟩
theorem gp_shl {j : Nat} (hj : j < 31) : (1 : Int32) <<< (nI j &&& 31) = nI (2 ^ j) := by
  have h : 1 * 2 ^ j < 2 ^ 32 := by
    rw [Nat.one_mul]
    exact Nat.pow_lt_pow_right (by omega) (by omega)
  have e := pk_shlN (n := 1) (nI j &&& 31) j (s_l j (by omega)) h
  rw [Nat.one_mul] at e
  exact e
theorem gp_p8 {M : Nat} (h : M ≤ 8) : 1 ≤ 2 ^ M ∧ 2 ^ M ≤ 256 := by
  have h2 : 2 ^ M ≤ 2 ^ 8 := Nat.pow_le_pow_right (by omega) h
  exact ⟨Nat.one_le_two_pow, h2⟩
theorem gp_full {M : Nat} (h : M ≤ 8) : (1 : Int32) <<< (nI M &&& 31) - 1 = nI (2 ^ M - 1) := by
  rw [gp_shl (by omega)]
  exact pk_sub (b := 1) (gp_p8 h).1
def gp_sz (a : Nat) : Nat → Nat
  | 0 => 0
  | n + 1 => gp_sz a n + (a.testBit n).toNat
theorem gp_sz_le (a : Nat) : ∀ n, gp_sz a n ≤ n := by
  intro n
  induction n with
  | zero => exact Nat.le_refl 0
  | succ n ih =>
    show gp_sz a n + (a.testBit n).toNat ≤ n + 1
    have : (a.testBit n).toNat ≤ 1 := Bool.toNat_le _
    omega
theorem gp_sz_up {a M : Nat} (h : a < 2 ^ M) : ∀ d, gp_sz a (M + d) = gp_sz a M := by
  intro d
  induction d with
  | zero => rfl
  | succ d ih =>
    show gp_sz a (M + d) + (a.testBit (M + d)).toNat = gp_sz a M
    have : a.testBit (M + d) = false := Nat.testBit_lt_two_pow (Nat.lt_of_lt_of_le h (Nat.pow_le_pow_right (by omega) (by omega)))
    rw [this, ih]; rfl
theorem gp_sz_8 {a M : Nat} (hM : M ≤ 8) (h : a < 2 ^ M) : gp_sz a 8 = gp_sz a M := by
  have e := gp_sz_up h (8 - M)
  rwa [show M + (8 - M) = 8 by omega] at e
def gp_cx (a : Nat) : Nat → Int32
  | 0 => 1
  | k + 1 => gp_cx a k * (nI a - nI (k + 1) + 1) / nI (k + 1)
def gp_cy (a : Nat) : Nat → Int64
  | 0 => 1
  | k + 1 => gp_cy a k * (nI a - nI (k + 1) + 1).toInt64 / (nI (k + 1)).toInt64
theorem gp_cxy : ∀ a, a < 9 → ∀ i, i < 9 → i ≤ a → (gp_cy a i).toInt32 = gp_cx a i := by decide +kernel
def gp_sg (d : Nat) (x : Int32) : Int32 := if d % 2 = 0 then x else -x
def gp_sl (d : Nat) (x : Int64) : Int64 := if d % 2 = 0 then x else -x
def gp_ex (A r i : Nat) : Int32 := if r + i ≤ A then gp_sg (A - r - i) (gp_cx (A - r) i) else 0
theorem gp_sg2 (d c : Nat) (x y : Int32) : gp_sg (d + c) (x * y) = gp_sg d x * gp_sg c y := by
  unfold gp_sg
  by_cases h1 : d % 2 = 0 <;> by_cases h2 : c % 2 = 0
  · rw [if_pos h1, if_pos h2, if_pos (by omega)]
  · rw [if_pos h1, if_neg h2, if_neg (by omega)]; grind
  · rw [if_neg h1, if_pos h2, if_neg (by omega)]; grind
  · rw [if_neg h1, if_neg h2, if_pos (by omega)]; grind
theorem gp_sl32 (d : Nat) (x : Int64) : (gp_sl d x).toInt32 = gp_sg d x.toInt32 := by
  unfold gp_sl gp_sg
  by_cases h : d % 2 = 0
  · rw [if_pos h, if_pos h]
  · rw [if_neg h, if_neg h, Int64.toInt32_neg]
theorem gp_par (d : Nat) (h : d < 2 ^ 31) : (nI d - nI d / 2 * 2 = 0) ↔ d % 2 = 0 := by
  have e := pk_rem (a := d) (d := 2) h (by omega) (by omega)
  have e2 : nI d - nI d / 2 * 2 = nI (d % 2) := e
  rw [e2, ← nI_0, nI_eq (by omega) (by omega)]
def gp_tm (a b i j : Nat) : Int64 := gp_sl (a - i + b - j) (gp_cy a i * gp_cy b j)
def gp_pl (old : Nat → Int64) (a b i j : Nat) : Nat → Int64 := fun q => old q + (if (q / 9 < i ∧ q % 9 ≤ b) ∨ (q / 9 = i ∧ q % 9 < j) then gp_tm a b (q / 9) (q % 9) else 0)
theorem gp_pl_0 (old : Nat → Int64) (a b : Nat) : gp_pl old a b 0 0 = old := by
  funext q
  unfold gp_pl
  rw [if_neg (by omega), Int64.add_zero]
theorem gp_pl_s (old : Nat → Int64) (a b i j : Nat) (hj : j < 9) : vp_updL (gp_pl old a b i j) (9 * i + j) (gp_pl old a b i j (9 * i + j) + gp_tm a b i j) = gp_pl old a b i (j + 1) := by
  funext q
  unfold vp_updL
  by_cases c : q = 9 * i + j
  · subst c
    have e1 : (9 * i + j) / 9 = i := by omega
    have e2 : (9 * i + j) % 9 = j := by omega
    rw [if_pos rfl]
    unfold gp_pl
    rw [e1, e2, if_neg (by omega), if_pos (by omega), Int64.add_zero]
  · rw [if_neg c]
    unfold gp_pl
    by_cases d : (q / 9 < i ∧ q % 9 ≤ b) ∨ (q / 9 = i ∧ q % 9 < j)
    · rw [if_pos d, if_pos (by omega)]
    · rw [if_neg d, if_neg (by omega)]
theorem gp_pl_n (old : Nat → Int64) (a b i : Nat) : gp_pl old a b i (b + 1) = gp_pl old a b (i + 1) 0 := by
  funext q
  unfold gp_pl
  by_cases d : (q / 9 < i ∧ q % 9 ≤ b) ∨ (q / 9 = i ∧ q % 9 < b + 1)
  · rw [if_pos d, if_pos (by omega)]
  · rw [if_neg d, if_neg (by omega)]
theorem gp_tm32 {a b i j : Nat} (ha : a < 9) (hb : b < 9) (hi : i ≤ a) (hj : j ≤ b) : (gp_tm a b i j).toInt32 = gp_sg (a - i) (gp_cx a i) * gp_sg (b - j) (gp_cx b j) := by
  unfold gp_tm
  rw [gp_sl32, Int64.toInt32_mul, gp_cxy a ha i (by omega) hi, gp_cxy b hb j (by omega) hj, ← gp_sg2]
  rw [show a - i + b - j = a - i + (b - j) by omega]
theorem gp_z : (0 : Int64).toInt32 = 0 := by decide +kernel
theorem gp_pl_v {old : Nat → Int64} {A B r i j : Nat} (hA : A < 9) (hB : B < 9) (hra : r ≤ A) (hrb : r ≤ B) (hj : j < 9) : (gp_pl old (A - r) (B - r) (A - r + 1) 0 (9 * i + j)).toInt32 = (old (9 * i + j)).toInt32 + gp_ex A r i * gp_ex B r j := by
  have e1 : (9 * i + j) / 9 = i := by omega
  have e2 : (9 * i + j) % 9 = j := by omega
  unfold gp_pl gp_ex
  rw [e1, e2, Int64.toInt32_add]
  by_cases h1 : r + i ≤ A
  · by_cases h2 : r + j ≤ B
    · rw [if_pos (by omega), if_pos h1, if_pos h2, gp_tm32 (by omega) (by omega) (by omega) (by omega)]
    · rw [if_neg (by omega), if_neg h2, Int32.mul_zero, gp_z]
  · rw [if_neg (by omega), if_neg h1, Int32.zero_mul, gp_z]
def gp_dg (b c p : Nat) : Nat := c / b ^ p % b
theorem gp_dg_lt {b c p : Nat} (h : 0 < b) : gp_dg b c p < b := Nat.mod_lt _ h
theorem gp_dv (b c p : Nat) : c / b ^ (p + 1) = c / b ^ p / b := by
  rw [Nat.pow_succ, Nat.div_div_eq_div_mul]
theorem gp_pw {b n : Nat} (hb : b ≤ 6) (hn : n ≤ 8) : b ^ n < 2 ^ 31 := by
  have h1 : b ^ n ≤ 6 ^ n := Nat.pow_le_pow_left hb n
  have h2 : 6 ^ n ≤ 6 ^ 8 := Nat.pow_le_pow_right (by omega) hn
  have h3 : (6 : Nat) ^ 8 < 2 ^ 31 := by decide
  omega
