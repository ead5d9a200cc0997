def gp_sh (f : Nat → Nat) (i e : Nat) : Nat → Nat := fun j => if i ≤ j ∧ j < e then f (j + 1) else f j
theorem gp_sh_0 (f : Nat → Nat) (i : Nat) : gp_sh f i i = f := by
  funext j
  unfold gp_sh
  rw [if_neg (by omega)]
theorem gp_sh_at (f : Nat → Nat) (i e : Nat) : gp_sh f i e (e + 1) = f (e + 1) := by
  unfold gp_sh
  rw [if_neg (by omega)]
theorem gp_sh_s (f : Nat → Nat) {i e : Nat} (h : i ≤ e) : upd (fun j => nI (gp_sh f i e j)) e (nI (f (e + 1))) = fun j => nI (gp_sh f i (e + 1) j) := by
  funext j
  unfold upd gp_sh
  by_cases c : j = e
  · subst c
    rw [if_pos rfl, if_pos (by omega)]
  · rw [if_neg c]
    dsimp only
    by_cases d : i ≤ j ∧ j < e
    · rw [if_pos d, if_pos (by omega)]
    · rw [if_neg d, if_neg (by omega)]
theorem gp_sh_lt {f : Nat → Nat} {i e N : Nat} (h : ∀ j, f j < N) (j : Nat) : gp_sh f i e j < N := by
  unfold gp_sh
  by_cases c : i ≤ j ∧ j < e
  · rw [if_pos c]; exact h _
  · rw [if_neg c]; exact h _
def gq_rp (a : Nat → Int32) (old fresh : Int32) (k : Nat) : Nat → Int32 := fun j => if j < k ∧ a j = old then fresh else a j
theorem gq_rp_0 (a : Nat → Int32) (old fresh : Int32) : gq_rp a old fresh 0 = a := by
  funext j
  unfold gq_rp
  rw [if_neg (by omega)]
theorem gq_rp_at (a : Nat → Int32) (old fresh : Int32) (k : Nat) : gq_rp a old fresh k k = a k := by
  unfold gq_rp
  rw [if_neg (by omega)]
theorem gq_rp_t {a : Nat → Int32} {old fresh : Int32} {k : Nat} (h : a k = old) : upd (gq_rp a old fresh k) k fresh = gq_rp a old fresh (k + 1) := by
  funext j
  unfold upd gq_rp
  by_cases c : j = k
  · subst c
    rw [if_pos rfl, if_pos ⟨by omega, h⟩]
  · rw [if_neg c]
    by_cases d : j < k ∧ a j = old
    · rw [if_pos d, if_pos ⟨by omega, d.2⟩]
    · rw [if_neg d, if_neg (fun z => d ⟨by omega, z.2⟩)]
theorem gq_rp_f {a : Nat → Int32} {old fresh : Int32} {k : Nat} (h : ¬ a k = old) : gq_rp a old fresh k = gq_rp a old fresh (k + 1) := by
  funext j
  unfold gq_rp
  by_cases d : j < k ∧ a j = old
  · rw [if_pos d, if_pos ⟨by omega, d.2⟩]
  · have nn : ¬ (j < k + 1 ∧ a j = old) := by
      rintro ⟨z1, z2⟩
      by_cases c : j = k
      · subst c; exact h z2
      · exact d ⟨by omega, z2⟩
    rw [if_neg d, if_neg nn]
def gp_rp (f : Nat → Nat) (hi lo k : Nat) : Nat → Nat := fun j => if j < k ∧ f j = hi then lo else f j
theorem gq_rp_n {f : Nat → Nat} {N hi lo : Nat} (k : Nat) (hf : ∀ j, f j < N) (hN : N ≤ 6) (hh : hi < N) : gq_rp (fun j => nI (f j)) (nI hi) (nI lo) k = fun j => nI (gp_rp f hi lo k j) := by
  funext j
  unfold gq_rp gp_rp
  have e : nI (f j) = nI hi ↔ f j = hi := nI_eq (by have := hf j; omega) (by omega)
  by_cases c : j < k ∧ f j = hi
  · rw [if_pos c, if_pos ⟨c.1, e.mpr c.2⟩]
  · rw [if_neg c, if_neg (fun z => c ⟨z.1, e.mp z.2⟩)]
theorem gp_rp_lt {f : Nat → Nat} {N hi lo : Nat} (k : Nat) (hf : ∀ j, f j < N) (hl : lo < N) (j : Nat) : gp_rp f hi lo k j < N := by
  unfold gp_rp
  by_cases c : j < k ∧ f j = hi
  · rw [if_pos c]; exact hl
  · rw [if_neg c]; exact hf j
theorem gp_rp_0 (f : Nat → Nat) (hi lo : Nat) : gp_rp f hi lo 0 = f := by
  funext j
  unfold gp_rp
  rw [if_neg (by omega)]
theorem gp_rp_at (f : Nat → Nat) (hi lo k : Nat) : gp_rp f hi lo k k = f k := by
  unfold gp_rp
  rw [if_neg (by omega)]
theorem gp_rp_t {f : Nat → Nat} {hi lo k : Nat} (h : f k = hi) : upd (fun j => nI (gp_rp f hi lo k j)) k (nI lo) = fun j => nI (gp_rp f hi lo (k + 1) j) := by
  funext j
  unfold upd gp_rp
  by_cases c : j = k
  · subst c
    rw [if_pos rfl, if_pos ⟨by omega, h⟩]
  · rw [if_neg c]
    dsimp only
    by_cases d : j < k ∧ f j = hi
    · rw [if_pos d, if_pos ⟨by omega, d.2⟩]
    · rw [if_neg d, if_neg (fun z => d ⟨by omega, z.2⟩)]
theorem gp_rp_f {f : Nat → Nat} {hi lo k : Nat} (h : ¬ f k = hi) : gp_rp f hi lo (k + 1) = gp_rp f hi lo k := by
  funext j
  unfold gp_rp
  by_cases d : j < k ∧ f j = hi
  · rw [if_pos d, if_pos ⟨by omega, d.2⟩]
  · have nn : ¬ (j < k + 1 ∧ f j = hi) := by
      rintro ⟨z1, z2⟩
      by_cases c : j = k
      · subst c; exact h z2
      · exact d ⟨by omega, z2⟩
    rw [if_neg d, if_neg nn]
def gp_ad (f : Nat → Nat) (k x : Nat) : Nat → Nat := fun j => if j = k then x else f j
theorem gp_ad_u (f : Nat → Nat) (k x : Nat) : upd (fun j => nI (f j)) k (nI x) = fun j => nI (gp_ad f k x j) := by
  funext j
  unfold upd gp_ad
  by_cases c : j = k
  · rw [if_pos c, if_pos c]
  · rw [if_neg c, if_neg c]
theorem gp_ad_lt {f : Nat → Nat} {N k x : Nat} (hf : ∀ j, f j < N) (hx : x < N) (j : Nat) : gp_ad f k x j < N := by
  unfold gp_ad
  by_cases c : j = k
  · rw [if_pos c]; exact hx
  · rw [if_neg c]; exact hf j
theorem gp_up {a : Nat → Int32} {g : Nat → Int32} {k : Nat} (h : ∀ j, j < k → a j = g j) : ∀ j, j < k + 1 → upd a k (g k) j = g j := by
  intro j hj
  by_cases c : j = k
  · rw [c]; exact pk_us
  · rw [pk_un c]; exact h j (by omega)
def gp_rs (f s : Nat → Nat) (M a : Nat) : Nat := gp_rk f s (fun e => a.testBit e) M
theorem gp_rs_le {f s : Nat → Nat} {N : Nat} (M a : Nat) (hN : ∀ e, f e < N ∧ s e < N) : gp_rs f s M a ≤ N := by
  have h := gp_xt_cnt (A := fun e => a.testBit e) hN M
  show (gp_xt f s (fun e => a.testBit e) M).2 ≤ N
  omega
noncomputable def gp_ps (f s : Nat → Nat) (M N a : Nat) : Nat := gp_pt f s (fun e => a.testBit e) M N
theorem gp_ps_rs {f s : Nat → Nat} {N : Nat} (M a : Nat) (hN : ∀ e, f e < N ∧ s e < N) (h6 : N ≤ 6) : gp_ps f s M N a + gp_rs f s M a = N := gp_rank hN h6
def gp_cf (f s : Nat → Nat) (M i j : Nat) : Nat → Int32
  | 0 => 0
  | a + 1 => gp_cf f s M i j a + gp_ex (gp_rs f s M (2 ^ M - 1)) (gp_rs f s M a) i * gp_ex (gp_sz a 8) (gp_rs f s M a) j
def gp_sp (f s : Nat → Nat) (v : Nat → Int32) (e : Nat) (g : Nat → Int32) : Nat → Int32 := upd (upd g (f e) (g (f e) + v e)) (s e) (upd g (f e) (g (f e) + v e) (s e) - v e)
def gp_sv (f s : Nat → Nat) (v : Nat → Int32) (k : Nat) : Nat → Int32 := gp_it (gp_sp f s v) k (fun _ => 0)
theorem gp_sp_c {f s : Nat → Nat} {v g h : Nat → Int32} {e N : Nat} (hN : f e < N ∧ s e < N) (hg : ∀ p, p < N → h p = g p) : ∀ p, p < N → upd (upd h (f e) (h (f e) + v e)) (s e) (upd h (f e) (h (f e) + v e) (s e) - v e) p = gp_sp f s v e g p := by
  intro p hp
  have e1 := hg (f e) hN.1
  have e2 := hg (s e) hN.2
  have e3 := hg p hp
  unfold gp_sp upd
  by_cases c : p = s e
  · rw [if_pos c, if_pos c, e1, e2]
  · rw [if_neg c, if_neg c, e1, e3]
