-- PURE PART: numbers
theorem pz_li (n : Nat) : (OfNat.ofNat n : Int32) = nI n := rfl
theorem pz_0 : (0 : Int32) = nI 0 := rfl
theorem pz_1 : (1 : Int32) = nI 1 := rfl
theorem pz_FU : pw_FU = 2999 + 1 := rfl
theorem pz_in {i n : Nat} (h : i < n) (hn : n < 2 ^ 31) : pw_in (nI i) n = true := by
  unfold pw_in
  rw [nI_toInt (by omega)]
  exact decide_eq_true (by omega)
theorem pz_isb0 : pw_isb (0 : Int32) = true := by decide
theorem pz_isb1 : pw_isb (1 : Int32) = true := by decide
theorem pz_isb0' : pw_isb (nI 0) = true := by decide
theorem pz_isb1' : pw_isb (nI 1) = true := by decide
theorem pz_isbif {c : Prop} {ic : Decidable c} : pw_isb (if c then (1 : Int32) else 0) = true := by
  by_cases h : c
  · rw [if_pos h]; decide
  · rw [if_neg h]; decide
theorem pz_div7 {c : Nat} (h : c < 2 ^ 31) : nI c / (7 : Int32) = nI (c / 7) := pk_div h (by decide) (by decide)
theorem pz_rem7 {c : Nat} (h : c < 2 ^ 31) : nI c - nI c / (7 : Int32) * (7 : Int32) = nI (c % 7) := pk_rem h (by decide) (by decide)
theorem pz_bi_some {α : Type} {v : Int32} {σ : pw_St} {k : Int32 → pw_St → Option α} : pw_bi (some (v, σ)) k = k v σ := rfl
theorem pz_bl_some {α : Type} {v : Int64} {σ : pw_St} {k : Int64 → pw_St → Option α} : pw_bl (some (v, σ)) k = k v σ := rfl
theorem pz_bv_some {α : Type} {σ : pw_St} {k : pw_St → Option α} : pw_bv (some σ) k = k σ := rfl
theorem pz_lt {α : Type} {v : pw_St} {k : pw_St → Option α} : pw_lt v k = k v := rfl
/-- the p-th digit of a cut -/
def dg (c p : Nat) : Nat := c / 7 ^ p % 7
theorem dg_lt (c p : Nat) : dg c p < 7 := Nat.mod_lt _ (by decide)
theorem dg_div (c p : Nat) : dg (c / 7) p = dg c (p + 1) := by
  unfold dg
  rw [Nat.div_div_eq_div_mul, Nat.pow_succ, Nat.mul_comm]
theorem dg_0 (c : Nat) : dg c 0 = c % 7 := by simp [dg]
theorem pz_share_l (σ : pw_St) : ∀ (n c p i : Nat), i ≤ p → p - i < n → c < 2 ^ 31 → p < 2 ^ 31 → l_X6_shareOf_4 n (nI p) (nI c) (nI i) σ = some (nI (dg c (p - i)), σ) := by
  intro n
  induction n with
  | zero => intro c p i _ h; omega
  | succ n ih =>
    intro c p i h1 h2 hc hp
    show b_X6_shareOf_4 (l_X6_shareOf_4 n) (nI p) (nI c) (nI i) σ = _
    unfold b_X6_shareOf_4
    by_cases h : p ≤ i
    · rw [if_pos (nI_le h (by omega)), pz_rem7 hc, show p - i = 0 by omega, dg_0]
    · rw [if_neg (nI_ge (by omega) hp), pz_div7 hc, pz_1, nI_add, ih (c / 7) p (i + 1) (by omega) (by omega) (by omega) hp, dg_div, show p - (i + 1) + 1 = p - i by omega]
theorem pz_share {c p : Nat} (σ : pw_St) (hc : c < 2 ^ 31) (hp : p < 2999) : f_X6_shareOf (nI c) (nI p) σ = some (nI (dg c p), σ) := by
  unfold f_X6_shareOf
  rw [pz_0, pz_share_l σ pw_FU c p 0 (by omega) (by unfold pw_FU; omega) hc (by omega), Nat.sub_zero]
/-- the size of a cut -/
def sz (c : Nat) : Nat := dg c 0 + dg c 1 + dg c 2 + dg c 3
theorem sz_le (c : Nat) : sz c ≤ 24 := by
  have h0 := dg_lt c 0
  have h1 := dg_lt c 1
  have h2 := dg_lt c 2
  have h3 := dg_lt c 3
  unfold sz; omega
theorem pz_size6 {c : Nat} (σ : pw_St) (hc : c < 2 ^ 31) : f_X6_sizeOf (nI c) σ = some (nI (sz c), σ) := by
  unfold f_X6_sizeOf
  have hd : ∀ k, c / 7 / k < 2 ^ 31 := fun k => Nat.lt_of_le_of_lt (Nat.div_le_self _ _) (Nat.lt_of_le_of_lt (Nat.div_le_self _ _) hc)
  have h7 : c / 7 < 2 ^ 31 := by omega
  have h77 : c / 7 / 7 < 2 ^ 31 := by omega
  have h777 : c / 7 / 7 / 7 < 2 ^ 31 := by omega
  rw [show pw_FU = 2995 + 1 + 1 + 1 + 1 + 1 from rfl]
  show b_X6_sizeOf_6 (l_X6_sizeOf_6 (2995 + 1 + 1 + 1 + 1)) (nI 0) (nI c) (nI 0) σ = _
  unfold b_X6_sizeOf_6
  rw [if_neg (by decide)]
  show b_X6_sizeOf_6 (l_X6_sizeOf_6 (2995 + 1 + 1 + 1)) _ _ (nI 1) σ = _
  unfold b_X6_sizeOf_6
  rw [if_neg (by decide)]
  show b_X6_sizeOf_6 (l_X6_sizeOf_6 (2995 + 1 + 1)) _ _ (nI 2) σ = _
  unfold b_X6_sizeOf_6
  rw [if_neg (by decide)]
  show b_X6_sizeOf_6 (l_X6_sizeOf_6 (2995 + 1)) _ _ (nI 3) σ = _
  unfold b_X6_sizeOf_6
  rw [if_neg (by decide)]
  show b_X6_sizeOf_6 (l_X6_sizeOf_6 (2995)) _ _ (nI 4) σ = _
  unfold b_X6_sizeOf_6
  rw [if_pos (by decide), pz_rem7 hc, pz_div7 hc, pz_rem7 h7, pz_div7 h7, pz_rem7 h77, pz_div7 h77, pz_rem7 h777]
  rw [nI_add, nI_add, nI_add, nI_add]
  unfold sz
  rw [← dg_0 c, ← dg_0 (c / 7), ← dg_0 (c / 7 / 7), ← dg_0 (c / 7 / 7 / 7), dg_div, dg_div, dg_div, dg_div, dg_div, dg_div]
  simp
/-- the weight of a process -/
def un (p : Nat) : Nat := 7 ^ p
theorem pz_unit {p : Nat} (σ : pw_St) (hp : p < 4) : f_X11_unit (nI p) σ = some (nI (un p), σ) := by
  rcases (show p = 0 ∨ p = 1 ∨ p = 2 ∨ p = 3 by omega) with rfl | rfl | rfl | rfl <;> rfl
theorem pz_part {c p : Nat} (σ : pw_St) (hc : c < 2 ^ 31) (hp : p < 4) : f_X11_part (nI c) (nI p) σ = some (nI (dg c p), σ) := by
  unfold f_X11_part
  rw [pz_unit σ hp, pz_bi_some]
  have hu : 0 < un p ∧ un p < 2 ^ 31 := by rcases (show p = 0 ∨ p = 1 ∨ p = 2 ∨ p = 3 by omega) with rfl | rfl | rfl | rfl <;> decide
  rw [if_neg (nI_ne0 hu.1 hu.2), pk_div hc hu.1 hu.2, pz_rem7 (Nat.lt_of_le_of_lt (Nat.div_le_self _ _) hc)]
  rfl
theorem pz_wt {p : Nat} (hp : p < 4) : pw_wt p = nI (un p) := by
  rcases (show p = 0 ∨ p = 1 ∨ p = 2 ∨ p = 3 by omega) with rfl | rfl | rfl | rfl <;> rfl
