-- PURE PART: rows of the state; events come, clocks follow
def pw_rw (σ : pw_St) (k : Nat) (f : Nat → Int32) : pw_St := (va_up σ.1 k f, σ.2)
theorem rw_sM {σ : pw_St} {k j : Nat} {v : Int32} : pw_sM σ k j v = pw_rw σ k (upd (σ.1 k) j v) := rfl
theorem rw_get {σ : pw_St} {k : Nat} {f : Nat → Int32} : (pw_rw σ k f).1 k = f := by simp [pw_rw, va_up]
theorem rw_ne {σ : pw_St} {k k2 : Nat} {f : Nat → Int32} (h : k2 ≠ k) : (pw_rw σ k f).1 k2 = σ.1 k2 := by simp [pw_rw, va_up, h]
theorem rw_rw {σ : pw_St} {k : Nat} {f g : Nat → Int32} : pw_rw (pw_rw σ k f) k g = pw_rw σ k g := by
  unfold pw_rw
  refine Prod.ext ?_ rfl
  funext j
  by_cases h : j = k <;> simp [va_up, h]
theorem rw_id {σ : pw_St} {k : Nat} : pw_rw σ k (σ.1 k) = σ := by
  unfold pw_rw
  refine Prod.ext ?_ rfl
  funext j
  by_cases h : j = k <;> simp [va_up, h]
theorem ix64 (e q : Nat) : nI e * (4 : Int32) + nI q = nI (4 * e + q) := by
  rw [show (4 : Int32) = nI 4 from rfl, pk_mul, nI_add, Nat.mul_comm]
theorem ix46 (e q : Nat) : (4 : Int32) * nI e + nI q = nI (4 * e + q) := by
  rw [show (4 : Int32) = nI 4 from rfl, pk_mul, nI_add]
theorem ixp (p i : Nat) : nI p * (6 : Int32) + nI i = nI (6 * p + i) := by
  rw [show (6 : Int32) = nI 6 from rfl, pk_mul, nI_add, Nat.mul_comm]
theorem ixp2 (p i : Nat) : (6 : Int32) * nI p + nI i = nI (6 * p + i) := by
  rw [show (6 : Int32) = nI 6 from rfl, pk_mul, nI_add]
theorem ixv (p i n : Nat) : (nI p * (7 : Int32) + nI i) * (3 : Int32) + nI n = nI ((p * 7 + i) * 3 + n) := by
  rw [show (7 : Int32) = nI 7 from rfl, show (3 : Int32) = nI 3 from rfl, pk_mul, nI_add, pk_mul, nI_add]
theorem pz_m1 {n : Nat} (h : 0 < n) : nI n - (1 : Int32) = nI (n - 1) := pk_sub h
theorem pz_clockOf {p i q : Nat} (σ : pw_St) (hp : p < 4) (hi : i < 6) (hq : q < 4) : f_X2_clockOf (nI p) (nI i) (nI q) σ = some (σ.1 16 (4 * (6 * p + i) + q), σ) := by
  unfold f_X2_clockOf
  rw [ixp, ix64, if_pos (pz_in (by omega) (by decide)), nI_clamp (by omega)]
/-- the clock's row of a new event e, the i-th of its process, with its first q places filled -/
def clkP (f : Nat → Int32) (e i q : Nat) : Nat → Int32 := fun j => if 4 * e ≤ j ∧ j < 4 * e + q then (if i = 0 then 0 else f (j - 4)) else f j
theorem clkP_0 (f : Nat → Int32) (e i : Nat) : clkP f e i 0 = f := by
  funext j
  unfold clkP
  rw [if_neg (by omega)]
theorem clkP_s (f : Nat → Int32) (e i q : Nat) : upd (clkP f e i q) (4 * e + q) (if i = 0 then 0 else f (4 * e + q - 4)) = clkP f e i (q + 1) := by
  funext j
  unfold clkP upd
  by_cases h : j = 4 * e + q
  · subst h
    rw [if_pos rfl, if_pos (show 4 * e ≤ 4 * e + q ∧ 4 * e + q < 4 * e + (q + 1) by omega)]
  · rw [if_neg h]
    dsimp only
    by_cases h2 : 4 * e ≤ j ∧ j < 4 * e + q
    · rw [if_pos h2, if_pos (show 4 * e ≤ j ∧ j < 4 * e + (q + 1) by omega)]
    · rw [if_neg h2, if_neg (show ¬ (4 * e ≤ j ∧ j < 4 * e + (q + 1)) by omega)]
theorem clkP_low (f : Nat → Int32) {e i q j : Nat} (h : j < 4 * e) : clkP f e i q j = f j := by
  unfold clkP
  rw [if_neg (by omega)]
theorem app_clk (σ : pw_St) (f : Nat → Int32) {p i : Nat} (hp : p < 4) (hi : i < 6) : ∀ (n q : Nat), q ≤ 4 → 4 - q < n → l_X2_append_56 n (nI p) (nI i) (nI (6 * p + i)) (nI q) (pw_rw σ 16 (clkP f (6 * p + i) i q)) = b_X2_append_100 (nI p) (nI i) (nI (6 * p + i)) (pw_rw σ 16 (clkP f (6 * p + i) i 4)) := by
  intro n
  induction n with
  | zero => intro q _ h; omega
  | succ n ih =>
    intro q h1 h2
    show b_X2_append_56 (l_X2_append_56 n) _ _ _ _ _ = _
    unfold b_X2_append_56
    by_cases h : q = 4
    · subst h
      rw [if_pos (by decide)]
    · rw [if_neg (show ¬ (4 : Int32) ≤ nI q from nI_ge (b := 4) (by omega) (by decide))]
      by_cases h0 : i = 0
      · subst h0
        rw [if_pos (show nI 0 = 0 from rfl)]
        unfold b_X2_append_93
        rw [ix64, if_pos (pz_in (by omega) (by decide)), pz_lt, rw_sM, nI_clamp (by omega), rw_get, rw_rw, pz_1, nI_add]
        have e1 := clkP_s f (6 * p + 0) 0 q
        rw [if_pos rfl] at e1
        rw [e1]
        exact ih (q + 1) (by omega) (by omega)
      · rw [if_neg (nI_ne0 (by omega) (by omega)), pz_m1 (by omega), pz_clockOf _ hp (by omega) (by omega), pz_bi_some]
        unfold b_X2_append_93
        rw [ix64, if_pos (pz_in (by omega) (by decide)), pz_lt, rw_sM, nI_clamp (by omega), rw_get, rw_rw, pz_1, nI_add, clkP_low f (by omega)]
        have e1 := clkP_s f (6 * p + i) i q
        rw [if_neg h0, show 4 * (6 * p + i) + q - 4 = 4 * (6 * p + (i - 1)) + q by omega] at e1
        rw [e1]
        exact ih (q + 1) (by omega) (by omega)
/-- the values behind the i + 1 first events of p: at first those behind i -/
def vlP (f : Nat → Int32) (p i n : Nat) : Nat → Int32 := fun j => if (p * 7 + i + 1) * 3 ≤ j ∧ j < (p * 7 + i + 1) * 3 + n then f (j - 3) else f j
theorem vlP_0 (f : Nat → Int32) (p i : Nat) : vlP f p i 0 = f := by
  funext j
  unfold vlP
  rw [if_neg (by omega)]
theorem vlP_s (f : Nat → Int32) (p i n : Nat) : upd (vlP f p i n) ((p * 7 + (i + 1)) * 3 + n) (f ((p * 7 + i) * 3 + n)) = vlP f p i (n + 1) := by
  funext j
  unfold vlP upd
  by_cases h : j = (p * 7 + (i + 1)) * 3 + n
  · subst h
    rw [if_pos rfl, if_pos (by omega), show (p * 7 + (i + 1)) * 3 + n - 3 = (p * 7 + i) * 3 + n by omega]
  · rw [if_neg h]
    dsimp only
    by_cases h2 : (p * 7 + i + 1) * 3 ≤ j ∧ j < (p * 7 + i + 1) * 3 + n
    · rw [if_pos h2, if_pos (by omega)]
    · rw [if_neg h2, if_neg (by omega)]
theorem vlP_low (f : Nat → Int32) {p i n j : Nat} (h : j < (p * 7 + i + 1) * 3) : vlP f p i n j = f j := by
  unfold vlP
  rw [if_neg (by omega)]
theorem app_val (σ : pw_St) (f : Nat → Int32) {p i : Nat} (hp : p < 4) (hi : i < 6) : ∀ (n q : Nat), q ≤ 3 → 3 - q < n → l_X2_append_118 n (nI p) (nI i) (nI q) (pw_rw σ 17 (vlP f p i q)) = b_X2_append_158 (nI p) (nI i) (pw_rw σ 17 (vlP f p i 3)) := by
  intro n
  induction n with
  | zero => intro q _ h; omega
  | succ n ih =>
    intro q h1 h2
    show b_X2_append_118 (l_X2_append_118 n) _ _ _ _ = _
    unfold b_X2_append_118
    by_cases h : q = 3
    · subst h
      rw [if_pos (by decide)]
    · rw [if_neg (show ¬ (3 : Int32) ≤ nI q from nI_ge (b := 3) (by omega) (by decide)), pz_1, nI_add]
      unfold f_X2_valuePlace
      rw [pz_bi_some, pz_bi_some, ixv, ixv, if_pos (pz_in (by omega) (by decide)), if_pos (pz_in (by omega) (by decide)), pz_lt, rw_sM, nI_clamp (by omega), nI_clamp (by omega), rw_get, rw_rw, vlP_low f (by omega), vlP_s, nI_add]
      exact ih (q + 1) (by omega) (by omega)
/-- the clock's row behind append -/
def clkA (f : Nat → Int32) (e i p : Nat) : Nat → Int32 := upd (clkP f e i 4) (4 * e + p) (nI (i + 1))
/-- the state behind append -/
def apS (σ : pw_St) (p i t : Nat) (kd sb : Int32) : pw_St :=
  pw_rw (pw_rw (pw_rw (pw_rw (pw_rw (pw_rw (pw_rw (pw_rw σ 13 (upd (σ.1 13) (6 * p + i) kd)) 14 (upd (σ.1 14) (6 * p + i) sb)) 15 (upd (σ.1 15) (6 * p + i) (nI t))) 12 (upd (σ.1 12) t (nI p))) 16 (clkA (σ.1 16) (6 * p + i) i p)) 17 (vlP (σ.1 17) p i 3)) 11 (upd (σ.1 11) p (nI (i + 1)))) 1 (upd (upd (σ.1 1) 9 (nI (t + 1))) 10 (σ.1 1 10 + 1))
theorem pz_append {σ : pw_St} {p i t : Nat} (kd sb : Int32) (hp : p < 4) (hi : i < 6) (ht : t < 24) (e1 : σ.1 11 p = nI i) (e2 : σ.1 1 9 = nI t) : f_X2_append (nI p) kd sb σ = some (nI (i + 1), apS σ p i t kd sb) := by
  unfold f_X2_append
  rw [if_pos (pz_in hp (by decide)), nI_clamp (by omega), e1]
  unfold f_X2_place
  rw [pz_bi_some, ixp, if_pos (pz_in (by omega) (by decide)), pz_lt, if_pos (pz_in (by omega) (by decide)), pz_lt, if_pos (pz_in (by omega) (by decide)), pz_lt, nI_clamp (by omega)]
  rw [rw_sM, rw_sM, rw_sM]
  rw [show (pw_rw (pw_rw (pw_rw σ 13 (upd (σ.1 13) (6 * p + i) kd)) 14 (upd ((pw_rw σ 13 (upd (σ.1 13) (6 * p + i) kd)).1 14) (6 * p + i) sb)) 15 (upd ((pw_rw (pw_rw σ 13 (upd (σ.1 13) (6 * p + i) kd)) 14 (upd ((pw_rw σ 13 (upd (σ.1 13) (6 * p + i) kd)).1 14) (6 * p + i) sb)).1 15) (6 * p + i) ((pw_rw (pw_rw σ 13 (upd (σ.1 13) (6 * p + i) kd)) 14 (upd ((pw_rw σ 13 (upd (σ.1 13) (6 * p + i) kd)).1 14) (6 * p + i) sb)).1 1 9))).1 1 9 = nI t from e2]
  rw [if_pos (pz_in ht (by decide)), pz_lt, nI_clamp (by omega), rw_sM]
  have e3 : ((pw_rw (pw_rw σ 13 (upd (σ.1 13) (6 * p + i) kd)) 14 (upd ((pw_rw σ 13 (upd (σ.1 13) (6 * p + i) kd)).1 14) (6 * p + i) sb)).1 1 9) = nI t := e2
  rw [e3]
  have hc := app_clk (pw_rw (pw_rw (pw_rw (pw_rw σ 13 (upd (σ.1 13) (6 * p + i) kd)) 14 (upd (σ.1 14) (6 * p + i) sb)) 15 (upd (σ.1 15) (6 * p + i) (nI t))) 12 (upd (σ.1 12) t (nI p))) (σ.1 16) hp hi pw_FU 0 (by omega) (by unfold pw_FU; omega)
  rw [clkP_0] at hc
  have hid : pw_rw (pw_rw (pw_rw (pw_rw (pw_rw σ 13 (upd (σ.1 13) (6 * p + i) kd)) 14 (upd (σ.1 14) (6 * p + i) sb)) 15 (upd (σ.1 15) (6 * p + i) (nI t))) 12 (upd (σ.1 12) t (nI p))) 16 (σ.1 16) = pw_rw (pw_rw (pw_rw (pw_rw σ 13 (upd (σ.1 13) (6 * p + i) kd)) 14 (upd (σ.1 14) (6 * p + i) sb)) 15 (upd (σ.1 15) (6 * p + i) (nI t))) 12 (upd (σ.1 12) t (nI p)) := rw_id (σ := pw_rw (pw_rw (pw_rw (pw_rw σ 13 (upd (σ.1 13) (6 * p + i) kd)) 14 (upd (σ.1 14) (6 * p + i) sb)) 15 (upd (σ.1 15) (6 * p + i) (nI t))) 12 (upd (σ.1 12) t (nI p))) (k := 16)
  rw [hid] at hc
  refine Eq.trans hc ?_
  unfold b_X2_append_100
  rw [ix64, if_pos (pz_in (by omega) (by decide)), pz_lt, nI_clamp (by omega), rw_sM, rw_get, rw_rw, pz_1, nI_add]
  have hv := app_val (pw_rw (pw_rw (pw_rw (pw_rw (pw_rw σ 13 (upd (σ.1 13) (6 * p + i) kd)) 14 (upd (σ.1 14) (6 * p + i) sb)) 15 (upd (σ.1 15) (6 * p + i) (nI t))) 12 (upd (σ.1 12) t (nI p))) 16 (clkA (σ.1 16) (6 * p + i) i p)) (σ.1 17) hp hi pw_FU 0 (by omega) (by unfold pw_FU; omega)
  rw [vlP_0] at hv
  have hid2 : pw_rw (pw_rw (pw_rw (pw_rw (pw_rw (pw_rw σ 13 (upd (σ.1 13) (6 * p + i) kd)) 14 (upd (σ.1 14) (6 * p + i) sb)) 15 (upd (σ.1 15) (6 * p + i) (nI t))) 12 (upd (σ.1 12) t (nI p))) 16 (clkA (σ.1 16) (6 * p + i) i p)) 17 (σ.1 17) = _ := rw_id (σ := pw_rw (pw_rw (pw_rw (pw_rw (pw_rw σ 13 (upd (σ.1 13) (6 * p + i) kd)) 14 (upd (σ.1 14) (6 * p + i) sb)) 15 (upd (σ.1 15) (6 * p + i) (nI t))) 12 (upd (σ.1 12) t (nI p))) 16 (clkA (σ.1 16) (6 * p + i) i p)) (k := 17)
  rw [hid2] at hv
  refine Eq.trans hv ?_
  unfold b_X2_append_158
  rw [if_pos (pz_in hp (by decide)), pz_lt, pz_lt, pz_lt, nI_clamp (by omega), pz_1, nI_add, rw_sM, rw_sM, rw_sM, rw_rw]
  unfold apS
  congr 3
  rw [rw_get]
  show upd (upd (σ.1 1) 9 (σ.1 1 9 + nI 1)) 10 (upd (σ.1 1) 9 (σ.1 1 9 + nI 1) 10 + nI 1) = _
  rw [e2, nI_add]
  rfl
