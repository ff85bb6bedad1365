-- PURE PART: clocks follow (class), events come and clocks join (reference)
/-- row f where the clock of e takes in that of o, at its first q places -/
def clkM (f : Nat → Int32) (e o q : Nat) : Nat → Int32 := fun j => if 4 * e ≤ j ∧ j < 4 * e + q then (if f j < f (4 * o + (j - 4 * e)) then f (4 * o + (j - 4 * e)) else f j) else f j
theorem clkM_0 (f : Nat → Int32) (e o : Nat) : clkM f e o 0 = f := by
  funext j
  unfold clkM
  rw [if_neg (by omega)]
theorem clkM_s (f : Nat → Int32) (e o q : Nat) : upd (clkM f e o q) (4 * e + q) (if f (4 * e + q) < f (4 * o + q) then f (4 * o + q) else f (4 * e + q)) = clkM f e o (q + 1) := by
  funext j
  unfold clkM upd
  by_cases h : j = 4 * e + q
  · subst h
    rw [if_pos rfl, if_pos (show 4 * e ≤ 4 * e + q ∧ 4 * e + q < 4 * e + (q + 1) by omega), show 4 * e + q - 4 * e = q by omega]
  · rw [if_neg h]
    dsimp only
    by_cases h2 : 4 * e ≤ j ∧ j < 4 * e + q
    · rw [if_pos h2, if_pos (show 4 * e ≤ j ∧ j < 4 * e + (q + 1) by omega)]
    · rw [if_neg h2, if_neg (show ¬ (4 * e ≤ j ∧ j < 4 * e + (q + 1)) by omega)]
theorem clkM_out (f : Nat → Int32) {e o q j : Nat} (h : j < 4 * e ∨ 4 * e + q ≤ j) : clkM f e o q j = f j := by
  unfold clkM
  rw [if_neg (by omega)]
theorem fol_l (σ : pw_St) (f : Nat → Int32) {a i e : Nat} (ha : a < 4) (hi : i < 6) (he : e < 24) (hne : 6 * a + i ≠ e) : ∀ (n q : Nat), q ≤ 4 → 4 - q < n → l_X2_follow_19 n (nI a) (nI i) (nI (4 * e)) (nI q) (pw_rw σ 16 (clkM f e (6 * a + i) q)) = some (pw_rw σ 16 (clkM f e (6 * a + i) 4)) := by
  intro n
  induction n with
  | zero => intro q _ h; omega
  | succ n ih =>
    intro q h1 h2
    show b_X2_follow_19 (l_X2_follow_19 n) _ _ _ _ _ = _
    unfold b_X2_follow_19
    by_cases h : q = 4
    · subst h
      rw [if_pos (by decide)]
    · rw [if_neg (show ¬ (4 : Int32) ≤ nI q from nI_ge (b := 4) (by omega) (by decide)), nI_add, if_pos (pz_in (by omega) (by decide)), pz_clockOf _ ha hi (by omega), pz_bi_some, if_pos (pz_in (by omega) (by decide)), pz_lt, rw_sM, nI_clamp (by omega), rw_get, rw_rw, pz_1, nI_add]
      rw [clkM_out f (j := 4 * e + q) (by omega), clkM_out f (j := 4 * (6 * a + i) + q) (by omega), clkM_s]
      exact ih (q + 1) (by omega) (by omega)
theorem pz_follow {σ : pw_St} {p a i k : Nat} (hp : p < 4) (ha : a < 4) (hi : i < 6) (hk : 0 < k) (hk6 : k ≤ 6) (e1 : σ.1 11 p = nI k) (hne : a ≠ p) : f_X2_follow (nI p) (nI a) (nI i) σ = some (pw_rw σ 16 (clkM (σ.1 16) (6 * p + (k - 1)) (6 * a + i) 4)) := by
  unfold f_X2_follow
  rw [if_pos (pz_in hp (by decide)), nI_clamp (by omega), e1, pz_m1 hk]
  unfold f_X2_place
  rw [pz_bi_some, ixp, show (4 : Int32) = nI 4 from rfl, pk_mul, Nat.mul_comm (6 * p + (k - 1)) 4]
  have h := fol_l σ (σ.1 16) ha hi (e := 6 * p + (k - 1)) (by omega) (by omega) pw_FU 0 (by omega) (by unfold pw_FU; omega)
  rw [clkM_0, rw_id] at h
  exact h
theorem pz_write {σ : pw_St} {l : Nat} (x1 x2 x3 : Int32) (hl : l < 24) (e1 : σ.1 2 4 = nI l) : f_X3_write x1 x2 x3 σ = some (nI l, pw_rw (pw_rw (pw_rw (pw_rw (pw_rw σ 18 (upd (σ.1 18) l x1)) 19 (upd (σ.1 19) l x2)) 20 (upd (σ.1 20) l x3)) 21 (upd (σ.1 21) l (-1))) 2 (upd (σ.1 2) 4 (nI (l + 1)))) := by
  unfold f_X3_write
  rw [e1, if_pos (pz_in hl (by decide)), pz_lt, if_pos (pz_in hl (by decide)), pz_lt, if_pos (pz_in hl (by decide)), pz_lt, if_pos (pz_in hl (by decide)), pz_lt, pz_lt, nI_clamp (by omega)]
  simp only [rw_sM]
  rw [show (pw_rw (pw_rw (pw_rw (pw_rw σ 18 (upd (σ.1 18) l x1)) 19 (upd ((pw_rw σ 18 (upd (σ.1 18) l x1)).1 19) l x2)) 20 (upd ((pw_rw (pw_rw σ 18 (upd (σ.1 18) l x1)) 19 (upd ((pw_rw σ 18 (upd (σ.1 18) l x1)).1 19) l x2)).1 20) l x3)) 21 (upd ((pw_rw (pw_rw (pw_rw σ 18 (upd (σ.1 18) l x1)) 19 (upd ((pw_rw σ 18 (upd (σ.1 18) l x1)).1 19) l x2)) 20 (upd ((pw_rw (pw_rw σ 18 (upd (σ.1 18) l x1)) 19 (upd ((pw_rw σ 18 (upd (σ.1 18) l x1)).1 19) l x2)).1 20) l x3)).1 21) l (-1))).1 2 4 = nI l from e1, pz_1, nI_add]
  rfl
-- the reference
theorem com_l (σ : pw_St) (f : Nat → Int32) {p i : Nat} (hp : p < 4) (hi : i < 6) (e1 : σ.1 34 p = nI i) : ∀ (n q : Nat), q ≤ 4 → 4 - q < n → l_X11_comes_52 n (nI p) (nI (6 * p + i)) (nI q) (pw_rw σ 39 (clkP f (6 * p + i) i q)) = b_X11_comes_103 (nI p) (nI (6 * p + i)) (pw_rw σ 39 (clkP f (6 * p + i) i 4)) := by
  intro n
  induction n with
  | zero => intro q _ h; omega
  | succ n ih =>
    intro q h1 h2
    show b_X11_comes_52 (l_X11_comes_52 n) _ _ _ _ = _
    unfold b_X11_comes_52
    by_cases h : q = 4
    · subst h
      rw [if_pos (by decide)]
    · rw [if_neg (show ¬ (4 : Int32) ≤ nI q from nI_ge (b := 4) (by omega) (by decide)), if_pos (pz_in hp (by decide)), nI_clamp (by omega), show (pw_rw σ 39 (clkP f (6 * p + i) i q)).1 34 p = nI i from e1]
      by_cases h0 : i = 0
      · subst h0
        rw [if_pos (show nI 0 = 0 from rfl)]
        unfold b_X11_comes_96
        rw [ix46, if_pos (pz_in (by omega) (by decide)), pz_lt, rw_sM, nI_clamp (by omega), rw_get, rw_rw, pz_1, nI_add]
        have e1 := clkP_s f (6 * p + 0) 0 q
        rw [if_pos rfl] at e1
        rw [e1]
        exact ih (q + 1) (by omega) (by omega)
      · rw [if_neg (nI_ne0 (by omega) (by omega)), ix46]
        have e4 : (4 : Int32) * nI (6 * p + i) - (4 : Int32) + nI q = nI (4 * (6 * p + (i - 1)) + q) := by
          rw [show (4 : Int32) = nI 4 from rfl, pk_mul, pk_sub (by omega), nI_add, show 4 * (6 * p + i) - 4 = 4 * (6 * p + (i - 1)) by omega]
        rw [e4, if_pos (pz_in (by omega) (by decide))]
        unfold b_X11_comes_96
        rw [if_pos (pz_in (by omega) (by decide)), pz_lt, rw_sM, nI_clamp (by omega), nI_clamp (by omega), rw_get, rw_rw, pz_1, nI_add, clkP_low f (by omega)]
        have e1 := clkP_s f (6 * p + i) i q
        rw [if_neg h0, show 4 * (6 * p + i) + q - 4 = 4 * (6 * p + (i - 1)) + q by omega] at e1
        rw [e1]
        exact ih (q + 1) (by omega) (by omega)
/-- the state behind comes -/
def coS (σ : pw_St) (p i t : Nat) (kd sb wv : Int32) : pw_St :=
  pw_rw (pw_rw (pw_rw (pw_rw (pw_rw (pw_rw (pw_rw σ 35 (upd (σ.1 35) (6 * p + i) kd)) 36 (upd (σ.1 36) (6 * p + i) sb)) 37 (upd (σ.1 37) (6 * p + i) wv)) 38 (upd (σ.1 38) (6 * p + i) (nI t))) 39 (clkA (σ.1 39) (6 * p + i) i p)) 34 (upd (σ.1 34) p (nI (i + 1)))) 10 (upd (σ.1 10) 8 (nI (t + 1)))
theorem rw_swap {σ : pw_St} {k k2 : Nat} {f g : Nat → Int32} (h : k ≠ k2) : pw_rw (pw_rw σ k f) k2 g = pw_rw (pw_rw σ k2 g) k f := by
  unfold pw_rw
  refine Prod.ext ?_ rfl
  funext j
  by_cases h1 : j = k
  · subst h1; simp [va_up, h]
  · simp [va_up, h1]
theorem pz_comes {σ : pw_St} {p i t : Nat} (kd sb wv : Int32) (hp : p < 4) (hi : i < 6) (ht : t < 24) (e1 : σ.1 34 p = nI i) (e2 : σ.1 10 8 = nI t) : f_X11_comes (nI p) kd sb wv σ = some (nI (6 * p + i), coS σ p i t kd sb wv) := by
  unfold f_X11_comes
  rw [if_pos (pz_in hp (by decide)), nI_clamp (by omega), e1, ixp2, if_pos (pz_in (by omega) (by decide)), pz_lt, if_pos (pz_in (by omega) (by decide)), pz_lt, if_pos (pz_in (by omega) (by decide)), pz_lt, if_pos (pz_in (by omega) (by decide)), pz_lt, nI_clamp (by omega)]
  simp only [rw_sM]
  generalize hs : pw_rw (pw_rw (pw_rw σ 35 (upd (σ.1 35) (6 * p + i) kd)) 36 (upd ((pw_rw σ 35 (upd (σ.1 35) (6 * p + i) kd)).1 36) (6 * p + i) sb)) 37 (upd ((pw_rw (pw_rw σ 35 (upd (σ.1 35) (6 * p + i) kd)) 36 (upd ((pw_rw σ 35 (upd (σ.1 35) (6 * p + i) kd)).1 36) (6 * p + i) sb)).1 37) (6 * p + i) wv) = σ3
  have r8 : σ3.1 10 8 = nI t := by rw [← hs]; exact e2
  rw [r8]
  generalize hs4 : pw_rw σ3 38 (upd (σ3.1 38) (6 * p + i) (nI t)) = σ4
  have r34 : σ4.1 34 p = nI i := by rw [← hs4, ← hs]; exact e1
  have hc := com_l σ4 (σ4.1 39) hp hi r34 pw_FU 0 (by omega) (by unfold pw_FU; omega)
  rw [clkP_0, rw_id] at hc
  refine Eq.trans hc ?_
  unfold b_X11_comes_103
  rw [if_pos (pz_in hp (by decide)), if_pos (pz_in hp (by decide)), pz_lt, if_pos (pz_in hp (by decide)), ix46, if_pos (pz_in (by omega) (by decide)), pz_lt, pz_lt, nI_clamp (by omega), nI_clamp (by omega)]
  simp only [rw_sM]
  rw [show (pw_rw σ4 39 (clkP (σ4.1 39) (6 * p + i) i 4)).1 34 = σ4.1 34 from rfl, r34, pz_1, nI_add]
  rw [show (pw_rw (pw_rw σ4 39 (clkP (σ4.1 39) (6 * p + i) i 4)) 34 (upd (σ4.1 34) p (nI (i + 1)))).1 39 = clkP (σ4.1 39) (6 * p + i) i 4 from rfl, show (pw_rw (pw_rw σ4 39 (clkP (σ4.1 39) (6 * p + i) i 4)) 34 (upd (σ4.1 34) p (nI (i + 1)))).1 34 p = nI (i + 1) by show upd (σ4.1 34) p (nI (i + 1)) p = _; exact pk_us]
  rw [rw_swap (k := 39) (k2 := 34) (by decide), rw_rw, rw_swap (k := 34) (k2 := 39) (by decide)]
  unfold coS
  subst hs4
  subst hs
  congr 3
  show upd (σ.1 10) 8 (σ.1 10 8 + nI 1) = _
  rw [e2, nI_add]
theorem joi_l (σ : pw_St) (f : Nat → Int32) {o e : Nat} (ho : o < 24) (he : e < 24) (hne : o ≠ e) : ∀ (n q : Nat), q ≤ 4 → 4 - q < n → l_X11_joins_2 n (nI e) (nI o) (nI q) (pw_rw σ 39 (clkM f e o q)) = some (pw_rw σ 39 (clkM f e o 4)) := by
  intro n
  induction n with
  | zero => intro q _ h; omega
  | succ n ih =>
    intro q h1 h2
    show b_X11_joins_2 (l_X11_joins_2 n) _ _ _ _ = _
    unfold b_X11_joins_2
    by_cases h : q = 4
    · subst h
      rw [if_pos (by decide)]
    · rw [if_neg (show ¬ (4 : Int32) ≤ nI q from nI_ge (b := 4) (by omega) (by decide)), ix46, ix46, if_pos (pz_in (by omega) (by decide)), if_pos (pz_in (by omega) (by decide)), nI_clamp (by omega), nI_clamp (by omega), rw_get]
      rw [clkM_out f (j := 4 * e + q) (by omega), clkM_out f (j := 4 * o + q) (by omega), pz_1, nI_add]
      have e1 := clkM_s f e o q
      by_cases hc : f (4 * o + q) ≤ f (4 * e + q)
      · rw [if_pos hc]
        rw [if_neg (Int32.not_lt.mpr hc)] at e1
        have e2 : upd (clkM f e o q) (4 * e + q) (f (4 * e + q)) = clkM f e o q := by
          funext j
          unfold upd
          by_cases hj : j = 4 * e + q
          · rw [if_pos hj, hj, clkM_out f (by omega)]
          · rw [if_neg hj]
        rw [e2] at e1
        rw [e1]
        exact ih (q + 1) (by omega) (by omega)
      · rw [if_neg hc, if_pos (pz_in (by omega) (by decide)), if_pos (pz_in (by omega) (by decide)), pz_lt, rw_sM, rw_get, rw_rw]
        rw [if_pos (Int32.not_le.mp hc)] at e1
        rw [e1]
        exact ih (q + 1) (by omega) (by omega)
theorem pz_joins {σ : pw_St} {o e : Nat} (ho : o < 24) (he : e < 24) (hne : o ≠ e) : f_X11_joins (nI e) (nI o) σ = some (pw_rw σ 39 (clkM (σ.1 39) e o 4)) := by
  unfold f_X11_joins
  have h := joi_l σ (σ.1 39) ho he hne pw_FU 0 (by omega) (by unfold pw_FU; omega)
  rw [clkM_0, rw_id] at h
  exact h
