-- PURE PART: the history's invariant; refusals
/-- the value of a name behind the first i events of p, by the reference's rows -/
def nv (kd ab wo : Nat → Int32) (p n : Nat) : Nat → Int32
  | 0 => 0
  | i + 1 => if (1 : Int32) < kd (6 * p + i) ∨ ab (6 * p + i) ≠ nI n then nv kd ab wo p n i else if kd (6 * p + i) = 1 then nv kd ab wo p n i + wo (6 * p + i) else wo (6 * p + i)
theorem nv_s (kd ab wo : Nat → Int32) (p n i : Nat) : nv kd ab wo p n (i + 1) = if (1 : Int32) < kd (6 * p + i) ∨ ab (6 * p + i) ≠ nI n then nv kd ab wo p n i else if kd (6 * p + i) = 1 then nv kd ab wo p n i + wo (6 * p + i) else wo (6 * p + i) := rfl
theorem nv_cong {kd ab wo kd2 ab2 wo2 : Nat → Int32} {p n : Nat} : ∀ {i : Nat}, (∀ j, j < i → kd2 (6 * p + j) = kd (6 * p + j) ∧ ab2 (6 * p + j) = ab (6 * p + j) ∧ wo2 (6 * p + j) = wo (6 * p + j)) → nv kd2 ab2 wo2 p n i = nv kd ab wo p n i
  | 0, _ => rfl
  | i + 1, h => by
    obtain ⟨h1, h2, h3⟩ := h i (by omega)
    rw [nv_s, nv_s, h1, h2, h3, nv_cong (fun j hj => h j (by omega))]
def HVf (r17 r35 r36 r37 : Nat → Int32) (ev : Nat → Nat) : Prop := ∀ p, p < 4 → ∀ i, i ≤ ev p → ∀ n, n < 3 → r17 ((p * 7 + i) * 3 + n) = nv r35 r36 r37 p n i
def HA (σ : pw_St) (np nl tot : Nat) (ev : Nat → Nat) : Prop :=
  np ≤ 4 ∧ tot = ev 0 + ev 1 + ev 2 + ev 3 ∧ (∀ p, p < 4 → ev p ≤ 6) ∧ (∀ p, np ≤ p → p < 4 → ev p = 0) ∧ σ.1 1 8 = nI np ∧ σ.1 10 1 = nI np ∧ σ.1 1 9 = nI tot ∧ σ.1 10 8 = nI tot ∧ σ.1 2 4 = nI nl ∧ σ.1 10 9 = nI nl ∧ (∀ p, p < 4 → σ.1 11 p = nI (ev p))
def HR (σ : pw_St) : Prop := σ.1 34 = σ.1 11 ∧ σ.1 35 = σ.1 13 ∧ σ.1 36 = σ.1 14 ∧ σ.1 38 = σ.1 15 ∧ σ.1 39 = σ.1 16 ∧ σ.1 40 = σ.1 18 ∧ σ.1 41 = σ.1 19 ∧ σ.1 42 = σ.1 20 ∧ σ.1 43 = σ.1 21
/-- the clocks of a process don't fall -/
def MoC (f : Nat → Int32) (ev : Nat → Nat) : Prop := ∀ p, p < 4 → ∀ i, i + 1 < ev p → ∀ q, q < 4 → f (4 * (6 * p + i) + q) ≤ f (4 * (6 * p + (i + 1)) + q)
def HInv (σ : pw_St) (np nl tot : Nat) (ev g : Nat → Nat) : Prop := HA σ np nl tot ev ∧ HR σ ∧ HOf (σ.1 12) (σ.1 13) (σ.1 14) (σ.1 15) (σ.1 16) (σ.1 18) (σ.1 19) (σ.1 20) np nl tot ev g ∧ HVf (σ.1 17) (σ.1 35) (σ.1 36) (σ.1 37) ev ∧ MoC (σ.1 16) ev
/-- what a call on events leaves as it was -/
def HFr (σ σ2 : pw_St) : Prop := (∀ k, k ≠ 1 → k ≠ 2 → k ≠ 10 → ¬ (11 ≤ k ∧ k ≤ 21) → ¬ (34 ≤ k ∧ k ≤ 43) → σ2.1 k = σ.1 k) ∧ (∀ j, j ≠ 1 → j ≠ 8 → j ≠ 9 → σ2.1 10 j = σ.1 10 j)
theorem HA_nl {r12 r13 r14 r15 r16 r18 r19 r20 : Nat → Int32} {np nl tot : Nat} {ev g : Nat → Nat} (h : HOf r12 r13 r14 r15 r16 r18 r19 r20 np nl tot ev g) : nl ≤ tot := by
  have := h.2.2.2.2.1
  rw [← this]
  exact ct_le _ _
-- refusals
theorem pr_neg {x : Int32} {σ : pw_St} (h : x < 0) : f_X2_hasProcess x σ = some (0, σ) := by
  unfold f_X2_hasProcess
  rw [if_pos h, if_pos pz_isb0]
theorem pr_ge {x : Int32} {σ : pw_St} {np : Nat} (e : σ.1 1 8 = nI np) (h0 : ¬ x < 0) (h : nI np ≤ x) : f_X2_hasProcess x σ = some (0, σ) := by
  unfold f_X2_hasProcess
  rw [if_neg h0, e, if_pos h, if_pos pz_isb0]
theorem pr_in {p : Nat} {σ : pw_St} {np : Nat} (e : σ.1 1 8 = nI np) (hp : p < np) (hn : np ≤ 4) : f_X2_hasProcess (nI p) σ = some (1, σ) := by
  unfold f_X2_hasProcess
  rw [if_neg (nI_pos (by omega)), e, if_neg (nI_ge hp (by omega)), if_pos pz_isb1]
theorem in_neg {x y : Int32} {σ : pw_St} (h : x < 0) : f_X11_in x 0 y σ = some (0, σ) := by
  unfold f_X11_in
  rw [if_pos h, if_pos pz_isb0]
theorem in_ge {x : Int32} {n : Nat} {σ : pw_St} (h0 : ¬ x < 0) (h : nI n ≤ x) (hn : n < 2 ^ 30) : f_X11_in x 0 (nI n - 1) σ = some (0, σ) := by
  unfold f_X11_in
  have h1 : nI n - 1 < x := by
    rw [Int32.lt_iff_toInt_lt, pz_1, pk_sub_toInt hn (by decide)]
    rw [Int32.le_iff_toInt_le, nI_toInt (by omega)] at h
    omega
  rw [if_neg h0, if_pos h1, if_pos pz_isb0]
theorem in_ok {j n : Nat} {σ : pw_St} (h : j < n) (hn : n < 2 ^ 30) : f_X11_in (nI j) 0 (nI n - 1) σ = some (1, σ) := by
  unfold f_X11_in
  rw [if_neg (nI_pos (by omega)), pz_m1 (by omega), if_neg (nI_nlt (by omega) (by omega)), if_pos pz_isb1]
theorem ip_neg {x : Int32} {σ : pw_St} (h : x < 0) : f_X11_isProcess x σ = some (0, σ) := by
  unfold f_X11_isProcess
  rw [in_neg h, pz_bi_some, if_pos pz_isb0]
theorem ip_ge {x : Int32} {σ : pw_St} {np : Nat} (e : σ.1 10 1 = nI np) (h0 : ¬ x < 0) (h : nI np ≤ x) (hn : np ≤ 4) : f_X11_isProcess x σ = some (0, σ) := by
  unfold f_X11_isProcess
  rw [e, in_ge h0 h (by omega), pz_bi_some, if_pos pz_isb0]
theorem ip_in {p : Nat} {σ : pw_St} {np : Nat} (e : σ.1 10 1 = nI np) (hp : p < np) (hn : np ≤ 4) : f_X11_isProcess (nI p) σ = some (1, σ) := by
  unfold f_X11_isProcess
  rw [e, in_ok hp (by omega), pz_bi_some, if_pos pz_isb1]
/-- a number is negative, too large, or a place -/
theorem ix3 (x : Int32) {n : Nat} (hn : n < 2 ^ 31) : x < 0 ∨ (¬ x < 0 ∧ nI n ≤ x) ∨ ∃ j, j < n ∧ x = nI j := by
  by_cases h : x < 0
  · exact Or.inl h
  · rcases pk_ix x hn with h1 | h1 | h1
    · exact absurd h1 h
    · exact Or.inr (Or.inl ⟨h, h1⟩)
    · exact Or.inr (Or.inr h1)
theorem full_no {p i : Nat} {σ : pw_St} (hp : p < 4) (e : σ.1 11 p = nI i) (hi : i < 6) : f_X2_isFull (nI p) σ = some (0, σ) := by
  unfold f_X2_isFull
  rw [if_pos (pz_in hp (by decide)), nI_clamp (by omega), e, if_pos (show nI i < (6 : Int32) from nI_lt (b := 6) hi (by decide)), if_pos pz_isb0]
theorem full_yes {p : Nat} {σ : pw_St} (hp : p < 4) (e : σ.1 11 p = nI 6) : f_X2_isFull (nI p) σ = some (1, σ) := by
  unfold f_X2_isFull
  rw [if_pos (pz_in hp (by decide)), nI_clamp (by omega), e, if_neg (by decide), if_pos pz_isb1]
/-- the clocks of the row of a new event: none is beyond what has come -/
theorem clk_app {r12 r13 r14 r15 r16 r18 r19 r20 : Nat → Int32} {np nl tot p : Nat} {ev g : Nat → Nat} (hO : HOf r12 r13 r14 r15 r16 r18 r19 r20 np nl tot ev g) (hp : p < 4) : ∀ q, q < 4 → ∃ v, v ≤ evp ev p q ∧ clkA r16 (6 * p + ev p) (ev p) p (4 * (6 * p + ev p) + q) = nI v := by
  intro q hq
  obtain ⟨o1, o2, o3, o4, -⟩ := hO
  unfold clkA
  by_cases hqp : q = p
  · subst hqp
    refine ⟨ev q + 1, ?_, pk_us⟩
    unfold evp; rw [if_pos rfl]; exact Nat.le_refl _
  · rw [pk_un (by omega)]
    unfold clkP evp
    rw [if_neg hqp, if_pos (show 4 * (6 * p + ev p) ≤ 4 * (6 * p + ev p) + q ∧ 4 * (6 * p + ev p) + q < 4 * (6 * p + ev p) + 4 by omega)]
    by_cases h0 : ev p = 0
    · rw [if_pos h0]
      exact ⟨0, Nat.zero_le _, rfl⟩
    · rw [if_neg h0]
      obtain ⟨t, a1, a2, a3, a4⟩ := sl_of o2 hp (show ev p - 1 < ev p by omega)
      obtain ⟨v, b1, b2⟩ := o4 t a1 q hq
      refine ⟨v, ?_, ?_⟩
      · have := cn_mono g q (show t + 1 ≤ tot by omega)
        rw [o2 q hq] at this
        omega
      · rw [← b2, a4]
        congr 1
        omega
theorem clkA_out (f : Nat → Int32) {e i p j : Nat} (hp : p < 4) (h : j < 4 * e ∨ 4 * e + 4 ≤ j) : clkA f e i p j = f j := by
  unfold clkA
  rw [pk_un (by omega)]
  unfold clkP
  rw [if_neg (by omega)]
/-- and so behind a clock that follows another -/
theorem clk_fol {f : Nat → Int32} {e o : Nat} {B : Nat → Nat} (hB : ∀ q, q < 4 → B q < 2 ^ 31) (h1 : ∀ q, q < 4 → ∃ v, v ≤ B q ∧ f (4 * e + q) = nI v) (h2 : ∀ q, q < 4 → ∃ v, v ≤ B q ∧ f (4 * o + q) = nI v) : ∀ q, q < 4 → ∃ v, v ≤ B q ∧ clkM f e o 4 (4 * e + q) = nI v := by
  intro q hq
  unfold clkM
  rw [if_pos (show 4 * e ≤ 4 * e + q ∧ 4 * e + q < 4 * e + 4 by omega), show 4 * e + q - 4 * e = q by omega]
  by_cases h : f (4 * e + q) < f (4 * o + q)
  · rw [if_pos h]; exact h2 q hq
  · rw [if_neg h]; exact h1 q hq
/-- the values behind an event more, where it isn't one of its own -/
theorem HV_push {r17 r35 r36 r37 : Nat → Int32} {ev : Nat → Nat} {p : Nat} {kd sb wv : Int32} (h : HVf r17 r35 r36 r37 ev) (h6 : ∀ p, p < 4 → ev p ≤ 6) (hp : p < 4) (hi6 : ev p < 6) {s17 : Nat → Int32} (hlo : ∀ j, ¬ ((p * 7 + ev p + 1) * 3 ≤ j ∧ j < (p * 7 + ev p + 1) * 3 + 3) → s17 j = r17 j)
    (hn : ∀ n, n < 3 → s17 ((p * 7 + (ev p + 1)) * 3 + n) = if (1 : Int32) < kd ∨ sb ≠ nI n then r17 ((p * 7 + ev p) * 3 + n) else if kd = 1 then r17 ((p * 7 + ev p) * 3 + n) + wv else wv) : HVf s17 (upd r35 (6 * p + ev p) kd) (upd r36 (6 * p + ev p) sb) (upd r37 (6 * p + ev p) wv) (evp ev p) := by
  intro q hq i hi n hn3
  have hlow : ∀ i, i ≤ ev q → nv (upd r35 (6 * p + ev p) kd) (upd r36 (6 * p + ev p) sb) (upd r37 (6 * p + ev p) wv) q n i = nv r35 r36 r37 q n i := by
    intro i hi
    refine nv_cong (fun j hj => ?_)
    have hne : 6 * q + j ≠ 6 * p + ev p := by
      have a := h6 q hq
      by_cases hqp : q = p
      · subst hqp; omega
      · have := h6 p hp; omega
    exact ⟨pk_un hne, pk_un hne, pk_un hne⟩
  by_cases hnew : q = p ∧ i = ev p + 1
  · obtain ⟨rfl, rfl⟩ := hnew
    rw [hn n hn3, nv_s, hlow _ (Nat.le_refl _), pk_us, pk_us, pk_us, h q hq _ (Nat.le_refl _) n hn3]
  · have hle : i ≤ ev q := by
      unfold evp at hi
      by_cases hqp : q = p
      · subst hqp; rw [if_pos rfl] at hi; omega
      · rw [if_neg hqp] at hi; exact hi
    have a := h6 q hq
    have b := h6 p hp
    rw [hlo _ (by
      by_cases hqp : q = p
      · subst hqp; omega
      · omega), hlow i hle]
    exact h q hq i hle n hn3
theorem vl3_hi (f : Nat → Int32) {p i n : Nat} (hn : n < 3) : vlP f p i 3 ((p * 7 + (i + 1)) * 3 + n) = f ((p * 7 + i) * 3 + n) := by
  unfold vlP
  rw [if_pos (by omega)]
  congr 1
  omega
theorem vl3_lo (f : Nat → Int32) {p i j : Nat} (h : ¬ ((p * 7 + i + 1) * 3 ≤ j ∧ j < (p * 7 + i + 1) * 3 + 3)) : vlP f p i 3 j = f j := by
  unfold vlP
  rw [if_neg h]
theorem mo_app {r12 r13 r14 r15 r16 r18 r19 r20 : Nat → Int32} {np nl tot p : Nat} {ev g : Nat → Nat} (hO : HOf r12 r13 r14 r15 r16 r18 r19 r20 np nl tot ev g) (h6 : ∀ p, p < 4 → ev p ≤ 6) (hp : p < 4) : ∀ q, q < 4 → 0 < ev p → r16 (4 * (6 * p + (ev p - 1)) + q) ≤ clkA r16 (6 * p + ev p) (ev p) p (4 * (6 * p + ev p) + q) := by
  intro q hq h0
  obtain ⟨o1, o2, o3, o4, -⟩ := hO
  unfold clkA
  by_cases hqp : q = p
  · subst hqp
    rw [pk_us]
    obtain ⟨t, a1, a2, a3, a4⟩ := sl_of o2 hp (show ev q - 1 < ev q by omega)
    obtain ⟨v, b1, b2⟩ := o4 t a1 q hq
    rw [a4] at b2
    rw [b2]
    have := cn_mono g q (show t + 1 ≤ tot by omega)
    rw [o2 q hq] at this
    have := h6 q hq
    exact nI_le (by omega) (by omega)
  · rw [pk_un (by omega)]
    unfold clkP
    rw [if_pos (show 4 * (6 * p + ev p) ≤ 4 * (6 * p + ev p) + q ∧ 4 * (6 * p + ev p) + q < 4 * (6 * p + ev p) + 4 by omega), if_neg (by omega), show 4 * (6 * p + ev p) + q - 4 = 4 * (6 * p + (ev p - 1)) + q by omega]
    exact Int32.le_refl _
theorem mo_fol {r f : Nat → Int32} {e o k : Nat} {q : Nat} (hq : q < 4) (h : r k ≤ f (4 * e + q)) : r k ≤ clkM f e o 4 (4 * e + q) := by
  unfold clkM
  rw [if_pos (show 4 * e ≤ 4 * e + q ∧ 4 * e + q < 4 * e + 4 by omega)]
  by_cases hl : f (4 * e + q) < f (4 * o + (4 * e + q - 4 * e))
  · rw [if_pos hl]; exact Int32.le_trans h (Int32.le_of_lt hl)
  · rw [if_neg hl]; exact h
theorem MoC_push {f f2 : Nat → Int32} {ev : Nat → Nat} {p : Nat} (h : MoC f ev) (h6 : ∀ p, p < 4 → ev p ≤ 6) (hp : p < 4) (hi : ev p < 6) (h16 : ∀ j, j < 4 * (6 * p + ev p) ∨ 4 * (6 * p + ev p) + 4 ≤ j → f2 j = f j) (hmo : ∀ q, q < 4 → 0 < ev p → f (4 * (6 * p + (ev p - 1)) + q) ≤ f2 (4 * (6 * p + ev p) + q)) : MoC f2 (evp ev p) := by
  intro p2 hp2 i hi2 q hq
  have hb := h6 p2 hp2
  unfold evp at hi2
  by_cases he : p2 = p
  · subst he
    rw [if_pos rfl] at hi2
    rw [h16 (4 * (6 * p2 + i) + q) (by omega)]
    by_cases hl : i + 1 = ev p2
    · have := hmo q hq (by omega)
      rw [← hl] at this
      rw [show i + 1 - 1 = i by omega] at this
      exact this
    · rw [h16 (4 * (6 * p2 + (i + 1)) + q) (by omega)]
      exact h p2 hp2 i (by omega) q hq
  · rw [if_neg he] at hi2
    rw [h16 (4 * (6 * p2 + i) + q) (by omega), h16 (4 * (6 * p2 + (i + 1)) + q) (by omega)]
    exact h p2 hp2 i hi2 q hq
