-- PURE PART: cuts, possible cuts
/-- a cut: no process has more events in it than it had -/
def isC (ev : Nat → Nat) (c : Nat) : Prop := c < 2401 ∧ ∀ p, p < 4 → dg c p ≤ ev p
/-- the last event of p in the cut has nothing of q ahead of it that is outside -/
def okk (f : Nat → Int32) (d : Nat → Nat) (p q : Nat) : Prop := 0 < d p → f (4 * (6 * p + (d p - 1)) + q) ≤ nI (d q)
def clo (f : Nat → Int32) (c : Nat) : Prop := ∀ p, p < 4 → ∀ q, q < 4 → okk f (dg c) p q
def pos (ev : Nat → Nat) (f : Nat → Int32) (c : Nat) : Prop := isC ev c ∧ clo f c
theorem hc_l {σ : pw_St} {ev : Nat → Nat} (h6 : ∀ p, p < 4 → ev p ≤ 6) (e11 : ∀ p, p < 4 → σ.1 11 p = nI (ev p)) (c0 : Nat) (hc0 : c0 < 2401) : ∀ (n p : Nat), p ≤ 4 → 4 - p < n → ((∀ q, p ≤ q → q < 4 → dg c0 q ≤ ev q) → l_X2_hasCut_17 n (nI (c0 / 7 ^ p)) (nI p) σ = some (1, σ)) ∧ ((∃ q, p ≤ q ∧ q < 4 ∧ ev q < dg c0 q) → l_X2_hasCut_17 n (nI (c0 / 7 ^ p)) (nI p) σ = some (0, σ)) := by
  intro n
  induction n with
  | zero => intro p _ h; omega
  | succ n ih =>
    intro p h1 h2
    have hc : c0 / 7 ^ p < 2 ^ 31 := Nat.lt_of_le_of_lt (Nat.div_le_self _ _) (by omega)
    have key : l_X2_hasCut_17 (n + 1) (nI (c0 / 7 ^ p)) (nI p) σ = b_X2_hasCut_17 (l_X2_hasCut_17 n) (nI (c0 / 7 ^ p)) (nI p) σ := rfl
    rw [key]
    unfold b_X2_hasCut_17
    by_cases h : p = 4
    · subst h
      rw [if_pos (by decide), if_pos pz_isb1]
      exact ⟨fun _ => rfl, fun ⟨q, a, b, _⟩ => by omega⟩
    · have hp : p < 4 := by omega
      have hdg : c0 / 7 ^ p % 7 = dg c0 p := rfl
      rw [if_neg (show ¬ (4 : Int32) ≤ nI p from nI_ge (b := 4) hp (by decide)), if_pos (pz_in hp (by decide)), nI_clamp (n := p) (by omega), e11 p hp, pz_rem7 hc, hdg, pz_div7 hc, pz_1, nI_add, Nat.div_div_eq_div_mul, ← Nat.pow_succ]
      have h7 := dg_lt c0 p
      have h66 := h6 p hp
      by_cases hd : dg c0 p ≤ ev p
      · rw [if_pos (nI_le hd (by omega))]
        obtain ⟨i1, i2⟩ := ih (p + 1) (by omega) (by omega)
        refine ⟨fun hq => i1 (fun q a b => hq q (by omega) b), fun ⟨q, a, b, d⟩ => i2 ⟨q, ?_, b, d⟩⟩
        rcases Nat.lt_or_ge p q with h9 | h9
        · omega
        · have : q = p := by omega
          subst this; omega
      · rw [if_neg (nI_ge (by omega) (by omega)), if_pos pz_isb0]
        exact ⟨fun hq => absurd (hq p (Nat.le_refl _) hp) hd, fun _ => rfl⟩
theorem hc_yes {σ : pw_St} {ev : Nat → Nat} (h6 : ∀ p, p < 4 → ev p ≤ 6) (e11 : ∀ p, p < 4 → σ.1 11 p = nI (ev p)) {c : Nat} (h : isC ev c) : f_X2_hasCut (nI c) σ = some (1, σ) := by
  unfold f_X2_hasCut
  rw [if_neg (nI_pos (by have := h.1; omega)), if_pos (show nI c < (2401 : Int32) from nI_lt (b := 2401) h.1 (by decide)), pz_0]
  have := (hc_l h6 e11 c h.1 pw_FU 0 (by omega) (by unfold pw_FU; omega)).1 (fun q _ b => h.2 q b)
  rw [Nat.pow_zero, Nat.div_one] at this
  exact this
theorem hc_no {σ : pw_St} {ev : Nat → Nat} (h6 : ∀ p, p < 4 → ev p ≤ 6) (e11 : ∀ p, p < 4 → σ.1 11 p = nI (ev p)) {x : Int32} (h : ∀ c, x = nI c → c < 2401 → ¬ isC ev c) : f_X2_hasCut x σ = some (0, σ) := by
  unfold f_X2_hasCut
  rcases ix3 x (show 2401 < 2 ^ 31 by decide) with h1 | ⟨h1, h2⟩ | ⟨c, hc, rfl⟩
  · rw [if_pos h1, if_pos pz_isb0]
  · rw [if_neg h1, if_neg (show ¬ x < (2401 : Int32) from Int32.not_lt.mpr h2), if_pos pz_isb0]
  · rw [if_neg (nI_pos (by omega)), if_pos (show nI c < (2401 : Int32) from nI_lt (b := 2401) hc (by decide)), pz_0]
    have hn := h c rfl hc
    have hq : ∃ q, 0 ≤ q ∧ q < 4 ∧ ev q < dg c q := by
      refine Classical.byContradiction (fun hh => hn ⟨hc, fun p hp => ?_⟩)
      rcases Nat.lt_or_ge (ev p) (dg c p) with h9 | h9
      · exact absurd ⟨p, Nat.zero_le _, hp, h9⟩ hh
      · exact h9
    have := (hc_l h6 e11 c hc pw_FU 0 (by omega) (by unfold pw_FU; omega)).2 hq
    rw [Nat.pow_zero, Nat.div_one] at this
    exact this
theorem ic_l {σ : pw_St} {np : Nat} {ev : Nat → Nat} (hnp : np ≤ 4) (h6 : ∀ p, p < 4 → ev p ≤ 6) (h0 : ∀ p, np ≤ p → p < 4 → ev p = 0) (e1 : σ.1 10 1 = nI np) (e34 : ∀ p, p < 4 → σ.1 34 p = nI (ev p)) (c : Nat) (hc0 : c < 2401) : ∀ (n p : Nat), p ≤ 4 → 4 - p < n → ((∀ q, p ≤ q → q < 4 → dg c q ≤ ev q) → l_X11_isCut_15 n (nI c) (nI p) σ = some (1, σ)) ∧ ((∃ q, p ≤ q ∧ q < 4 ∧ ev q < dg c q) → l_X11_isCut_15 n (nI c) (nI p) σ = some (0, σ)) := by
  intro n
  induction n with
  | zero => intro p _ h; omega
  | succ n ih =>
    intro p h1 h2
    have key : l_X11_isCut_15 (n + 1) (nI c) (nI p) σ = b_X11_isCut_15 (l_X11_isCut_15 n) (nI c) (nI p) σ := rfl
    rw [key]
    unfold b_X11_isCut_15
    by_cases h : p = 4
    · subst h
      rw [if_pos (by decide), if_pos pz_isb1]
      exact ⟨fun _ => rfl, fun ⟨q, a, b, _⟩ => by omega⟩
    · have hp : p < 4 := by omega
      have h66 := h6 p hp
      have h7 := dg_lt c p
      have step : (if (σ.1 10 1) ≤ nI p then (b_X11_isCut_43 (l_X11_isCut_15 n) (nI c) (nI p) (0 : Int32) (nI (dg c p)) σ) else (if pw_in (nI p) 4 = true then (b_X11_isCut_43 (l_X11_isCut_15 n) (nI c) (nI p) (σ.1 34 (nI p).toNatClampNeg) (nI (dg c p)) σ) else none)) = b_X11_isCut_43 (l_X11_isCut_15 n) (nI c) (nI p) (nI (ev p)) (nI (dg c p)) σ := by
        rw [e1, if_pos (pz_in hp (by decide)), nI_clamp (n := p) (by omega), e34 p hp]
        by_cases hh : np ≤ p
        · rw [if_pos (nI_le hh (by omega)), h0 p hh hp]; rfl
        · rw [if_neg (nI_ge (by omega) (by omega))]
      rw [if_neg (show ¬ (4 : Int32) ≤ nI p from nI_ge (b := 4) hp (by decide)), pz_part σ (by omega) hp, pz_bi_some, step]
      unfold b_X11_isCut_43
      rw [pz_1, nI_add]
      by_cases hd : dg c p ≤ ev p
      · rw [if_pos (nI_le hd (by omega))]
        obtain ⟨i1, i2⟩ := ih (p + 1) (by omega) (by omega)
        refine ⟨fun hq => i1 (fun q a b => hq q (by omega) b), fun ⟨q, a, b, d⟩ => i2 ⟨q, ?_, b, d⟩⟩
        rcases Nat.lt_or_ge p q with h9 | h9
        · omega
        · have : q = p := by omega
          subst this; omega
      · rw [if_neg (nI_ge (by omega) (by omega)), if_pos pz_isb0]
        exact ⟨fun hq => absurd (hq p (Nat.le_refl _) hp) hd, fun _ => rfl⟩
/-- what a state must be for the reference's cuts -/
def CutM (σ : pw_St) (np : Nat) (ev : Nat → Nat) : Prop := np ≤ 4 ∧ (∀ p, p < 4 → ev p ≤ 6) ∧ (∀ p, np ≤ p → p < 4 → ev p = 0) ∧ σ.1 10 1 = nI np ∧ (∀ p, p < 4 → σ.1 34 p = nI (ev p))
theorem ic_yes {σ : pw_St} {np : Nat} {ev : Nat → Nat} (hM : CutM σ np ev) {c : Nat} (h : isC ev c) : f_X11_isCut (nI c) σ = some (1, σ) := by
  obtain ⟨m1, m2, m3, m4, m5⟩ := hM
  unfold f_X11_isCut
  rw [show (2400 : Int32) = nI 2401 - 1 from rfl, in_ok h.1 (by decide), pz_bi_some, if_neg (by decide), pz_0]
  exact (ic_l m1 m2 m3 m4 m5 c h.1 pw_FU 0 (by omega) (by unfold pw_FU; omega)).1 (fun q _ b => h.2 q b)
theorem ic_no {σ : pw_St} {np : Nat} {ev : Nat → Nat} (hM : CutM σ np ev) {x : Int32} (h : ∀ c, x = nI c → c < 2401 → ¬ isC ev c) : f_X11_isCut x σ = some (0, σ) := by
  obtain ⟨m1, m2, m3, m4, m5⟩ := hM
  unfold f_X11_isCut
  rcases ix3 x (show 2401 < 2 ^ 31 by decide) with h1 | ⟨h1, h2⟩ | ⟨c, hc, rfl⟩
  · rw [in_neg h1, pz_bi_some, if_pos rfl, if_pos pz_isb0]
  · rw [show (2400 : Int32) = nI 2401 - 1 from rfl, in_ge h1 h2 (by decide), pz_bi_some, if_pos rfl, if_pos pz_isb0]
  · rw [show (2400 : Int32) = nI 2401 - 1 from rfl, in_ok hc (by decide), pz_bi_some, if_neg (by decide), pz_0]
    have hn := h c rfl hc
    have hq : ∃ q, 0 ≤ q ∧ q < 4 ∧ ev q < dg c q := by
      refine Classical.byContradiction (fun hh => hn ⟨hc, fun p hp => ?_⟩)
      rcases Nat.lt_or_ge (ev p) (dg c p) with h9 | h9
      · exact absurd ⟨p, Nat.zero_le _, hp, h9⟩ hh
      · exact h9
    exact (ic_l m1 m2 m3 m4 m5 c hc pw_FU 0 (by omega) (by unfold pw_FU; omega)).2 hq
/-- a number is a cut, or neither side takes it for one -/
theorem cut3 (ev : Nat → Nat) (x : Int32) : (∃ c, x = nI c ∧ isC ev c) ∨ ∀ c, x = nI c → c < 2401 → ¬ isC ev c := by
  by_cases h : ∃ c, x = nI c ∧ isC ev c
  · exact Or.inl h
  · exact Or.inr (fun c h1 _ h2 => h ⟨c, h1, h2⟩)
