-- PURE PART: least, join, next
/-- the clocks' sum of an event, as a number of a cut -/
def lsum (f : Nat → Int32) (e : Nat) : Nat → Int32
  | 0 => 0
  | q + 1 => lsum f e q + f (4 * e + q) * nI (un q)
theorem lw_l {σ : pw_St} {p i : Nat} (hp : p < 4) (hi : i < 6) : ∀ (n q : Nat), q ≤ 4 → 4 - q < n → l_X2_leastWith_5 n (nI p) (nI i) (lsum (σ.1 16) (6 * p + i) q) (nI q) σ = some (lsum (σ.1 16) (6 * p + i) 4, σ) := by
  intro n
  induction n with
  | zero => intro q _ h; omega
  | succ n ih =>
    intro q h1 h2
    show b_X2_leastWith_5 (l_X2_leastWith_5 n) _ _ _ _ _ = _
    unfold b_X2_leastWith_5
    by_cases h : q = 4
    · subst h
      rw [if_pos (by decide)]
    · have hq : q < 4 := by omega
      rw [if_neg (show ¬ (4 : Int32) ≤ nI q from nI_ge (b := 4) hq (by decide)), pz_clockOf σ hp hi hq, pz_bi_some, if_pos (pz_in hq (by decide)), nI_clamp (by omega), pz_wt hq, pz_1, nI_add]
      exact ih (q + 1) (by omega) (by omega)
theorem lm_l {σ : pw_St} {p i : Nat} (hp : p < 4) (hi : 0 < i) (hi6 : i ≤ 6) : ∀ (n q : Nat), q ≤ 4 → 4 - q < n → l_X11_least_29 n (nI p) (nI i) (lsum (σ.1 39) (6 * p + (i - 1)) q) (nI q) σ = some (lsum (σ.1 39) (6 * p + (i - 1)) 4, σ) := by
  intro n
  induction n with
  | zero => intro q _ h; omega
  | succ n ih =>
    intro q h1 h2
    show b_X11_least_29 (l_X11_least_29 n) _ _ _ _ _ = _
    unfold b_X11_least_29
    by_cases h : q = 4
    · subst h
      rw [if_pos (by decide)]
    · have hq : q < 4 := by omega
      rw [if_neg (show ¬ (4 : Int32) ≤ nI q from nI_ge (b := 4) hq (by decide)), if_neg (nI_nle hi (by omega)), pz_unit σ hq, pz_bi_some, ixp2, pz_m1 (by omega), show 6 * p + i - 1 = 6 * p + (i - 1) by omega, ix46, if_pos (pz_in (by omega) (by decide)), nI_clamp (by omega), pz_1, nI_add]
      rw [show lsum (σ.1 39) (6 * p + (i - 1)) q + nI (un q) * σ.1 39 (4 * (6 * p + (i - 1)) + q) = lsum (σ.1 39) (6 * p + (i - 1)) (q + 1) by rw [Int32.mul_comm]; rfl]
      exact ih (q + 1) (by omega) (by omega)
theorem pz_least {σ : pw_St} {np nl tot : Nat} {ev g : Nat → Nat} (hH : HInv σ np nl tot ev g) (x1 x2 : Int32) : Same (f_X10_least x1 x2) (f_X11_least x1 x2) σ := by
  obtain ⟨⟨b1, b2, b3, b4, b5, b6, b7, b8, b9, b10, b11⟩, hR, hO, hV⟩ := hH
  rcases ix3 x1 (show np < 2 ^ 31 by omega) with h1 | ⟨h1, h2⟩ | ⟨p, hp, rfl⟩
  · exact ⟨-1, by unfold f_X10_least; rw [pr_neg h1, pz_bi_some, if_pos rfl], by unfold f_X11_least; rw [ip_neg h1, pz_bi_some, if_pos rfl]⟩
  · exact ⟨-1, by unfold f_X10_least; rw [pr_ge b5 h1 h2, pz_bi_some, if_pos rfl], by unfold f_X11_least; rw [ip_ge b6 h1 h2 b1, pz_bi_some, if_pos rfl]⟩
  have hp4 : p < 4 := by omega
  have eH := b11 p hp4
  have h6 := b3 p hp4
  have hX : f_X10_least (nI p) x2 σ = if x2 < 0 then some (-1, σ) else if x2 ≤ nI (ev p) then (if x2 = 0 then some (0, σ) else (pw_bi (f_X2_leastWith (nI p) (x2 - (1 : Int32)) σ) fun r2 σ2 => (some (r2, σ2)))) else some (-1, σ) := by
    unfold f_X10_least
    rw [pr_in b5 hp b1, pz_bi_some, if_neg (by decide), if_pos (pz_in hp4 (by decide)), nI_clamp (by omega), eH]
  have hM : f_X11_least (nI p) x2 σ = pw_bi (f_X11_in x2 0 (nI (ev p + 1) - 1) σ) fun r2 σ2 => (if r2 = 0 then (some ((-1 : Int32), σ2)) else (l_X11_least_29 pw_FU (nI p) x2 (0 : Int32) (0 : Int32) σ2)) := by
    unfold f_X11_least
    rw [ip_in b6 hp b1, pz_bi_some, if_neg (by decide), if_pos (pz_in hp4 (by decide)), nI_clamp (by omega), hR.1, eH, pz_m1 (show 0 < ev p + 1 by omega)]
    rfl
  rcases ix3 x2 (show ev p + 1 < 2 ^ 31 by omega) with h1 | ⟨h1, h2⟩ | ⟨i, hi, rfl⟩
  · exact ⟨-1, by rw [hX, if_pos h1], by rw [hM, in_neg h1, pz_bi_some, if_pos rfl]⟩
  · have hn : ¬ x2 ≤ nI (ev p) := fun hle => by
      have := Int32.le_trans h2 hle
      exact nI_ge (a := ev p) (b := ev p + 1) (by omega) (by omega) this
    exact ⟨-1, by rw [hX, if_neg h1, if_neg hn], by rw [hM, in_ge h1 h2 (by omega), pz_bi_some, if_pos rfl]⟩
  · have hle : nI i ≤ nI (ev p) := nI_le (by omega) (by omega)
    by_cases h0 : i = 0
    · subst h0
      refine ⟨0, by rw [hX, if_neg (by decide), if_pos hle, if_pos (show nI 0 = 0 from rfl)], ?_⟩
      rw [hM, in_ok hi (by omega), pz_bi_some, if_neg (by decide), show pw_FU = 2999 + 1 from rfl]
      show b_X11_least_29 _ _ _ _ _ _ = _
      unfold b_X11_least_29
      rw [if_neg (by decide), if_pos (by decide)]
    · refine ⟨lsum (σ.1 16) (6 * p + (i - 1)) 4, ?_, ?_⟩
      · rw [hX, if_neg (nI_pos (by omega)), if_pos hle, if_neg (nI_ne0 (by omega) (by omega)), pz_m1 (by omega)]
        unfold f_X2_leastWith
        have := lw_l (σ := σ) (i := i - 1) hp4 (by omega) pw_FU 0 (by omega) (by unfold pw_FU; omega)
        rw [show lsum (σ.1 16) (6 * p + (i - 1)) 0 = 0 from rfl] at this
        rw [pz_0] at this ⊢
        rw [this, pz_bi_some]
      · rw [hM, in_ok hi (by omega), pz_bi_some, if_neg (by decide)]
        have := lm_l (σ := σ) (i := i) hp4 (by omega) (by omega) pw_FU 0 (by omega) (by unfold pw_FU; omega)
        rw [show lsum (σ.1 39) (6 * p + (i - 1)) 0 = 0 from rfl, hR.2.2.2.2.1] at this
        rw [pz_0] at this ⊢
        exact this
/-- two cuts joined, or met -/
def jd (m : Bool) (a b : Nat) : Nat := if m then (if a < b then a else b) else (if a < b then b else a)
def jn (m : Bool) (a b : Nat) : Nat → Nat
  | 0 => 0
  | p + 1 => jn m a b p + un p * jd m (dg a p) (dg b p)
def bI (m : Bool) : Int32 := if m then 1 else 0
theorem cb_l {σ : pw_St} {a b : Nat} (m : Bool) (ha : a < 2401) (hb : b < 2401) : ∀ (n p : Nat), p ≤ 4 → 4 - p < n → l_X6_combine_5 n (nI a) (nI b) (bI m) (nI (jn m a b p)) (nI p) σ = some (nI (jn m a b 4), σ) := by
  intro n
  induction n with
  | zero => intro p _ h; omega
  | succ n ih =>
    intro p h1 h2
    show b_X6_combine_5 (l_X6_combine_5 n) _ _ _ _ _ _ = _
    unfold b_X6_combine_5
    by_cases h : p = 4
    · subst h
      rw [if_pos (by decide)]
    · have hp : p < 4 := by omega
      have d1 := dg_lt a p
      have d2 := dg_lt b p
      rw [if_neg (show ¬ (4 : Int32) ≤ nI p from nI_ge (b := 4) hp (by decide)), pz_share σ (by omega) (by omega), pz_bi_some, pz_share σ (by omega) (by omega), pz_bi_some]
      have go : ∀ v : Nat, v = jd m (dg a p) (dg b p) → b_X6_combine_49 (l_X6_combine_5 n) (nI a) (nI b) (bI m) (nI p) (nI v) (nI (jn m a b p)) σ = some (nI (jn m a b 4), σ) := by
        intro v hv
        unfold b_X6_combine_49
        rw [if_pos (pz_in hp (by decide)), nI_clamp (by omega), pz_wt hp, pk_mul, nI_add, pz_1, nI_add, hv, Nat.mul_comm]
        exact ih (p + 1) (by omega) (by omega)
      cases m
      · rw [if_pos (show bI false = 0 from rfl)]
        by_cases hlt : dg a p < dg b p
        · rw [if_pos (nI_lt hlt (by omega))]; exact go _ (by unfold jd; rw [if_neg (by decide), if_pos hlt])
        · rw [if_neg (nI_nlt (by omega) (by omega))]; exact go _ (by unfold jd; rw [if_neg (by decide), if_neg hlt])
      · rw [if_neg (show ¬ bI true = 0 by decide)]
        by_cases hlt : dg b p < dg a p
        · rw [if_pos (nI_lt hlt (by omega))]; exact go _ (by unfold jd; rw [if_pos rfl, if_neg (by omega)])
        · rw [if_neg (nI_nlt (by omega) (by omega))]
          refine go _ ?_
          unfold jd
          rw [if_pos rfl]
          by_cases h9 : dg a p < dg b p
          · rw [if_pos h9]
          · rw [if_neg h9]; omega
theorem pz_combine {σ : pw_St} {a b : Nat} (m : Bool) (ha : a < 2401) (hb : b < 2401) : f_X6_combine (nI a) (nI b) (bI m) σ = some (nI (jn m a b 4), σ) := by
  unfold f_X6_combine
  exact cb_l m ha hb pw_FU 0 (by omega) (by unfold pw_FU; omega)
theorem jo_l {σ : pw_St} {a b : Nat} (m : Bool) (ha : a < 2401) (hb : b < 2401) : ∀ (n p : Nat), p ≤ 4 → 4 - p < n → l_X11_joined_5 n (nI a) (nI b) (bI m) (nI (jn m a b p)) (nI p) σ = some (nI (jn m a b 4), σ) := by
  intro n
  induction n with
  | zero => intro p _ h; omega
  | succ n ih =>
    intro p h1 h2
    show b_X11_joined_5 (l_X11_joined_5 n) _ _ _ _ _ _ = _
    unfold b_X11_joined_5
    by_cases h : p = 4
    · subst h
      rw [if_pos (by decide)]
    · have hp : p < 4 := by omega
      have d1 := dg_lt a p
      have d2 := dg_lt b p
      rw [if_neg (show ¬ (4 : Int32) ≤ nI p from nI_ge (b := 4) hp (by decide)), pz_part σ (by omega) hp, pz_bi_some, pz_part σ (by omega) hp, pz_bi_some, pz_unit σ hp, pz_bi_some]
      have go : ∀ v : Nat, v = jd m (dg a p) (dg b p) → b_X11_joined_56 (l_X11_joined_5 n) (nI a) (nI b) (bI m) (nI p) (nI v) (nI (un p)) (nI (jn m a b p)) σ = some (nI (jn m a b 4), σ) := by
        intro v hv
        unfold b_X11_joined_56
        rw [pk_mul, nI_add, pz_1, nI_add, hv]
        exact ih (p + 1) (by omega) (by omega)
      unfold b_X11_joined_45
      by_cases hle : dg b p ≤ dg a p
      · rw [if_pos (nI_le hle (by omega))]
        cases m
        · rw [if_pos (show (0 : Int32) = bI false from rfl)]
          exact go _ (by unfold jd; rw [if_neg (by decide), if_neg (by omega)])
        · rw [if_neg (show ¬ (0 : Int32) = bI true by decide)]
          exact go _ (by unfold jd; rw [if_pos rfl, if_neg (by omega)])
      · rw [if_neg (nI_ge (by omega) (by omega))]
        cases m
        · rw [if_neg (show ¬ (1 : Int32) = bI false by decide)]
          exact go _ (by unfold jd; rw [if_neg (by decide), if_pos (by omega)])
        · rw [if_pos (show (1 : Int32) = bI true from rfl)]
          exact go _ (by unfold jd; rw [if_pos rfl, if_pos (by omega)])
theorem pz_joined {σ : pw_St} {a b : Nat} (m : Bool) (ha : a < 2401) (hb : b < 2401) : f_X11_joined (nI a) (nI b) (bI m) σ = some (nI (jn m a b 4), σ) := by
  unfold f_X11_joined
  exact jo_l m ha hb pw_FU 0 (by omega) (by unfold pw_FU; omega)
theorem pz_join {σ : pw_St} {np : Nat} {ev : Nat → Nat} (h : QI σ np ev) (x1 x2 x3 : Int32) : Same (f_X10_join x1 x2 x3) (f_X11_join x1 x2 x3) σ := by
  obtain ⟨hM, q1, q2, q3⟩ := id h
  rcases cut3 ev x1 with ⟨a, rfl, hA⟩ | hno
  · rcases cut3 ev x2 with ⟨b, rfl, hB⟩ | hno
    · have hX : ∀ m, x3 = bI m → f_X10_join (nI a) (nI b) x3 σ = some (nI (jn m a b 4), σ) := by
        intro m hm
        unfold f_X10_join
        rw [hc_yes hM.2.1 q1 hA, pz_bi_some, if_neg (by decide), hc_yes hM.2.1 q1 hB, pz_bi_some, if_neg (by decide), hm]
        have : b_X10_join_36 (nI a) (nI b) (bI m) σ = some (nI (jn m a b 4), σ) := by
          unfold b_X10_join_36 b_X10_join_48
          cases m
          · rw [if_neg (show ¬ bI false = 1 by decide)]
            have := pz_combine (σ := σ) false hA.1 hB.1
            rw [show bI false = 0 from rfl] at this
            rw [this, pz_bi_some]
          · rw [if_pos (show bI true = 1 from rfl)]
            have := pz_combine (σ := σ) true hA.1 hB.1
            rw [show bI true = 1 from rfl] at this
            rw [this, pz_bi_some]
        cases m
        · rw [if_pos (show bI false = 0 from rfl)]; exact this
        · rw [if_neg (show ¬ bI true = 0 by decide), if_pos (show bI true = 1 from rfl)]; exact this
      have hY : ∀ m, x3 = bI m → f_X11_join (nI a) (nI b) x3 σ = some (nI (jn m a b 4), σ) := by
        intro m hm
        unfold f_X11_join
        rw [ic_yes hM hA, pz_bi_some, if_neg (by decide), ic_yes hM hB, pz_bi_some, if_neg (by decide), hm]
        have : f_X11_in (bI m) 0 1 σ = some (1, σ) := by cases m <;> rfl
        rw [this, pz_bi_some, if_neg (by decide)]
        unfold b_X11_join_39
        cases m
        · rw [if_neg (show ¬ bI false = 1 by decide)]
          have := pz_joined (σ := σ) false hA.1 hB.1
          rw [show bI false = 0 from rfl] at this
          rw [this, pz_bi_some]
        · rw [if_pos (show bI true = 1 from rfl)]
          have := pz_joined (σ := σ) true hA.1 hB.1
          rw [show bI true = 1 from rfl] at this
          rw [this, pz_bi_some]
      by_cases e0 : x3 = 0
      · exact ⟨_, hX false e0, hY false e0⟩
      · by_cases e1 : x3 = 1
        · exact ⟨_, hX true e1, hY true e1⟩
        · refine ⟨-2, ?_, ?_⟩
          · unfold f_X10_join
            rw [hc_yes hM.2.1 q1 hA, pz_bi_some, if_neg (by decide), hc_yes hM.2.1 q1 hB, pz_bi_some, if_neg (by decide), if_neg e0, if_neg e1]
          · unfold f_X11_join
            rw [ic_yes hM hA, pz_bi_some, if_neg (by decide), ic_yes hM hB, pz_bi_some, if_neg (by decide)]
            rcases ix3 x3 (show 2 < 2 ^ 31 by decide) with k | ⟨k1, k2⟩ | ⟨j, hj, rfl⟩
            · rw [in_neg k, pz_bi_some, if_pos rfl]
            · rw [show (1 : Int32) = nI 2 - 1 from rfl, in_ge k1 k2 (by decide), pz_bi_some, if_pos rfl]
            · rcases (show j = 0 ∨ j = 1 by omega) with rfl | rfl
              · exact absurd rfl e0
              · exact absurd rfl e1
    · refine ⟨-1, ?_, ?_⟩
      · unfold f_X10_join
        rw [hc_yes hM.2.1 q1 hA, pz_bi_some, if_neg (by decide), hc_no hM.2.1 q1 hno, pz_bi_some, if_pos rfl]
      · unfold f_X11_join
        rw [ic_yes hM hA, pz_bi_some, if_neg (by decide), ic_no hM hno, pz_bi_some, if_pos rfl]
  · refine ⟨-1, ?_, ?_⟩
    · unfold f_X10_join
      rw [hc_no hM.2.1 q1 hno, pz_bi_some, if_pos rfl]
    · unfold f_X11_join
      rw [ic_no hM hno, pz_bi_some, if_pos rfl]
