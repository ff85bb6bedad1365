-- PURE PART: event, letter, ahead, clock
/-- a call that changes nothing -/
def Same (fx fm : pw_St → Option (Int32 × pw_St)) (σ : pw_St) : Prop := ∃ r, fx σ = some (r, σ) ∧ fm σ = some (r, σ)
theorem ev_ref {σ : pw_St} {np nl tot : Nat} {ev g : Nat → Nat} (hH : HInv σ np nl tot ev g) (x1 x2 : Int32) : (f_X2_hasEvent x1 x2 σ = some (0, σ) ∧ f_X11_isEvent x1 x2 σ = some (0, σ)) ∨ ∃ p i, p < np ∧ i < ev p ∧ x1 = nI p ∧ x2 = nI i ∧ f_X2_hasEvent x1 x2 σ = some (1, σ) ∧ f_X11_isEvent x1 x2 σ = some (1, σ) := by
  obtain ⟨⟨b1, b2, b3, b4, b5, b6, b7, b8, b9, b10, b11⟩, hR, hO, hV⟩ := hH
  have u1 : ∀ x, f_X2_hasProcess x1 σ = some (x, σ) → x = 0 → f_X2_hasEvent x1 x2 σ = some (0, σ) := fun x h e => by
    unfold f_X2_hasEvent
    rw [h, pz_bi_some, if_pos e, if_pos pz_isb0]
  have u2 : ∀ x, f_X11_isProcess x1 σ = some (x, σ) → x = 0 → f_X11_isEvent x1 x2 σ = some (0, σ) := fun x h e => by
    unfold f_X11_isEvent
    rw [h, pz_bi_some, if_pos e, if_pos pz_isb0]
  rcases ix3 x1 (show np < 2 ^ 31 by omega) with h1 | ⟨h1, h2⟩ | ⟨p, hp, rfl⟩
  · exact Or.inl ⟨u1 0 (pr_neg h1) rfl, u2 0 (ip_neg h1) rfl⟩
  · exact Or.inl ⟨u1 0 (pr_ge b5 h1 h2) rfl, u2 0 (ip_ge b6 h1 h2 b1) rfl⟩
  have hp4 : p < 4 := by omega
  have eH := b11 p hp4
  have h6 := b3 p hp4
  have hx : pw_in (nI p) 4 = true := pz_in hp4 (by decide)
  have v1 : f_X2_hasEvent (nI p) x2 σ = if x2 < 0 then some (0, σ) else if nI (ev p) ≤ x2 then some (0, σ) else some (1, σ) := by
    unfold f_X2_hasEvent
    rw [pr_in b5 hp b1, pz_bi_some, if_neg (show ¬ (1 : Int32) = 0 by decide), if_pos hx, nI_clamp (n := p) (by omega), eH, if_pos pz_isb0, if_pos pz_isb1]
  have v2 : f_X11_isEvent (nI p) x2 σ = pw_bi (f_X11_in x2 0 (nI (ev p) - 1) σ) fun r2 σ2 => (if r2 = 0 then some (0, σ2) else some (1, σ2)) := by
    unfold f_X11_isEvent
    rw [ip_in b6 hp b1, pz_bi_some, if_neg (show ¬ (1 : Int32) = 0 by decide), if_pos hx, nI_clamp (n := p) (by omega), hR.1, eH]
    simp only [pz_isb0, pz_isb1, if_true]
  rcases ix3 x2 (show ev p < 2 ^ 31 by omega) with h1 | ⟨h1, h2⟩ | ⟨i, hi, rfl⟩
  · exact Or.inl ⟨by rw [v1, if_pos h1], by rw [v2, in_neg h1, pz_bi_some, if_pos rfl]⟩
  · exact Or.inl ⟨by rw [v1, if_neg h1, if_pos h2], by rw [v2, in_ge h1 h2 (by omega), pz_bi_some, if_pos rfl]⟩
  · exact Or.inr ⟨p, i, hp, hi, rfl, rfl, by rw [v1, if_neg (nI_pos (by omega)), if_neg (nI_ge hi (by omega))], by rw [v2, in_ok hi (by omega), pz_bi_some, if_neg (show ¬ (1 : Int32) = 0 by decide)]⟩
theorem pz_event {σ : pw_St} {np nl tot : Nat} {ev g : Nat → Nat} (hH : HInv σ np nl tot ev g) (x1 x2 x3 : Int32) : Same (f_X10_event x1 x2 x3) (f_X11_event x1 x2 x3) σ := by
  rcases ev_ref hH x1 x2 with ⟨h1, h2⟩ | ⟨p, i, hp, hi, rfl, rfl, h1, h2⟩
  · exact ⟨-1, by unfold f_X10_event; rw [h1, pz_bi_some, if_pos rfl], by unfold f_X11_event; rw [h2, pz_bi_some, if_pos rfl]⟩
  obtain ⟨⟨b1, b2, b3, b4, b5, b6, b7, b8, b9, b10, b11⟩, hR, hO, hV⟩ := hH
  have h6 := b3 p (by omega)
  have hin : pw_in (nI (6 * p + i)) 24 = true := pz_in (by omega) (by decide)
  unfold Same f_X10_event f_X11_event f_X2_place
  simp only [h1, h2, pz_bi_some, ixp, ixp2, hin, if_true, hR.2.1, hR.2.2.1, hR.2.2.2.1]
  simp only [if_neg (show ¬ (1 : Int32) = 0 by decide)]
  by_cases h0 : x3 = 0
  · simp only [if_pos h0]; exact ⟨_, rfl, rfl⟩
  · by_cases h1 : x3 = 1
    · simp only [if_neg h0, if_pos h1]; exact ⟨_, rfl, rfl⟩
    · by_cases h2 : x3 = 2
      · simp only [if_neg h0, if_neg h1, if_pos h2]; exact ⟨_, rfl, rfl⟩
      · simp only [if_neg h0, if_neg h1, if_neg h2]; exact ⟨_, rfl, rfl⟩
theorem nl_24 {σ : pw_St} {np nl tot : Nat} {ev g : Nat → Nat} (hH : HInv σ np nl tot ev g) : nl ≤ 24 ∧ tot ≤ 24 := by
  obtain ⟨⟨b1, b2, b3, b4, b5, b6, b7, b8, b9, b10, b11⟩, hR, hO, hV⟩ := hH
  have := HA_nl hO
  have h0 := b3 0 (by omega)
  have h1 := b3 1 (by omega)
  have h2 := b3 2 (by omega)
  have h3 := b3 3 (by omega)
  omega
theorem pz_letter {σ : pw_St} {np nl tot : Nat} {ev g : Nat → Nat} (hH : HInv σ np nl tot ev g) (x1 x2 : Int32) : Same (f_X10_letter x1 x2) (f_X11_letter x1 x2) σ := by
  have h24 := (nl_24 hH).1
  obtain ⟨⟨b1, b2, b3, b4, b5, b6, b7, b8, b9, b10, b11⟩, hR, hO, hV⟩ := hH
  rcases ix3 x1 (show nl < 2 ^ 31 by omega) with h1 | ⟨h1, h2⟩ | ⟨l, hl, rfl⟩
  · refine ⟨-1, ?_, ?_⟩
    · unfold f_X10_letter f_X3_has
      rw [if_pos h1, if_pos pz_isb0, pz_bi_some, if_pos rfl]
    · unfold f_X11_letter
      rw [in_neg h1, pz_bi_some, if_pos rfl]
  · refine ⟨-1, ?_, ?_⟩
    · unfold f_X10_letter f_X3_has
      rw [if_neg h1, b9, if_pos h2, if_pos pz_isb0, pz_bi_some, if_pos rfl]
    · unfold f_X11_letter
      rw [b10, in_ge h1 h2 (by omega), pz_bi_some, if_pos rfl]
  have hhas : f_X3_has (nI l) σ = some (1, σ) := by
    unfold f_X3_has
    rw [if_neg (nI_pos (by omega)), b9, if_neg (nI_ge hl (by omega)), if_pos pz_isb1]
  have hin : pw_in (nI l) 24 = true := pz_in (by omega) (by decide)
  unfold Same f_X10_letter f_X11_letter
  rw [b10, hhas, in_ok hl (by omega)]
  simp only [pz_bi_some, hin, if_true, hR.2.2.2.2.2.1, hR.2.2.2.2.2.2.1, hR.2.2.2.2.2.2.2.1, hR.2.2.2.2.2.2.2.2]
  simp only [if_neg (show ¬ (1 : Int32) = 0 by decide)]
  by_cases h0 : x2 = 0
  · simp only [if_pos h0]; exact ⟨_, rfl, rfl⟩
  · by_cases h1 : x2 = 1
    · simp only [if_neg h0, if_pos h1]; exact ⟨_, rfl, rfl⟩
    · by_cases h2 : x2 = 2
      · simp only [if_neg h0, if_neg h1, if_pos h2]; exact ⟨_, rfl, rfl⟩
      · by_cases h3 : x2 = 3
        · simp only [if_neg h0, if_neg h1, if_neg h2, if_pos h3]; exact ⟨_, rfl, rfl⟩
        · simp only [if_neg h0, if_neg h1, if_neg h2, if_neg h3]; exact ⟨_, rfl, rfl⟩
theorem pz_clock {σ : pw_St} {np nl tot : Nat} {ev g : Nat → Nat} (hH : HInv σ np nl tot ev g) (x1 x2 x3 : Int32) : Same (f_X10_clock x1 x2 x3) (f_X11_clock x1 x2 x3) σ := by
  rcases ev_ref hH x1 x2 with ⟨h1, h2⟩ | ⟨p, i, hp, hi, rfl, rfl, h1, h2⟩
  · exact ⟨-1, by unfold f_X10_clock; rw [h1, pz_bi_some, if_pos rfl], by unfold f_X11_clock; rw [h2, pz_bi_some, if_pos rfl]⟩
  obtain ⟨⟨b1, b2, b3, b4, b5, b6, b7, b8, b9, b10, b11⟩, hR, hO, hV⟩ := hH
  have h6 := b3 p (by omega)
  rcases ix3 x3 (show np < 2 ^ 31 by omega) with k1 | ⟨k1, k2⟩ | ⟨q, hq, rfl⟩
  · exact ⟨-1, by unfold f_X10_clock; rw [h1, pz_bi_some, if_neg (by decide), pr_neg k1, pz_bi_some, if_pos rfl], by unfold f_X11_clock; rw [h2, pz_bi_some, if_neg (by decide), ip_neg k1, pz_bi_some, if_pos rfl]⟩
  · exact ⟨-1, by unfold f_X10_clock; rw [h1, pz_bi_some, if_neg (by decide), pr_ge b5 k1 k2, pz_bi_some, if_pos rfl], by unfold f_X11_clock; rw [h2, pz_bi_some, if_neg (by decide), ip_ge b6 k1 k2 b1, pz_bi_some, if_pos rfl]⟩
  · refine ⟨σ.1 16 (4 * (6 * p + i) + q), ?_, ?_⟩
    · unfold f_X10_clock
      rw [h1, pz_bi_some, if_neg (by decide), pr_in b5 hq b1, pz_bi_some, if_neg (by decide), pz_clockOf σ (by omega) (by omega) (by omega), pz_bi_some]
    · unfold f_X11_clock
      rw [h2, pz_bi_some, if_neg (by decide), ip_in b6 hq b1, pz_bi_some, if_neg (by decide), ixp2, ix46, if_pos (pz_in (by omega) (by decide)), nI_clamp (by omega), hR.2.2.2.2.1]
theorem pz_ahead {σ : pw_St} {np nl tot : Nat} {ev g : Nat → Nat} (hH : HInv σ np nl tot ev g) (x1 x2 x3 x4 : Int32) : Same (f_X10_ahead x1 x2 x3 x4) (f_X11_ahead x1 x2 x3 x4) σ := by
  rcases ev_ref hH x1 x2 with ⟨h1, h2⟩ | ⟨p, i, hp, hi, rfl, rfl, h1, h2⟩
  · exact ⟨-1, by unfold f_X10_ahead; rw [h1, pz_bi_some, if_pos rfl], by unfold f_X11_ahead; rw [h2, pz_bi_some, if_pos rfl]⟩
  rcases ev_ref hH x3 x4 with ⟨h3, h4⟩ | ⟨q, j, hq, hj, rfl, rfl, h3, h4⟩
  · exact ⟨-1, by unfold f_X10_ahead; rw [h1, pz_bi_some, if_neg (by decide), h3, pz_bi_some, if_pos rfl], by unfold f_X11_ahead; rw [h2, pz_bi_some, if_neg (by decide), h4, pz_bi_some, if_pos rfl]⟩
  obtain ⟨⟨b1, b2, b3, b4, b5, b6, b7, b8, b9, b10, b11⟩, hR, hO, hV⟩ := hH
  have h6 := b3 p (by omega)
  have h7 := b3 q (by omega)
  have key : ∃ r, b_X10_ahead_40 (nI p) (nI i) (nI q) (nI j) σ = some (r, σ) ∧ b_X11_ahead_34 (nI p) (nI i) (nI q) (nI j) σ = some (r, σ) := by
    unfold b_X10_ahead_40 b_X11_ahead_34
    rw [pz_clockOf σ (by omega) (by omega) (by omega), pz_bi_some, ixp2, ix46, if_pos (pz_in (by omega) (by decide)), nI_clamp (by omega), hR.2.2.2.2.1]
    by_cases c1 : σ.1 16 (4 * (6 * q + j) + p) ≤ nI i
    · rw [if_pos c1, if_pos c1, pz_clockOf σ (by omega) (by omega) (by omega), pz_bi_some, ixp2, ix46, if_pos (pz_in (by omega) (by decide)), nI_clamp (by omega)]
      by_cases c2 : σ.1 16 (4 * (6 * p + i) + q) ≤ nI j
      · rw [if_pos c2]; exact ⟨_, rfl, rfl⟩
      · rw [if_neg c2]; exact ⟨_, rfl, rfl⟩
    · rw [if_neg c1, if_neg c1]; exact ⟨_, rfl, rfl⟩
  obtain ⟨r, k1, k2⟩ := key
  unfold Same f_X10_ahead f_X11_ahead
  simp only [h1, h2, h3, h4, pz_bi_some]
  simp only [if_neg (show ¬ (1 : Int32) = 0 by decide)]
  by_cases c1 : nI p = nI q
  · by_cases c2 : nI i = nI j
    · simp only [if_pos c1, if_pos c2]; exact ⟨_, rfl, rfl⟩
    · simp only [if_pos c1, if_neg c2]; exact ⟨r, k1, k2⟩
  · simp only [if_neg c1]; exact ⟨r, k1, k2⟩
