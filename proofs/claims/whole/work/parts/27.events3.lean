-- PURE PART: take, wait
theorem m1_ne {n : Nat} (h : n < 2 ^ 31) : ¬ nI n = (-1 : Int32) := by
  intro e
  have := congrArg Int32.toInt e
  rw [nI_toInt h] at this
  have h2 : ((-1 : Int32)).toInt = -1 := by decide
  rw [h2] at this
  omega
/-- the clocks of an event that lies in the order, as they stand behind append -/
theorem clk_old {r12 r13 r14 r15 r16 r18 r19 r20 : Nat → Int32} {np nl tot p t : Nat} {ev g : Nat → Nat} (hO : HOf r12 r13 r14 r15 r16 r18 r19 r20 np nl tot ev g) (hnp : np ≤ 4) (h6 : ∀ p, p < 4 → ev p ≤ 6) (hp : p < 4) (hi : ev p < 6) (ht : t < tot) : ∀ q, q < 4 → ∃ v, v ≤ evp ev p q ∧ clkA r16 (6 * p + ev p) (ev p) p (4 * sl g t + q) = nI v := by
  intro q hq
  obtain ⟨o1, o2, o3, o4, -⟩ := hO
  have hne := sl_ne hnp (fun t ht => (o1 t ht).2) o2 h6 hp hi ht
  rw [clkA_out _ hp (by omega)]
  obtain ⟨v, a1, a2⟩ := o4 t ht q hq
  refine ⟨v, ?_, a2⟩
  have := cn_mono g q (show t + 1 ≤ tot by omega)
  rw [o2 q hq] at this
  unfold evp
  split <;> omega
theorem evp_lt {ev : Nat → Nat} {p q : Nat} (h6 : ∀ p, p < 4 → ev p ≤ 6) (hq : q < 4) : evp ev p q < 2 ^ 31 := by
  have := h6 q hq
  unfold evp
  split <;> omega
set_option maxHeartbeats 2000000 in
theorem pz_take {σ : pw_St} {np nl tot : Nat} {ev g : Nat → Nat} (hH : HInv σ np nl tot ev g) (x1 : Int32) : Hop (f_X10_take x1) (f_X11_take x1) σ := by
  obtain ⟨⟨b1, b2, b3, b4, b5, b6, b7, b8, b9, b10, b11⟩, hR, hO, hV⟩ := id hH
  have hnl24 : nl ≤ 24 := by
    have := HA_nl hO
    have h0 := b3 0 (by omega)
    have h1 := b3 1 (by omega)
    have h2 := b3 2 (by omega)
    have h3 := b3 3 (by omega)
    omega
  rcases ix3 x1 (show nl < 2 ^ 31 by omega) with h1 | ⟨h1, h2⟩ | ⟨l, hl, rfl⟩
  · refine Or.inl ⟨-1, ?_, ?_⟩
    · unfold f_X10_take f_X3_has
      rw [if_pos h1, if_pos pz_isb0, pz_bi_some, if_pos rfl]
    · unfold f_X11_take
      rw [in_neg h1, pz_bi_some, if_pos rfl]
  · refine Or.inl ⟨-1, ?_, ?_⟩
    · unfold f_X10_take f_X3_has
      rw [if_neg h1, b9, if_pos h2, if_pos pz_isb0, pz_bi_some, if_pos rfl]
    · unfold f_X11_take
      rw [b10, in_ge h1 h2 (by omega), pz_bi_some, if_pos rfl]
  have hhas : f_X3_has (nI l) σ = some (1, σ) := by
    unfold f_X3_has
    rw [if_neg (nI_pos (by omega)), b9, if_neg (nI_ge hl (by omega)), if_pos pz_isb1]
  have hl24 : l < 24 := by omega
  have hX : f_X10_take (nI l) σ = if σ.1 21 l = (-1 : Int32) then (pw_bi (f_X2_isFull (σ.1 19 l) σ) fun r2 σ2 => (if r2 = 0 then (pw_bi (f_X2_takeIn (nI l) σ2) fun r3 σ3 => (some (r3, σ3))) else (some ((-4 : Int32), σ2)))) else some (-3, σ) := by
    unfold f_X10_take
    rw [hhas, pz_bi_some, if_neg (by decide), if_pos (pz_in hl24 (by decide)), nI_clamp (by omega)]
    by_cases h : σ.1 21 l = -1
    · rw [if_pos h, if_pos h, if_pos (pz_in hl24 (by decide))]
    · rw [if_neg h, if_neg h]
  rcases (Decidable.em (σ.1 21 l = -1)).symm with htk | htk
  · refine Or.inl ⟨-3, ?_, ?_⟩
    · show f_X10_take (nI l) σ = _
      rw [hX, if_neg htk]
    · show f_X11_take (nI l) σ = _
      unfold f_X11_take
      rw [b10, in_ok hl (by omega), pz_bi_some, if_neg (by decide), if_pos (pz_in hl24 (by decide)), nI_clamp (by omega), hR.2.2.2.2.2.2.2.2, if_neg htk]
  obtain ⟨t, t1, t2, t3, t4, t5, b, t6, t7, t8⟩ := hO.2.2.2.2.2.2 l hl
  have hb4 : b < 4 := by omega
  have eH := b11 b hb4
  have hM : ∀ τ : pw_St, τ.1 10 9 = nI nl → τ.1 43 l = (-1 : Int32) → τ.1 41 l = nI b → f_X11_take (nI l) τ = if τ.1 34 b = (6 : Int32) then some (-4, τ) else (pw_lt (pw_sM τ 43 l (τ.1 34 b)) fun σ2 => (pw_bi (f_X11_comes (nI b) (3 : Int32) (nI l) (0 : Int32) σ2) fun r3 σ3 => (pw_bv (f_X11_joins r3 (((6 : Int32) * (σ3.1 40 l)) + (σ3.1 42 l)) σ3) fun σ4 => (some ((σ4.1 34 b), σ4))))) := by
    intro τ h1 h2 h3
    unfold f_X11_take
    rw [h1, in_ok hl (by omega), pz_bi_some, if_neg (by decide), if_pos (pz_in hl24 (by decide)), nI_clamp (n := l) (by omega), h2, if_pos rfl, if_pos (pz_in hl24 (by decide)), h3, if_pos (pz_in hb4 (by decide)), nI_clamp (n := b) (by omega)]
    by_cases h : τ.1 34 b = 6
    · rw [if_pos h, if_pos h]
    · rw [if_neg h, if_neg h, if_pos (pz_in hb4 (by decide)), if_pos (pz_in hl24 (by decide))]
      have e1 : pw_in (nI l) 24 = true := pz_in hl24 (by decide)
      have e2 : pw_in (nI b) 4 = true := pz_in hb4 (by decide)
      simp only [e1, e2, if_true]
  by_cases h6 : ev b = 6
  · refine Or.inl ⟨-4, ?_, ?_⟩
    · show f_X10_take (nI l) σ = _
      rw [h6] at eH
      rw [hX, if_pos htk, t8, full_yes hb4 eH, pz_bi_some, if_neg (by decide)]
    · show f_X11_take (nI l) σ = _
      rw [hM σ b10 (by rw [hR.2.2.2.2.2.2.2.2]; exact htk) (by rw [hR.2.2.2.2.2.2.1]; exact t8), hR.1, eH, h6, if_pos (show nI 6 = (6 : Int32) from rfl)]
  have hi : ev b < 6 := by have := b3 b hb4; omega
  have ht : tot < 24 := tot_lt b3 b2 hb4 hi
  obtain ⟨q1, q2⟩ := sl_lt b1 (fun t ht => (hO.1 t ht).2) hO.2.1 b3 t1
  have hg4 : g t < 4 := by have := (hO.1 t t1).2; omega
  obtain ⟨σa, ha⟩ : ∃ σa, σa = pw_rw σ 21 (upd (σ.1 21) l (nI (ev b))) := ⟨_, rfl⟩
  obtain ⟨σ2, h2⟩ : ∃ σ2, σ2 = apS σa b (ev b) tot 3 (nI l) := ⟨_, rfl⟩
  obtain ⟨σ1, hs1⟩ : ∃ σ1, σ1 = pw_rw σ2 16 (clkM (σ2.1 16) (6 * b + ev b) (sl g t) 4) := ⟨_, rfl⟩
  have hx1 : f_X10_take (nI l) σ = some (nI (ev b + 1), σ1) := by
    rw [hX, if_pos htk, t8, full_no hb4 eH hi, pz_bi_some, if_pos rfl]
    unfold f_X2_takeIn
    rw [if_pos (pz_in hl24 (by decide)), nI_clamp (n := l) (by omega), t8, if_pos (pz_in hb4 (by decide)), if_pos (pz_in hl24 (by decide)), pz_lt, nI_clamp (n := b) (by omega), eH, rw_sM, ← ha, pz_append (σ := σa) 3 (nI l) hb4 hi ht (by rw [ha]; exact eH) (by rw [ha]; exact b7), pz_bi_some, if_pos (pz_in hl24 (by decide)), if_pos (pz_in hl24 (by decide)), ← h2]
    rw [show σ2.1 18 l = nI (g t) by rw [h2, ha]; exact t4, show σ2.1 20 l = nI (cn g (g t) t) by rw [h2, ha]; exact t5]
    rw [pz_follow (k := ev b + 1) hb4 hg4 q1 (by omega) (by omega) (by rw [h2]; exact pk_us) (fun e => t7 e.symm), pz_bv_some, pz_bi_some, hs1]
    rfl
  have m34 : σ1.1 34 b = nI (ev b) := by rw [hs1, h2, ha]; show σ.1 34 b = _; rw [hR.1]; exact eH
  obtain ⟨σ3, h3⟩ : ∃ σ3, σ3 = pw_rw σ1 43 (upd (σ1.1 43) l (nI (ev b))) := ⟨_, rfl⟩
  obtain ⟨σ4, h4⟩ : ∃ σ4, σ4 = coS σ3 b (ev b) tot 3 (nI l) 0 := ⟨_, rfl⟩
  have hx2 : f_X11_take (nI l) σ1 = some (nI (ev b + 1), pw_rw σ4 39 (clkM (σ4.1 39) (6 * b + ev b) (sl g t) 4)) := by
    rw [hM σ1 (by rw [hs1, h2, ha]; exact b10) (by rw [hs1, h2, ha]; show σ.1 43 l = _; rw [hR.2.2.2.2.2.2.2.2]; exact htk) (by rw [hs1, h2, ha]; show σ.1 41 l = _; rw [hR.2.2.2.2.2.2.1]; exact t8), m34, if_neg (show ¬ nI (ev b) = 6 from fun e => by have := (nI_eq (a := ev b) (b := 6) (by omega) (by decide)).mp e; omega)]
    rw [pz_lt, rw_sM, ← h3, pz_comes _ _ _ hb4 hi ht (by rw [h3]; exact m34) (by rw [h3, hs1, h2, ha]; exact b8), pz_bi_some, ← h4]
    rw [show σ4.1 40 l = nI (g t) by rw [h4, h3, hs1, h2, ha]; show σ.1 40 l = _; rw [hR.2.2.2.2.2.1]; exact t4, show σ4.1 42 l = nI (cn g (g t) t) by rw [h4, h3, hs1, h2, ha]; show σ.1 42 l = _; rw [hR.2.2.2.2.2.2.2.1]; exact t5]
    rw [ixp2]
    have hne := sl_ne b1 (fun t ht => (hO.1 t ht).2) hO.2.1 b3 hb4 hi t1
    rw [show 6 * g t + cn g (g t) t = sl g t from rfl, pz_joins q2 (by omega) hne, pz_bv_some]
    rw [show (pw_rw σ4 39 (clkM (σ4.1 39) (6 * b + ev b) (sl g t) 4)).1 34 b = nI (ev b + 1) by rw [h4]; exact pk_us]
  refine Or.inr ⟨_, σ1, _, np, nl, tot + 1, evp ev b, gp g tot b, hx1, hx2, ?_, ?_, ?_⟩
  · subst h4; subst h3; subst hs1; subst h2; subst ha
    obtain ⟨r1, r2, r3, r4, r5, r6, r7, r8, r9⟩ := hR
    refine HInv_push (kd := 3) (sb := nI l) (wv := 0) hH t6 hi ⟨?_, ?_, ?_, ?_, ?_, r6, r7, r8, ?_⟩ rfl rfl rfl rfl b9 b10 rfl rfl rfl rfl rfl rfl rfl rfl ?_ ?_ rfl ?_ (fun l hl => ⟨rfl, rfl, rfl⟩) ?_ ?_ ?_ (fun q hq h0 => mo_fol hq (mo_app hO b3 hb4 q hq h0))
    · show upd (σ.1 34) b _ = upd (σ.1 11) b _
      rw [r1]
    · show upd (σ.1 35) _ _ = upd (σ.1 13) _ _
      rw [r2]
    · show upd (σ.1 36) _ _ = upd (σ.1 14) _ _
      rw [r3]
    · show upd (σ.1 38) _ _ = upd (σ.1 15) _ _
      rw [r4]
    · show clkM (clkA (σ.1 39) _ _ _) _ _ _ = clkM (clkA (σ.1 16) _ _ _) _ _ _
      rw [r5]
    · show upd (σ.1 43) _ _ = upd (σ.1 21) _ _
      rw [r9]
    · intro j hj
      show clkM (clkA (σ.1 16) _ _ _) _ _ 4 j = _
      rw [clkM_out _ hj, clkA_out _ hb4 hj]
    · exact clk_fol (fun q hq => evp_lt b3 hq) (clk_app hO hb4) (clk_old hO b1 b3 hb4 hi t1)
    · intro _
      exact ⟨l, hl24, rfl⟩
    · intro e
      exact absurd e (by decide)
    · intro j hj
      exact vl3_lo _ hj
    · intro k hk
      rw [if_pos (Or.inl (by decide))]
      exact vl3_hi _ hk
  · subst h4; subst h3; subst hs1; subst h2; subst ha
    refine ⟨fun k h1 h2 h3 h4 h5 => ?_, fun j h1 h2 h3 => ?_⟩
    · unfold coS apS
      repeat rw [rw_ne (by omega)]
    · show upd (σ.1 10) 8 _ j = _
      exact pk_un h2
  · subst h4; subst h3; subst hs1; subst h2; subst ha
    rfl
set_option maxHeartbeats 2000000 in
theorem pz_wait {σ : pw_St} {np nl tot : Nat} {ev g : Nat → Nat} (hH : HInv σ np nl tot ev g) (x1 x2 : Int32) : Hop (f_X10_wait x1 x2) (f_X11_wait x1 x2) σ := by
  obtain ⟨⟨b1, b2, b3, b4, b5, b6, b7, b8, b9, b10, b11⟩, hR, hO, hV⟩ := id hH
  rcases pair_ref hH x1 x2 with ⟨r, h0, h1, h2⟩ | ⟨p, q, hp, hq, hpq, hi, rfl, rfl, h1, h2⟩
  · refine Or.inl ⟨r, ?_, ?_⟩
    · unfold f_X10_wait
      rw [h1, pz_bi_some, if_neg h0]
    · unfold f_X11_wait
      exact h2 _
  have hp4 : p < 4 := by omega
  have hq4 : q < 4 := by omega
  have eH := b11 p hp4
  have eQ := b11 q hq4
  have ht : tot < 24 := tot_lt b3 b2 hp4 hi
  obtain ⟨σ2, hs2⟩ : ∃ σ2, σ2 = apS σ p (ev p) tot 4 (nI q) := ⟨_, rfl⟩
  have e11q : σ2.1 11 q = nI (ev q) := by rw [hs2]; show upd (σ.1 11) p _ q = _; rw [pk_un (fun e => hpq e.symm)]; exact eQ
  by_cases h0 : ev q = 0
  · have hx1 : f_X10_wait (nI p) (nI q) σ = some (nI (ev p + 1), σ2) := by
      unfold f_X10_wait
      rw [h1, pz_bi_some, if_pos rfl]
      unfold f_X2_awaitAll
      rw [pz_append 4 (nI q) hp4 hi ht eH b7, pz_bi_some, ← hs2, if_pos (pz_in hq4 (by decide)), nI_clamp (by omega), e11q, h0, if_pos (by decide), pz_bi_some]
    have m34 : σ2.1 34 p = nI (ev p) := by rw [hs2]; show σ.1 34 p = _; rw [hR.1]; exact eH
    have hx2 : f_X11_wait (nI p) (nI q) σ2 = some (nI (ev p + 1), coS σ2 p (ev p) tot 4 (nI q) 0) := by
      unfold f_X11_wait
      rw [h2 σ2 _ (by rw [hs2]; exact b6) m34, pz_comes _ _ _ hp4 hi ht m34 (by rw [hs2]; exact b8), pz_bi_some, if_pos (pz_in hq4 (by decide)), nI_clamp (n := q) (by omega)]
      rw [show (coS σ2 p (ev p) tot 4 (nI q) 0).1 34 q = nI 0 by show upd (σ2.1 34) p _ q = _; rw [pk_un (fun e => hpq e.symm), hs2]; show σ.1 34 q = _; rw [hR.1, eQ, h0], if_pos (by decide)]
      unfold b_X11_wait_76
      rw [if_pos (pz_in hp4 (by decide)), nI_clamp (n := p) (by omega), show (coS σ2 p (ev p) tot 4 (nI q) 0).1 34 p = nI (ev p + 1) from pk_us]
    refine Or.inr ⟨_, σ2, _, np, nl, tot + 1, evp ev p, gp g tot p, hx1, hx2, ?_, ?_, ?_⟩
    · subst hs2
      obtain ⟨r1, r2, r3, r4, r5, r6, r7, r8, r9⟩ := hR
      refine HInv_push (kd := 4) (sb := nI q) (wv := 0) hH hp hi ⟨?_, ?_, ?_, ?_, ?_, r6, r7, r8, r9⟩ rfl rfl rfl rfl b9 b10 rfl rfl rfl rfl rfl rfl rfl rfl ?_ ?_ rfl ?_ (fun l hl => ⟨rfl, rfl, rfl⟩) ?_ ?_ ?_ (mo_app hO b3 hp4)
      · show upd (σ.1 34) p _ = upd (σ.1 11) p _
        rw [r1]
      · show upd (σ.1 35) _ _ = upd (σ.1 13) _ _
        rw [r2]
      · show upd (σ.1 36) _ _ = upd (σ.1 14) _ _
        rw [r3]
      · show upd (σ.1 38) _ _ = upd (σ.1 15) _ _
        rw [r4]
      · show clkA (σ.1 39) _ _ _ = clkA (σ.1 16) _ _ _
        rw [r5]
      · intro j hj
        exact clkA_out _ hp4 hj
      · exact clk_app hO hp4
      · intro e
        exact absurd e (by decide)
      · intro e
        exact absurd e (by decide)
      · intro j hj
        exact vl3_lo _ hj
      · intro k hk
        rw [if_pos (Or.inl (by decide))]
        exact vl3_hi _ hk
    · subst hs2
      refine ⟨fun k h1 h2 h3 h4 h5 => ?_, fun j h1 h2 h3 => ?_⟩
      · unfold coS apS
        repeat rw [rw_ne (by omega)]
      · show upd (σ.1 10) 8 _ j = _
        exact pk_un h2
    · subst hs2
      rfl
  · have hq6 := b3 q hq4
    obtain ⟨t, t1, t2, t3, t4⟩ := sl_of hO.2.1 hq4 (show ev q - 1 < ev q by omega)
    obtain ⟨σ1, hs1⟩ : ∃ σ1, σ1 = pw_rw σ2 16 (clkM (σ2.1 16) (6 * p + ev p) (sl g t) 4) := ⟨_, rfl⟩
    have hx1 : f_X10_wait (nI p) (nI q) σ = some (nI (ev p + 1), σ1) := by
      unfold f_X10_wait
      rw [h1, pz_bi_some, if_pos rfl]
      unfold f_X2_awaitAll
      rw [pz_append 4 (nI q) hp4 hi ht eH b7, pz_bi_some, ← hs2, if_pos (pz_in hq4 (by decide)), nI_clamp (by omega), e11q, if_neg (nI_nle (by omega) (by omega)), if_pos (pz_in hq4 (by decide)), pz_m1 (by omega)]
      rw [pz_follow (k := ev p + 1) hp4 hq4 (show ev q - 1 < 6 by omega) (by omega) (by omega) (by rw [hs2]; exact pk_us) (fun e => hpq e.symm), pz_bv_some, pz_bi_some, hs1, t4]
      rfl
    have m34 : σ1.1 34 p = nI (ev p) := by rw [hs1, hs2]; show σ.1 34 p = _; rw [hR.1]; exact eH
    obtain ⟨σ4, h4⟩ : ∃ σ4, σ4 = coS σ1 p (ev p) tot 4 (nI q) 0 := ⟨_, rfl⟩
    have hne : sl g t ≠ 6 * p + ev p := sl_ne b1 (fun t ht => (hO.1 t ht).2) hO.2.1 b3 hp4 hi t1
    have hx2 : f_X11_wait (nI p) (nI q) σ1 = some (nI (ev p + 1), pw_rw σ4 39 (clkM (σ4.1 39) (6 * p + ev p) (sl g t) 4)) := by
      unfold f_X11_wait
      rw [h2 σ1 _ (by rw [hs1, hs2]; exact b6) m34, pz_comes _ _ _ hp4 hi ht m34 (by rw [hs1, hs2]; exact b8), pz_bi_some, if_pos (pz_in hq4 (by decide)), nI_clamp (n := q) (by omega), ← h4]
      rw [show σ4.1 34 q = nI (ev q) by rw [h4]; show upd (σ1.1 34) p _ q = _; rw [pk_un (fun e => hpq e.symm), hs1, hs2]; show σ.1 34 q = _; rw [hR.1, eQ], if_neg (nI_nle (by omega) (by omega)), if_pos (pz_in hq4 (by decide)), ixp2, pz_m1 (by omega), show 6 * q + ev q - 1 = sl g t by rw [t4]; omega]
      rw [pz_joins (by rw [t4]; omega) (by omega) hne, pz_bv_some]
      unfold b_X11_wait_76
      rw [if_pos (pz_in hp4 (by decide)), nI_clamp (n := p) (by omega), show (pw_rw σ4 39 (clkM (σ4.1 39) (6 * p + ev p) (sl g t) 4)).1 34 p = nI (ev p + 1) by rw [h4]; exact pk_us]
    refine Or.inr ⟨_, σ1, _, np, nl, tot + 1, evp ev p, gp g tot p, hx1, hx2, ?_, ?_, ?_⟩
    · subst h4; subst hs1; subst hs2
      obtain ⟨r1, r2, r3, r4, r5, r6, r7, r8, r9⟩ := hR
      refine HInv_push (kd := 4) (sb := nI q) (wv := 0) hH hp hi ⟨?_, ?_, ?_, ?_, ?_, r6, r7, r8, r9⟩ rfl rfl rfl rfl b9 b10 rfl rfl rfl rfl rfl rfl rfl rfl ?_ ?_ rfl ?_ (fun l hl => ⟨rfl, rfl, rfl⟩) ?_ ?_ ?_ (fun q hq h0 => mo_fol hq (mo_app hO b3 hp4 q hq h0))
      · show upd (σ.1 34) p _ = upd (σ.1 11) p _
        rw [r1]
      · show upd (σ.1 35) _ _ = upd (σ.1 13) _ _
        rw [r2]
      · show upd (σ.1 36) _ _ = upd (σ.1 14) _ _
        rw [r3]
      · show upd (σ.1 38) _ _ = upd (σ.1 15) _ _
        rw [r4]
      · show clkM (clkA (σ.1 39) _ _ _) _ _ _ = clkM (clkA (σ.1 16) _ _ _) _ _ _
        rw [r5]
      · intro j hj
        show clkM (clkA (σ.1 16) _ _ _) _ _ 4 j = _
        rw [clkM_out _ hj, clkA_out _ hp4 hj]
      · exact clk_fol (fun q hq => evp_lt b3 hq) (clk_app hO hp4) (clk_old hO b1 b3 hp4 hi t1)
      · intro e
        exact absurd e (by decide)
      · intro e
        exact absurd e (by decide)
      · intro j hj
        exact vl3_lo _ hj
      · intro k hk
        rw [if_pos (Or.inl (by decide))]
        exact vl3_hi _ hk
    · subst h4; subst hs1; subst hs2
      refine ⟨fun k h1 h2 h3 h4 h5 => ?_, fun j h1 h2 h3 => ?_⟩
      · unfold coS apS
        repeat rw [rw_ne (by omega)]
      · show upd (σ.1 10) 8 _ j = _
        exact pk_un h2
    · subst h4; subst hs1; subst hs2
      rfl
