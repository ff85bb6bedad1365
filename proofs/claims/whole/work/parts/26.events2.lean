-- PURE PART: send
/-- what a pair is refused with, on both sides -/
theorem pair_ref {σ : pw_St} {np nl tot : Nat} {ev g : Nat → Nat} (hH : HInv σ np nl tot ev g) (x1 x2 : Int32) :
    (∃ r, ¬ r = 0 ∧ f_X10_refusalOfPair x1 x2 σ = some (r, σ) ∧ ∀ (K : pw_St → Option (Int32 × pw_St)), (pw_bi (f_X11_isProcess x1 σ) fun r1 σ1 => (if r1 = 0 then (some ((-1 : Int32), σ1)) else (pw_bi (f_X11_isProcess x2 σ1) fun r2 σ2 => (if r2 = 0 then (some ((-1 : Int32), σ2)) else (if x1 = x2 then (some ((-2 : Int32), σ2)) else (if pw_in x1 4 = true then (if (σ2.1 34 x1.toNatClampNeg) = (6 : Int32) then (some ((-4 : Int32), σ2)) else K σ2) else none)))))) = some (r, σ)) ∨
    ∃ p q, p < np ∧ q < np ∧ p ≠ q ∧ ev p < 6 ∧ x1 = nI p ∧ x2 = nI q ∧ f_X10_refusalOfPair x1 x2 σ = some (0, σ) ∧ ∀ (τ : pw_St) (K : pw_St → Option (Int32 × pw_St)), τ.1 10 1 = nI np → τ.1 34 p = nI (ev p) → (pw_bi (f_X11_isProcess x1 τ) fun r1 σ1 => (if r1 = 0 then (some ((-1 : Int32), σ1)) else (pw_bi (f_X11_isProcess x2 σ1) fun r2 σ2 => (if r2 = 0 then (some ((-1 : Int32), σ2)) else (if x1 = x2 then (some ((-2 : Int32), σ2)) else (if pw_in x1 4 = true then (if (σ2.1 34 x1.toNatClampNeg) = (6 : Int32) then (some ((-4 : Int32), σ2)) else K σ2) else none)))))) = K τ := by
  obtain ⟨⟨b1, b2, b3, b4, b5, b6, b7, b8, b9, b10, b11⟩, hR, hO, hV⟩ := id hH
  unfold f_X10_refusalOfPair
  rcases ix3 x1 (show np < 2 ^ 31 by omega) with h1 | ⟨h1, h2⟩ | ⟨p, hp, rfl⟩
  · exact Or.inl ⟨-1, by decide, by rw [pr_neg h1, pz_bi_some, if_pos rfl], fun K => by rw [ip_neg h1, pz_bi_some, if_pos rfl]⟩
  · exact Or.inl ⟨-1, by decide, by rw [pr_ge b5 h1 h2, pz_bi_some, if_pos rfl], fun K => by rw [ip_ge b6 h1 h2 b1, pz_bi_some, if_pos rfl]⟩
  rcases ix3 x2 (show np < 2 ^ 31 by omega) with h1 | ⟨h1, h2⟩ | ⟨q, hq, rfl⟩
  · exact Or.inl ⟨-1, by decide, by rw [pr_in b5 hp b1, pz_bi_some, if_neg (by decide), pr_neg h1, pz_bi_some, if_pos rfl], fun K => by rw [ip_in b6 hp b1, pz_bi_some, if_neg (by decide), ip_neg h1, pz_bi_some, if_pos rfl]⟩
  · exact Or.inl ⟨-1, by decide, by rw [pr_in b5 hp b1, pz_bi_some, if_neg (by decide), pr_ge b5 h1 h2, pz_bi_some, if_pos rfl], fun K => by rw [ip_in b6 hp b1, pz_bi_some, if_neg (by decide), ip_ge b6 h1 h2 b1, pz_bi_some, if_pos rfl]⟩
  by_cases hpq : p = q
  · subst hpq
    exact Or.inl ⟨-2, by decide, by rw [pr_in b5 hp b1, pz_bi_some, if_neg (by decide), pr_in b5 hp b1, pz_bi_some, if_neg (by decide), if_pos rfl], fun K => by rw [ip_in b6 hp b1, pz_bi_some, if_neg (by decide), ip_in b6 hp b1, pz_bi_some, if_neg (by decide), if_pos rfl]⟩
  have hne : ¬ nI p = nI q := fun e => hpq ((nI_eq (by omega) (by omega)).mp e)
  have eH := b11 p (by omega)
  by_cases h6 : ev p = 6
  · rw [h6] at eH
    refine Or.inl ⟨-4, by decide, by rw [pr_in b5 hp b1, pz_bi_some, if_neg (by decide), pr_in b5 hq b1, pz_bi_some, if_neg (by decide), if_neg hne, full_yes (by omega) eH, pz_bi_some, if_neg (by decide)], fun K => ?_⟩
    rw [ip_in b6 hp b1, pz_bi_some, if_neg (by decide), ip_in b6 hq b1, pz_bi_some, if_neg (by decide), if_neg hne, if_pos (pz_in (by omega) (by decide)), nI_clamp (by omega), hR.1, eH, if_pos (show nI 6 = (6 : Int32) from rfl)]
  · have hi : ev p < 6 := by have := b3 p (by omega); omega
    refine Or.inr ⟨p, q, hp, hq, hpq, hi, rfl, rfl, by rw [pr_in b5 hp b1, pz_bi_some, if_neg (by decide), pr_in b5 hq b1, pz_bi_some, if_neg (by decide), if_neg hne, full_no (by omega) eH hi, pz_bi_some, if_pos rfl], fun τ K h1 h2 => ?_⟩
    rw [ip_in h1 hp b1, pz_bi_some, if_neg (by decide), ip_in h1 hq b1, pz_bi_some, if_neg (by decide), if_neg hne, if_pos (pz_in (by omega) (by decide)), nI_clamp (by omega), h2, if_neg (show ¬ nI (ev p) = 6 from fun e => by have := (nI_eq (a := ev p) (b := 6) (by omega) (by decide)).mp e; omega)]
/-- the state behind write -/
def wrS (σ : pw_St) (l : Nat) (x1 x2 x3 : Int32) : pw_St := pw_rw (pw_rw (pw_rw (pw_rw (pw_rw σ 18 (upd (σ.1 18) l x1)) 19 (upd (σ.1 19) l x2)) 20 (upd (σ.1 20) l x3)) 21 (upd (σ.1 21) l (-1))) 2 (upd (σ.1 2) 4 (nI (l + 1)))
set_option maxHeartbeats 2000000 in
theorem pz_send {σ : pw_St} {np nl tot : Nat} {ev g : Nat → Nat} (hH : HInv σ np nl tot ev g) (x1 x2 : Int32) : Hop (f_X10_send x1 x2) (f_X11_send x1 x2) σ := by
  obtain ⟨⟨b1, b2, b3, b4, b5, b6, b7, b8, b9, b10, b11⟩, hR, hO, hV⟩ := id hH
  rcases pair_ref hH x1 x2 with ⟨r, h0, h1, h2⟩ | ⟨p, q, hp, hq, hpq, hi, rfl, rfl, h1, h2⟩
  · refine Or.inl ⟨r, ?_, ?_⟩
    · unfold f_X10_send
      rw [h1, pz_bi_some, if_neg h0]
    · unfold f_X11_send
      exact h2 _
  have hp4 : p < 4 := by omega
  have eH := b11 p hp4
  have ht : tot < 24 := tot_lt b3 b2 hp4 hi
  have hl : nl < 24 := by have := HA_nl hO; omega
  have hx1 : f_X10_send (nI p) (nI q) σ = some (nI nl, apS (wrS σ nl (nI p) (nI q) (nI (ev p))) p (ev p) tot 2 (nI nl)) := by
    unfold f_X10_send
    rw [h1, pz_bi_some, if_pos rfl]
    unfold f_X2_sendOut
    rw [if_pos (pz_in hp4 (by decide)), nI_clamp (by omega), eH, pz_write _ _ _ hl b9, pz_bi_some]
    have := pz_append (σ := wrS σ nl (nI p) (nI q) (nI (ev p))) 2 (nI nl) hp4 hi ht eH b7
    unfold wrS at this ⊢
    rw [this, pz_bi_some, pz_bi_some]
  generalize hs1 : apS (wrS σ nl (nI p) (nI q) (nI (ev p))) p (ev p) tot 2 (nI nl) = σ1 at hx1
  have m34 : σ1.1 34 p = nI (ev p) := by rw [← hs1]; show σ.1 34 p = _; rw [hR.1]; exact eH
  have m8 : σ1.1 10 8 = nI tot := by rw [← hs1]; exact b8
  have m9 : σ1.1 10 9 = nI nl := by rw [← hs1]; exact b10
  have m1 : σ1.1 10 1 = nI np := by rw [← hs1]; exact b6
  obtain ⟨σ6, hs6⟩ : ∃ σ6, σ6 = pw_rw (pw_rw (pw_rw (pw_rw σ1 40 (upd (σ1.1 40) nl (nI p))) 41 (upd (σ1.1 41) nl (nI q))) 42 (upd (σ1.1 42) nl (nI (ev p)))) 43 (upd (σ1.1 43) nl (-1)) := ⟨_, rfl⟩
  have hx2 : f_X11_send (nI p) (nI q) σ1 = some (nI nl, pw_rw (coS σ6 p (ev p) tot 2 (nI nl) 0) 10 (upd ((coS σ6 p (ev p) tot 2 (nI nl) 0).1 10) 9 (nI (nl + 1)))) := by
    unfold f_X11_send
    rw [h2 σ1 _ m1 m34]
    rw [m9, if_pos (pz_in hl (by decide)), pz_lt, nI_clamp (n := nl) (by omega)]
    generalize ha : pw_sM σ1 40 nl (nI p) = σa
    have a9 : σa.1 10 9 = nI nl := by rw [← ha]; exact m9
    rw [a9, if_pos (pz_in hl (by decide)), pz_lt, nI_clamp (n := nl) (by omega)]
    generalize hb : pw_sM σa 41 nl (nI q) = σb
    have b9 : σb.1 10 9 = nI nl := by rw [← hb]; exact a9
    have b34 : σb.1 34 p = nI (ev p) := by rw [← hb, ← ha]; exact m34
    rw [if_pos (pz_in hp4 (by decide)), b9, if_pos (pz_in hl (by decide)), pz_lt, nI_clamp (n := nl) (by omega), nI_clamp (n := p) (by omega), b34]
    generalize hc : pw_sM σb 42 nl (nI (ev p)) = σc
    have c9 : σc.1 10 9 = nI nl := by rw [← hc]; exact b9
    rw [c9, if_pos (pz_in hl (by decide)), pz_lt, nI_clamp (n := nl) (by omega)]
    generalize hd : pw_sM σc 43 nl (-1) = σd
    have e6 : σd = σ6 := by rw [← hd, ← hc, ← hb, ← ha, hs6]; rfl
    rw [e6]
    have p34 : σ6.1 34 p = nI (ev p) := by rw [hs6]; exact m34
    have p8 : σ6.1 10 8 = nI tot := by rw [hs6]; exact m8
    have p9 : σ6.1 10 9 = nI nl := by rw [hs6]; exact m9
    rw [p9, pz_comes _ _ _ hp4 hi ht p34 p8, pz_bi_some, pz_lt, rw_sM]
    rw [show (coS σ6 p (ev p) tot 2 (nI nl) 0).1 10 9 = nI nl from p9, pz_1, nI_add]
    rw [show (pw_rw (coS σ6 p (ev p) tot 2 (nI nl) 0) 10 (upd ((coS σ6 p (ev p) tot 2 (nI nl) 0).1 10) 9 (nI (nl + 1)))).1 10 9 = nI (nl + 1) by rw [rw_get]; exact pk_us]
    rw [pk_sub (by omega)]
    rfl
  refine Or.inr ⟨_, σ1, _, np, nl + 1, tot + 1, evp ev p, gp g tot p, hx1, hx2, ?_, ?_, ?_⟩
  · subst hs6
    subst hs1
    obtain ⟨r1, r2, r3, r4, r5, r6, r7, r8, r9⟩ := hR
    refine HInv_push (kd := 2) (sb := nI nl) (wv := 0) hH hp hi ⟨?_, ?_, ?_, ?_, ?_, ?_, ?_, ?_, ?_⟩ rfl rfl rfl rfl rfl rfl rfl rfl rfl rfl rfl rfl rfl rfl ?_ ?_ rfl ?_ ?_ ?_ ?_ ?_ (mo_app hO b3 hp4)
    · show upd (σ.1 34) p _ = upd (σ.1 11) p _
      rw [r1]
    · show upd (σ.1 35) _ _ = upd (σ.1 13) _ _
      rw [r2]
    · show upd (σ.1 36) _ _ = upd (σ.1 14) _ _
      rw [r3]
    · show upd (σ.1 38) _ _ = upd (σ.1 15) _ _
      rw [r4]
    · show clkA (σ.1 39) _ _ _ = clkA (σ.1 16) _ _ _
      rw [r5]
    · show upd (σ.1 40) _ _ = upd (σ.1 18) _ _
      rw [r6]
    · show upd (σ.1 41) _ _ = upd (σ.1 19) _ _
      rw [r7]
    · show upd (σ.1 42) _ _ = upd (σ.1 20) _ _
      rw [r8]
    · show upd (σ.1 43) _ _ = upd (σ.1 21) _ _
      rw [r9]
    · intro j hj
      exact clkA_out _ hp4 hj
    · exact clk_app hO hp4
    · intro e
      exact absurd e (by decide)
    · intro l hl2
      exact ⟨pk_un (by omega), pk_un (by omega), pk_un (by omega)⟩
    · intro _
      exact ⟨pk_us, pk_us, q, hq, fun e => hpq e.symm, pk_us⟩
    · intro j hj
      exact vl3_lo _ hj
    · intro k hk
      rw [if_pos (Or.inl (by decide))]
      exact vl3_hi _ hk
  · subst hs6
    subst hs1
    refine ⟨fun k h1 h2 h3 h4 h5 => ?_, fun j h1 h2 h3 => ?_⟩
    · unfold coS apS wrS
      repeat rw [rw_ne (by omega)]
    · show upd (upd (σ.1 10) 8 _) 9 _ j = _
      rw [pk_un h3]
      exact pk_un h2
  · subst hs6
    subst hs1
    rfl
