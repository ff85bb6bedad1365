-- PURE PART: the calls on events
theorem HInv_push {σ σ2 : pw_St} {np nl nl2 tot p : Nat} {ev g : Nat → Nat} {kd sb wv : Int32} (hH : HInv σ np nl tot ev g) (hp : p < np) (hi : ev p < 6) (hR2 : HR σ2) (a1 : σ2.1 1 8 = σ.1 1 8) (a2 : σ2.1 10 1 = σ.1 10 1) (a3 : σ2.1 1 9 = nI (tot + 1)) (a4 : σ2.1 10 8 = nI (tot + 1)) (a5 : σ2.1 2 4 = nI nl2) (a6 : σ2.1 10 9 = nI nl2)
    (k11 : σ2.1 11 = upd (σ.1 11) p (nI (ev p + 1))) (k12 : σ2.1 12 = upd (σ.1 12) tot (nI p)) (k13 : σ2.1 13 = upd (σ.1 13) (6 * p + ev p) kd) (k14 : σ2.1 14 = upd (σ.1 14) (6 * p + ev p) sb) (k15 : σ2.1 15 = upd (σ.1 15) (6 * p + ev p) (nI tot))
    (k35 : σ2.1 35 = upd (σ.1 35) (6 * p + ev p) kd) (k36 : σ2.1 36 = upd (σ.1 36) (6 * p + ev p) sb) (k37 : σ2.1 37 = upd (σ.1 37) (6 * p + ev p) wv)
    (h16 : ∀ j, j < 4 * (6 * p + ev p) ∨ 4 * (6 * p + ev p) + 4 ≤ j → σ2.1 16 j = σ.1 16 j) (h16n : ∀ q, q < 4 → ∃ v, v ≤ evp ev p q ∧ σ2.1 16 (4 * (6 * p + ev p) + q) = nI v)
    (hnl : nl2 = nl + (if kd = 2 then 1 else 0)) (h3 : kd = 3 → ∃ l, l < 24 ∧ sb = nI l) (hlo : ∀ l, l < nl → σ2.1 18 l = σ.1 18 l ∧ σ2.1 19 l = σ.1 19 l ∧ σ2.1 20 l = σ.1 20 l)
    (hln : kd = 2 → σ2.1 18 nl = nI p ∧ σ2.1 20 nl = nI (ev p) ∧ ∃ b, b < np ∧ b ≠ p ∧ σ2.1 19 nl = nI b)
    (h17 : ∀ j, ¬ ((p * 7 + ev p + 1) * 3 ≤ j ∧ j < (p * 7 + ev p + 1) * 3 + 3) → σ2.1 17 j = σ.1 17 j)
    (h17n : ∀ n, n < 3 → σ2.1 17 ((p * 7 + (ev p + 1)) * 3 + n) = if (1 : Int32) < kd ∨ sb ≠ nI n then σ.1 17 ((p * 7 + ev p) * 3 + n) else if kd = 1 then σ.1 17 ((p * 7 + ev p) * 3 + n) + wv else wv) (hmo : ∀ q, q < 4 → 0 < ev p → σ.1 16 (4 * (6 * p + (ev p - 1)) + q) ≤ σ2.1 16 (4 * (6 * p + ev p) + q)) :
    HInv σ2 np nl2 (tot + 1) (evp ev p) (gp g tot p) := by
  obtain ⟨⟨b1, b2, b3, b4, b5, b6, b7, b8, b9, b10, b11⟩, hR, hO, hV⟩ := hH
  refine ⟨⟨b1, ?_, fun q hq => ?_, fun q h1 h2 => ?_, a1.trans b5, a2.trans b6, a3, a4, a5, a6, fun q hq => ?_⟩, hR2, ?_, ?_⟩
  · unfold evp
    rcases (show p = 0 ∨ p = 1 ∨ p = 2 ∨ p = 3 by omega) with rfl | rfl | rfl | rfl <;> simp <;> omega
  · unfold evp
    have := b3 q hq
    by_cases h : q = p
    · subst h; rw [if_pos rfl]; omega
    · rw [if_neg h]; exact this
  · unfold evp
    rw [if_neg (by omega)]
    exact b4 q h1 h2
  · rw [k11]
    unfold evp
    by_cases h : q = p
    · subst h; rw [if_pos rfl]; exact pk_us
    · rw [if_neg h, pk_un h]; exact b11 q hq
  · rw [k12, k13, k14, k15]
    exact HO_push hO b1 b3 hp hi h16 h16n hnl h3 hlo hln
  · rw [k35, k36, k37]
    exact ⟨HV_push hV.1 b3 (by omega) hi h17 h17n, MoC_push hV.2 b3 (by omega) hi h16 hmo⟩
/-- how a call on events comes out -/
def Hop (fx fm : pw_St → Option (Int32 × pw_St)) (σ : pw_St) : Prop :=
  (∃ r, fx σ = some (r, σ) ∧ fm σ = some (r, σ)) ∨
  ∃ (r : Int32) (σ1 σ2 : pw_St) (np nl tot : Nat) (ev g : Nat → Nat), fx σ = some (r, σ1) ∧ fm σ1 = some (r, σ2) ∧ HInv σ2 np nl tot ev g ∧ HFr σ σ2 ∧ σ2.1 1 10 = σ.1 1 10 + 1
theorem tot_lt {ev : Nat → Nat} {p tot : Nat} (h6 : ∀ p, p < 4 → ev p ≤ 6) (ht : tot = ev 0 + ev 1 + ev 2 + ev 3) (hp : p < 4) (hi : ev p < 6) : tot < 24 := by
  have h0 := h6 0 (by omega)
  have h1 := h6 1 (by omega)
  have h2 := h6 2 (by omega)
  have h3 := h6 3 (by omega)
  rcases (show p = 0 ∨ p = 1 ∨ p = 2 ∨ p = 3 by omega) with rfl | rfl | rfl | rfl <;> omega
theorem rw_ne2 {σ : pw_St} {k k2 j : Nat} {f : Nat → Int32} (h : k2 ≠ k) : (pw_rw σ k f).1 k2 j = σ.1 k2 j := by rw [rw_ne h]
set_option maxHeartbeats 2000000 in
theorem pz_own {σ : pw_St} {np nl tot : Nat} {ev g : Nat → Nat} (hH : HInv σ np nl tot ev g) (x1 x2 x3 x4 : Int32) : Hop (f_X10_own x1 x2 x3 x4) (f_X11_own x1 x2 x3 x4) σ := by
  obtain ⟨⟨b1, b2, b3, b4, b5, b6, b7, b8, b9, b10, b11⟩, hR, hO, hV⟩ := id hH
  rcases ix3 x1 (show np < 2 ^ 31 by omega) with h1 | ⟨h1, h2⟩ | ⟨p, hp, rfl⟩
  · exact Or.inl ⟨-1, by unfold f_X10_own; rw [pr_neg h1, pz_bi_some, if_pos rfl], by unfold f_X11_own; rw [ip_neg h1, pz_bi_some, if_pos rfl]⟩
  · exact Or.inl ⟨-1, by unfold f_X10_own; rw [pr_ge b5 h1 h2, pz_bi_some, if_pos rfl], by unfold f_X11_own; rw [ip_ge b6 h1 h2 b1, pz_bi_some, if_pos rfl]⟩
  rcases ix3 x2 (show 3 < 2 ^ 31 by decide) with h1 | ⟨h1, h2⟩ | ⟨n, hn, rfl⟩
  · exact Or.inl ⟨-1, by unfold f_X10_own; rw [pr_in b5 hp b1, pz_bi_some, if_neg (by decide), if_pos h1], by unfold f_X11_own; rw [ip_in b6 hp b1, pz_bi_some, if_neg (by decide), in_neg h1, pz_bi_some, if_pos rfl]⟩
  · refine Or.inl ⟨-1, by unfold f_X10_own; rw [pr_in b5 hp b1, pz_bi_some, if_neg (by decide), if_neg h1, if_neg (show ¬ x2 < (3 : Int32) from Int32.not_lt.mpr h2)], ?_⟩
    unfold f_X11_own
    rw [ip_in b6 hp b1, pz_bi_some, if_neg (by decide), show (2 : Int32) = nI 3 - 1 from rfl, in_ge h1 h2 (by decide), pz_bi_some, if_pos rfl]
  have hx : f_X2_hasProcess (nI p) σ = some (1, σ) := pr_in b5 hp b1
  have hm : ∀ τ : pw_St, τ.1 10 1 = nI np → f_X11_isProcess (nI p) τ = some (1, τ) := fun τ h => ip_in h hp b1
  have hm2 : ∀ τ : pw_St, f_X11_in (nI n) 0 2 τ = some (1, τ) := fun τ => by rw [show (2 : Int32) = nI 3 - 1 from rfl]; exact in_ok hn (by decide)
  have hn3 : nI n < (3 : Int32) := nI_lt (b := 3) hn (by decide)
  have hn0 : ¬ nI n < 0 := nI_pos (by omega)
  rcases ix3 x4 (show 2 < 2 ^ 31 by decide) with h1 | ⟨h1, h2⟩ | ⟨a, ha, rfl⟩
  · have e0 : ¬ x4 = 0 := fun e => by rw [e] at h1; exact absurd h1 (by decide)
    have e1 : ¬ x4 = 1 := fun e => by rw [e] at h1; exact absurd h1 (by decide)
    exact Or.inl ⟨-2, by unfold f_X10_own; rw [hx, pz_bi_some, if_neg (by decide), if_neg hn0, if_pos hn3, if_neg e0, if_neg e1], by unfold f_X11_own; rw [hm σ b6, pz_bi_some, if_neg (by decide), hm2, pz_bi_some, if_neg (by decide), in_neg h1, pz_bi_some, if_pos rfl]⟩
  · have e0 : ¬ x4 = 0 := fun e => by rw [e] at h2; exact absurd h2 (by decide)
    have e1 : ¬ x4 = 1 := fun e => by rw [e] at h2; exact absurd h2 (by decide)
    exact Or.inl ⟨-2, by unfold f_X10_own; rw [hx, pz_bi_some, if_neg (by decide), if_neg hn0, if_pos hn3, if_neg e0, if_neg e1], by unfold f_X11_own; rw [hm σ b6, pz_bi_some, if_neg (by decide), hm2, pz_bi_some, if_neg (by decide), show (1 : Int32) = nI 2 - 1 from rfl, in_ge h1 h2 (by decide), pz_bi_some, if_pos rfl]⟩
  have hm4 : ∀ τ : pw_St, f_X11_in (nI a) 0 1 τ = some (1, τ) := fun τ => by
    have := in_ok (σ := τ) ha (by decide : 2 < 2 ^ 30)
    rw [show nI 2 - 1 = (1 : Int32) from rfl] at this
    exact this
  have hp4 : p < 4 := by omega
  have eH := b11 p hp4
  have hX : f_X10_own (nI p) (nI n) x3 (nI a) σ = b_X10_own_36 (nI p) (nI n) x3 (nI a) σ := by
    unfold f_X10_own
    rw [hx, pz_bi_some, if_neg (by decide), if_neg hn0, if_pos hn3]
    rcases (show a = 0 ∨ a = 1 by omega) with rfl | rfl
    · rw [if_pos (show nI 0 = 0 from rfl)]
    · rw [if_neg (by decide), if_pos (show nI 1 = 1 from rfl)]
  have hM : ∀ τ : pw_St, τ.1 10 1 = nI np → f_X11_own (nI p) (nI n) x3 (nI a) τ = (if τ.1 34 p = (6 : Int32) then some (-4, τ) else b_X11_own_59 (nI p) (nI n) x3 (nI a) (nI p) τ) := by
    intro τ hτ
    unfold f_X11_own
    rw [hm τ hτ, pz_bi_some, if_neg (by decide), hm2, pz_bi_some, if_neg (by decide), hm4, pz_bi_some, if_neg (by decide), if_pos (pz_in hp4 (by decide)), nI_clamp (by omega)]
    rcases (show a = 0 ∨ a = 1 by omega) with rfl | rfl
    · rw [if_neg (show ¬ nI 0 = 1 by decide)]; rfl
    · rw [if_pos (show nI 1 = 1 from rfl)]; rfl
  unfold Hop
  show (∃ r, f_X10_own (nI p) (nI n) x3 (nI a) σ = some (r, σ) ∧ f_X11_own (nI p) (nI n) x3 (nI a) σ = some (r, σ)) ∨ ∃ (r : Int32) (σ1 σ2 : pw_St) (np nl tot : Nat) (ev g : Nat → Nat), f_X10_own (nI p) (nI n) x3 (nI a) σ = some (r, σ1) ∧ f_X11_own (nI p) (nI n) x3 (nI a) σ1 = some (r, σ2) ∧ HInv σ2 np nl tot ev g ∧ HFr σ σ2 ∧ σ2.1 1 10 = σ.1 1 10 + 1
  by_cases h6 : ev p = 6
  · left
    rw [h6] at eH
    refine ⟨-4, ?_, ?_⟩
    · rw [hX]
      unfold b_X10_own_36
      rw [full_yes hp4 eH, pz_bi_some, if_neg (by decide)]
    · rw [hM σ b6, hR.1, eH, if_pos (show nI 6 = (6 : Int32) from rfl)]
  have hi : ev p < 6 := by have := b3 p hp4; omega
  have ht : tot < 24 := tot_lt b3 b2 hp4 hi
  right
  have hA := pz_append (nI a) (nI n) hp4 hi ht eH b7
  have hidx : (p * 7 + (ev p + 1)) * 3 + n < 84 := by omega
  obtain ⟨val, hval⟩ : ∃ val : Int32, val = if a = 0 then x3 else σ.1 17 ((p * 7 + ev p) * 3 + n) + x3 := ⟨_, rfl⟩
  have hx1 : f_X10_own (nI p) (nI n) x3 (nI a) σ = some (nI (ev p + 1), pw_rw (apS σ p (ev p) tot (nI a) (nI n)) 17 (upd (vlP (σ.1 17) p (ev p) 3) ((p * 7 + (ev p + 1)) * 3 + n) val)) := by
    rw [hX]
    unfold b_X10_own_36
    rw [full_no hp4 eH hi, pz_bi_some, if_pos rfl]
    rcases (show a = 0 ∨ a = 1 by omega) with rfl | rfl
    · rw [if_neg (show ¬ nI 0 = 1 by decide)]
      unfold b_X10_own_68 f_X2_change
      rw [if_pos rfl]
      unfold b_X2_change_12
      rw [show (0 : Int32) = nI 0 from rfl, hA, pz_bi_some]
      unfold f_X2_valuePlace
      rw [pz_bi_some, if_pos rfl, ixv]
      unfold b_X2_change_51
      rw [if_pos (pz_in hidx (by decide)), pz_lt, pz_bi_some, rw_sM, nI_clamp (by omega), hval, if_pos rfl]
      rfl
    · rw [if_pos (show nI 1 = 1 from rfl)]
      unfold b_X10_own_68 f_X2_change
      rw [if_neg (by decide)]
      unfold b_X2_change_12
      rw [show (1 : Int32) = nI 1 from rfl, hA, pz_bi_some]
      unfold f_X2_valuePlace
      rw [pz_bi_some, if_neg (by decide), ixv, if_pos (pz_in hidx (by decide)), nI_clamp (by omega)]
      unfold b_X2_change_51
      rw [if_pos (pz_in hidx (by decide)), pz_lt, pz_bi_some, rw_sM, nI_clamp (by omega), hval, if_neg (by decide)]
      rw [show (apS σ p (ev p) tot (nI 1) (nI n)).1 17 = vlP (σ.1 17) p (ev p) 3 from rfl, vl3_hi _ hn]
  generalize hs1 : pw_rw (apS σ p (ev p) tot (nI a) (nI n)) 17 (upd (vlP (σ.1 17) p (ev p) 3) ((p * 7 + (ev p + 1)) * 3 + n) val) = σ1 at hx1
  have m34 : σ1.1 34 p = nI (ev p) := by rw [← hs1]; show σ.1 34 p = _; rw [hR.1]; exact eH
  have m8 : σ1.1 10 8 = nI tot := by rw [← hs1]; exact b8
  have m1 : σ1.1 10 1 = nI np := by rw [← hs1]; exact b6
  have hx2 : f_X11_own (nI p) (nI n) x3 (nI a) σ1 = some (nI (ev p + 1), coS σ1 p (ev p) tot (nI a) (nI n) x3) := by
    rw [hM σ1 m1, m34, if_neg (show ¬ nI (ev p) = 6 from fun e => by have := (nI_eq (a := ev p) (b := 6) (by omega) (by decide)).mp e; omega)]
    unfold b_X11_own_59
    rw [pz_comes _ _ _ hp4 hi ht m34 m8, pz_bi_some, if_pos (pz_in hp4 (by decide)), nI_clamp (by omega)]
    rw [show (coS σ1 p (ev p) tot (nI a) (nI n) x3).1 34 p = nI (ev p + 1) by show upd (σ1.1 34) p (nI (ev p + 1)) p = _; exact pk_us]
  refine ⟨_, σ1, _, np, nl, tot + 1, evp ev p, gp g tot p, hx1, hx2, ?_, ?_, ?_⟩
  · subst hs1
    obtain ⟨r1, r2, r3, r4, r5, r6, r7, r8, r9⟩ := hR
    refine HInv_push (kd := nI a) (sb := nI n) (wv := x3) hH hp hi ⟨?_, ?_, ?_, ?_, ?_, r6, r7, r8, r9⟩ rfl rfl ?_ ?_ b9 b10 rfl rfl rfl rfl rfl rfl rfl rfl ?_ ?_ ?_ ?_ (fun l hl => ⟨rfl, rfl, rfl⟩) ?_ ?_ ?_ (mo_app hO b3 hp4)
    · show upd (σ.1 34) p _ = upd (σ.1 11) p _
      rw [r1]
    · show upd (σ.1 35) _ _ = upd (σ.1 13) _ _
      rw [r2]
    · show upd (σ.1 36) _ _ = upd (σ.1 14) _ _
      rw [r3]
    · show upd (σ.1 38) _ _ = upd (σ.1 15) _ _
      rw [r4]
    · show clkA (σ.1 39) _ _ _ = clkA (σ.1 16) _ _ _
      rw [r5]
    · rfl
    · rfl
    · intro j hj
      exact clkA_out _ hp4 hj
    · exact clk_app hO hp4
    · rw [if_neg (show ¬ nI a = 2 from fun e => by have := (nI_eq (a := a) (b := 2) (by omega) (by decide)).mp e; omega)]
      rfl
    · intro e
      have := (nI_eq (a := a) (b := 3) (by omega) (by decide)).mp e
      omega
    · intro e
      have := (nI_eq (a := a) (b := 2) (by omega) (by decide)).mp e
      omega
    · intro j hj
      show upd (vlP (σ.1 17) p (ev p) 3) _ _ j = _
      rw [pk_un (by omega), vl3_lo _ hj]
    · intro k hk
      show upd (vlP (σ.1 17) p (ev p) 3) ((p * 7 + (ev p + 1)) * 3 + n) val ((p * 7 + (ev p + 1)) * 3 + k) = _
      have hna : ¬ (1 : Int32) < nI a := nI_nlt (b := a) (a := 1) (by omega) (by decide)
      by_cases hkn : k = n
      · subst hkn
        rw [pk_us, if_neg (by intro h; rcases h with h | h; exact hna h; exact h rfl), hval]
        rcases (show a = 0 ∨ a = 1 by omega) with rfl | rfl
        · rw [if_pos rfl, if_neg (by decide)]
        · rw [if_neg (by decide), if_pos (show nI 1 = 1 from rfl)]
      · rw [pk_un (by omega), vl3_hi _ hk, if_pos (Or.inr (fun e => hkn ((nI_eq (by omega) (by omega)).mp e).symm))]
  · subst hs1
    refine ⟨fun k h1 h2 h3 h4 h5 => ?_, fun j h1 h2 h3 => ?_⟩
    · unfold coS apS
      repeat rw [rw_ne (by omega)]
    · show upd (σ.1 10) 8 _ j = _
      exact pk_un h2
  · subst hs1
    rfl
