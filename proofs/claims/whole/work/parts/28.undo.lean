-- PURE PART: undo, process
theorem HInv_pop {σ σ2 : pw_St} {np nl nl2 t : Nat} {ev g : Nat → Nat} (hH : HInv σ np nl (t + 1) ev g) (hR2 : HR σ2) (a1 : σ2.1 1 8 = σ.1 1 8) (a2 : σ2.1 10 1 = σ.1 10 1) (a3 : σ2.1 1 9 = nI t) (a4 : σ2.1 10 8 = nI t) (a5 : σ2.1 2 4 = nI nl2) (a6 : σ2.1 10 9 = nI nl2)
    (k11 : σ2.1 11 = upd (σ.1 11) (g t) (nI (ev (g t) - 1))) (k12 : σ2.1 12 = σ.1 12) (k13 : σ2.1 13 = σ.1 13) (k14 : σ2.1 14 = σ.1 14) (k15 : σ2.1 15 = σ.1 15) (k16 : σ2.1 16 = σ.1 16) (k17 : σ2.1 17 = σ.1 17) (k18 : σ2.1 18 = σ.1 18) (k19 : σ2.1 19 = σ.1 19) (k20 : σ2.1 20 = σ.1 20) (k35 : σ2.1 35 = σ.1 35) (k36 : σ2.1 36 = σ.1 36) (k37 : σ2.1 37 = σ.1 37)
    (hnl : nl = nl2 + (if σ.1 13 (sl g t) = 2 then 1 else 0)) : HInv σ2 np nl2 t (evm ev (g t)) g := by
  obtain ⟨⟨b1, b2, b3, b4, b5, b6, b7, b8, b9, b10, b11⟩, hR, hO, hV⟩ := hH
  have hg := (hO.1 t (by omega)).2
  have hc := hO.2.1 (g t) (by omega)
  rw [cn_s, if_pos rfl] at hc
  have hle : ∀ q, evm ev (g t) q ≤ ev q := fun q => by unfold evm; split <;> omega
  refine ⟨⟨b1, ?_, fun q hq => Nat.le_trans (hle q) (b3 q hq), fun q h1 h2 => ?_, a1.trans b5, a2.trans b6, a3, a4, a5, a6, fun q hq => ?_⟩, hR2, ?_, ?_⟩
  · unfold evm
    rcases (show g t = 0 ∨ g t = 1 ∨ g t = 2 ∨ g t = 3 by omega) with h | h | h | h <;> rw [h] at hc ⊢ <;> simp <;> omega
  · have := hle q
    have := b4 q h1 h2
    omega
  · rw [k11]
    unfold evm
    by_cases h : q = g t
    · rw [h, if_pos rfl]; exact pk_us
    · rw [if_neg h, pk_un h]; exact b11 q hq
  · rw [k12, k13, k14, k15, k16, k18, k19, k20]
    exact HO_pop hO hnl
  · rw [k16, k17, k35, k36, k37]
    exact ⟨fun p hp i hi n hn => hV.1 p hp i (Nat.le_trans hi (hle p)) n hn, fun p hp i hi q hq => hV.2 p hp i (Nat.lt_of_lt_of_le hi (hle p)) q hq⟩
theorem und_l {τ : pw_St} {ev : Nat → Nat} {p t : Nat} (hp : p < 4) (h6 : ∀ q, q < 4 → ev q ≤ 6) (e8 : τ.1 10 8 = nI (t + 1)) (e34 : ∀ q, q < 4 → τ.1 34 q = nI (ev q)) (hpos : 0 < ev p) (hlast : τ.1 38 (6 * p + ev p - 1) = nI t) (hno : ∀ q, q < p → 0 < ev q → ¬ τ.1 38 (6 * q + ev q - 1) = nI t) :
    ∀ (n x : Nat), x ≤ p → p - x < n → l_X11_undo_12 n (nI x) τ = b_X11_undo_54 (nI p) τ := by
  intro n
  induction n with
  | zero => intro x _ h; omega
  | succ n ih =>
    intro x h1 h2
    show b_X11_undo_12 (l_X11_undo_12 n) _ _ = _
    unfold b_X11_undo_12
    have hx6 := h6 x (by omega)
    rw [if_pos (pz_in (by omega) (by decide)), nI_clamp (n := x) (by omega), e34 x (by omega), e8, pz_1, nI_add]
    rw [show nI (t + 1) - nI 1 = nI t by rw [pk_sub (by omega)]; rfl]
    by_cases h0 : ev x = 0
    · have hxp : x ≠ p := fun e => by rw [e] at h0; omega
      rw [h0, if_pos (show nI 0 = 0 from rfl)]
      exact ih (x + 1) (by omega) (by omega)
    · rw [if_neg (nI_ne0 (by omega) (by omega)), if_pos (pz_in (by omega) (by decide)), ixp2, pk_sub (by omega), if_pos (pz_in (by omega) (by decide)), nI_clamp (by omega)]
      by_cases hxp : x = p
      · subst hxp
        rw [if_pos hlast]
      · rw [if_neg (hno x (by omega) (by omega))]
        exact ih (x + 1) (by omega) (by omega)
set_option maxHeartbeats 2000000 in
theorem pz_undo {σ : pw_St} {np nl tot : Nat} {ev g : Nat → Nat} (hH : HInv σ np nl tot ev g) : Hop f_X10_undo f_X11_undo σ := by
  obtain ⟨⟨b1, b2, b3, b4, b5, b6, b7, b8, b9, b10, b11⟩, hR, hO, hV⟩ := id hH
  have ht24 : tot ≤ 24 := by
    have h0 := b3 0 (by omega)
    have h1 := b3 1 (by omega)
    have h2 := b3 2 (by omega)
    have h3 := b3 3 (by omega)
    omega
  cases tot with
  | zero =>
    refine Or.inl ⟨-3, ?_, ?_⟩
    · unfold f_X10_undo
      rw [b7, if_pos (show nI 0 = 0 from rfl)]
    · unfold f_X11_undo
      rw [b8, if_pos (show nI 0 = 0 from rfl)]
  | succ t =>
    obtain ⟨p, hpg⟩ : ∃ p, p = g t := ⟨_, rfl⟩
    have hg := (hO.1 t (by omega))
    have hp4 : p < 4 := by omega
    have eH := b11 p hp4
    have hc := hO.2.1 p hp4
    rw [cn_s, if_pos hpg.symm] at hc
    have h6 := b3 p hp4
    have hsl : sl g t = 6 * p + (ev p - 1) := by unfold sl; rw [← hpg]; omega
    have e12 : σ.1 12 t = nI p := by rw [hg.1, hpg]
    obtain ⟨σb, hb⟩ : ∃ σb, σb = pw_rw (pw_rw σ 1 (upd (upd (σ.1 1) 9 (nI t)) 10 (σ.1 1 10 + 1))) 11 (upd (σ.1 11) p (nI (ev p - 1))) := ⟨_, rfl⟩
    obtain ⟨e, he⟩ : ∃ e, e = 6 * p + (ev p - 1) := ⟨_, rfl⟩
    have he24 : e < 24 := by omega
    have hX : f_X10_undo σ = if σ.1 13 e = (2 : Int32) then some (nI p, pw_rw σb 2 (upd (σ.1 2) 4 (σ.1 2 4 - 1))) else if σ.1 13 e = (3 : Int32) then (if pw_in (σ.1 14 e) 24 = true then some (nI p, pw_rw σb 21 (upd (σ.1 21) (σ.1 14 e).toNatClampNeg (-1))) else none) else some (nI p, σb) := by
      unfold f_X10_undo
      rw [b7, if_neg (nI_ne0 (by omega) (by omega))]
      unfold f_X2_takeBack
      rw [pz_lt, b7, show nI (t + 1) - (1 : Int32) = nI t by rw [pz_m1 (by omega)]; rfl, pz_lt]
      generalize hq : pw_sM (pw_sM σ 1 9 (nI t)) 1 10 ((pw_sM σ 1 9 (nI t)).1 1 10 + 1) = σq
      have q9 : σq.1 1 9 = nI t := by rw [← hq]; rfl
      have q12 : σq.1 12 t = nI p := by rw [← hq]; exact e12
      have q11 : σq.1 11 p = nI (ev p) := by rw [← hq]; exact eH
      rw [q9, if_pos (pz_in (by omega) (by decide)), nI_clamp (n := t) (by omega), q12, if_pos (pz_in hp4 (by decide)), if_pos (pz_in hp4 (by decide)), pz_lt, nI_clamp (n := p) (by omega), q11, pz_m1 (by omega)]
      have hσb : pw_sM σq 11 p (nI (ev p - 1)) = σb := by rw [hb, ← hq, rw_sM, rw_sM, rw_sM, rw_rw]; rfl
      rw [hσb, if_pos (pz_in hp4 (by decide)), show σb.1 11 p = nI (ev p - 1) by rw [hb]; exact pk_us]
      unfold f_X2_place
      rw [pz_bi_some, ixp, ← he, if_pos (pz_in he24 (by decide)), nI_clamp (n := e) (by omega), show σb.1 13 e = σ.1 13 e by rw [hb]; rfl]
      by_cases k2 : σ.1 13 e = 2
      · rw [if_pos k2, if_pos k2, pz_lt, pz_bi_some, rw_sM]
        rw [show σb.1 2 = σ.1 2 by rw [hb]; rfl]
      · rw [if_neg k2, if_neg k2, if_pos (pz_in he24 (by decide))]
        by_cases k3 : σ.1 13 e = 3
        · rw [if_pos k3, if_pos k3, if_pos (pz_in he24 (by decide)), show σb.1 14 e = σ.1 14 e by rw [hb]; rfl]
          by_cases k4 : pw_in (σ.1 14 e) 24 = true
          · rw [if_pos k4, if_pos k4, pz_lt, pz_bi_some, rw_sM, show σb.1 21 = σ.1 21 by rw [hb]; rfl]
          · rw [if_neg k4, if_neg k4]; rfl
        · rw [if_neg k3, if_neg k3, pz_bi_some]
    have hlast : ∀ τ : pw_St, τ.1 34 = σ.1 34 → τ.1 38 = σ.1 38 → τ.1 10 = σ.1 10 → f_X11_undo τ = b_X11_undo_54 (nI p) τ := by
      intro τ h1 h2 h3
      unfold f_X11_undo
      rw [h3, b8, if_neg (nI_ne0 (by omega) (by omega)), pz_0]
      refine und_l (ev := ev) (t := t) hp4 b3 (by rw [h3]; exact b8) (fun q hq => by rw [h1, hR.1]; exact b11 q hq) (by omega) ?_ ?_ pw_FU 0 (by omega) (by unfold pw_FU; omega)
      · rw [h2, hR.2.2.2.1, show 6 * p + ev p - 1 = sl g t by rw [hsl]; omega]
        exact hO.2.2.1 t (by omega)
      · intro q hq hqp hh
        obtain ⟨u, u1, u2, u3, u4⟩ := sl_of hO.2.1 (show q < 4 by omega) (show ev q - 1 < ev q by omega)
        rw [h2, hR.2.2.2.1, show 6 * q + ev q - 1 = sl g u by rw [u4]; omega, hO.2.2.1 u u1] at hh
        have := (nI_eq (by omega) (by omega)).mp hh
        subst this
        omega
    have h54 : ∀ τ : pw_St, τ.1 34 p = nI (ev p) → b_X11_undo_54 (nI p) τ = if τ.1 35 e = (2 : Int32) then b_X11_undo_88 (nI p) (nI e) (pw_sM τ 10 9 (τ.1 10 9 - 1)) else b_X11_undo_88 (nI p) (nI e) τ := by
      intro τ h1
      unfold b_X11_undo_54
      rw [if_pos (pz_in hp4 (by decide)), nI_clamp (n := p) (by omega), h1, ixp2, pz_m1 (by omega), show 6 * p + ev p - 1 = e by omega, if_pos (pz_in he24 (by decide)), nI_clamp (n := e) (by omega)]
      rfl
    have h88 : ∀ τ : pw_St, τ.1 34 p = nI (ev p) → τ.1 10 8 = nI (t + 1) → b_X11_undo_88 (nI p) (nI e) τ = if τ.1 35 e = (3 : Int32) then (if pw_in (τ.1 36 e) 24 = true then b_X11_undo_110 (nI p) (pw_sM τ 43 (τ.1 36 e).toNatClampNeg (-1)) else none) else b_X11_undo_110 (nI p) τ := by
      intro τ h1 h2
      unfold b_X11_undo_88
      rw [if_pos (pz_in he24 (by decide)), nI_clamp (n := e) (by omega), if_pos (pz_in he24 (by decide))]
      rfl
    have h110 : ∀ τ : pw_St, τ.1 34 p = nI (ev p) → τ.1 10 8 = nI (t + 1) → b_X11_undo_110 (nI p) τ = some (nI p, pw_rw (pw_rw τ 34 (upd (τ.1 34) p (nI (ev p - 1)))) 10 (upd (τ.1 10) 8 (nI t))) := by
      intro τ h1 h2
      unfold b_X11_undo_110
      rw [if_pos (pz_in hp4 (by decide)), if_pos (pz_in hp4 (by decide)), pz_lt, pz_lt, nI_clamp (n := p) (by omega), h1, pz_m1 (by omega), rw_sM]
      rw [show (pw_sM τ 34 p (nI (ev p - 1))).1 10 8 = nI (t + 1) from h2, pz_m1 (by omega)]
      rfl
    obtain ⟨r1, r2, r3, r4, r5, r6, r7, r8, r9⟩ := hR
    have e34 : σ.1 34 p = nI (ev p) := by rw [r1]; exact eH
    have hR11 : upd (σ.1 34) p (nI (ev p - 1)) = upd (σ.1 11) p (nI (ev p - 1)) := by rw [r1]
    by_cases k2 : σ.1 13 e = 2
    · have hnl : 0 < nl := by
        have := hO.2.2.2.2.1
        rw [ct_s, hsl, ← he, k2] at this
        simp at this; omega
      have hnl2 : nl ≤ 25 := by have := HA_nl hO; omega
      have hx1 : f_X10_undo σ = some (nI p, pw_rw σb 2 (upd (σ.1 2) 4 (nI (nl - 1)))) := by rw [hX, if_pos k2, b9, pz_m1 hnl]
      obtain ⟨σ1, hs1⟩ : ∃ σ1, σ1 = pw_rw σb 2 (upd (σ.1 2) 4 (nI (nl - 1))) := ⟨_, rfl⟩
      rw [← hs1] at hx1
      have n3 : ¬ σ.1 13 e = 3 := fun h => by rw [k2] at h; exact absurd h (by decide)
      have hx2 : f_X11_undo σ1 = some (nI p, pw_rw (pw_rw (pw_rw σ1 10 (upd (σ1.1 10) 9 (nI (nl - 1)))) 34 (upd (σ1.1 34) p (nI (ev p - 1)))) 10 (upd (upd (σ1.1 10) 9 (nI (nl - 1))) 8 (nI t))) := by
        rw [hlast σ1 (by rw [hs1, hb]; rfl) (by rw [hs1, hb]; rfl) (by rw [hs1, hb]; rfl), h54 σ1 (by rw [hs1, hb]; exact e34), if_pos (by rw [hs1, hb]; show σ.1 35 e = _; rw [r2]; exact k2)]
        rw [show σ1.1 10 9 = nI nl by rw [hs1, hb]; exact b10, pz_m1 hnl, rw_sM]
        rw [h88 _ (by rw [hs1, hb]; exact e34) (by rw [hs1, hb]; exact b8), if_neg (by rw [hs1, hb]; show ¬ σ.1 35 e = _; rw [r2]; exact n3), h110 _ (by rw [hs1, hb]; exact e34) (by rw [hs1, hb]; exact b8)]
        rfl
      refine Or.inr ⟨_, σ1, _, np, nl - 1, t, evm ev (g t), g, hx1, hx2, ?_, ?_, ?_⟩
      · subst hs1; subst hb
        refine HInv_pop (nl2 := nl - 1) hH ⟨hR11, r2, r3, r4, r5, r6, r7, r8, r9⟩ rfl rfl rfl rfl rfl rfl (by rw [← hpg]; rfl) rfl rfl rfl rfl rfl rfl rfl rfl rfl rfl rfl rfl ?_
        rw [hsl, ← he, if_pos k2]; omega
      · subst hs1; subst hb
        refine ⟨fun k h1 h2 h3 h4 h5 => ?_, fun j h1 h2 h3 => ?_⟩
        · repeat rw [rw_ne (by omega)]
        · show upd (upd (σ.1 10) 9 _) 8 _ j = _
          rw [pk_un h2]
          exact pk_un h3
      · subst hs1; subst hb
        rfl
    · by_cases k3 : σ.1 13 e = 3
      · obtain ⟨l, l1, l2⟩ := hO.2.2.2.2.2.1 t (by omega) (by rw [hsl, ← he]; exact k3)
        rw [hsl, ← he] at l2
        have hx1 : f_X10_undo σ = some (nI p, pw_rw σb 21 (upd (σ.1 21) l (-1))) := by rw [hX, if_neg k2, if_pos k3, l2, if_pos (pz_in l1 (by decide)), nI_clamp (by omega)]
        obtain ⟨σ1, hs1⟩ : ∃ σ1, σ1 = pw_rw σb 21 (upd (σ.1 21) l (-1)) := ⟨_, rfl⟩
        rw [← hs1] at hx1
        have hx2 : f_X11_undo σ1 = some (nI p, pw_rw (pw_rw (pw_rw σ1 43 (upd (σ1.1 43) l (-1))) 34 (upd (σ1.1 34) p (nI (ev p - 1)))) 10 (upd (σ1.1 10) 8 (nI t))) := by
          rw [hlast σ1 (by rw [hs1, hb]; rfl) (by rw [hs1, hb]; rfl) (by rw [hs1, hb]; rfl), h54 σ1 (by rw [hs1, hb]; exact e34), if_neg (by rw [hs1, hb]; show ¬ σ.1 35 e = _; rw [r2]; exact k2)]
          rw [h88 _ (by rw [hs1, hb]; exact e34) (by rw [hs1, hb]; exact b8), if_pos (by rw [hs1, hb]; show σ.1 35 e = _; rw [r2]; exact k3)]
          rw [show σ1.1 36 e = nI l by rw [hs1, hb]; show σ.1 36 e = _; rw [r3]; exact l2, if_pos (pz_in l1 (by decide)), nI_clamp (by omega), rw_sM, h110 _ (by rw [hs1, hb]; exact e34) (by rw [hs1, hb]; exact b8)]
          rfl
        refine Or.inr ⟨_, σ1, _, np, nl, t, evm ev (g t), g, hx1, hx2, ?_, ?_, ?_⟩
        · subst hs1; subst hb
          refine HInv_pop (nl2 := nl) hH ⟨hR11, r2, r3, r4, r5, r6, r7, r8, ?_⟩ rfl rfl rfl rfl b9 b10 (by rw [← hpg]; rfl) rfl rfl rfl rfl rfl rfl rfl rfl rfl rfl rfl rfl ?_
          · show upd (σ.1 43) _ _ = upd (σ.1 21) _ _
            rw [r9]
          · rw [hsl, ← he, if_neg k2]; rfl
        · subst hs1; subst hb
          refine ⟨fun k h1 h2 h3 h4 h5 => ?_, fun j h1 h2 h3 => ?_⟩
          · repeat rw [rw_ne (by omega)]
          · show upd (σ.1 10) 8 _ j = _
            exact pk_un h2
        · subst hs1; subst hb
          rfl
      · have hx1 : f_X10_undo σ = some (nI p, σb) := by rw [hX, if_neg k2, if_neg k3]
        have hx2 : f_X11_undo σb = some (nI p, pw_rw (pw_rw σb 34 (upd (σb.1 34) p (nI (ev p - 1)))) 10 (upd (σb.1 10) 8 (nI t))) := by
          rw [hlast σb (by rw [hb]; rfl) (by rw [hb]; rfl) (by rw [hb]; rfl), h54 σb (by rw [hb]; exact e34), if_neg (by rw [hb]; show ¬ σ.1 35 e = _; rw [r2]; exact k2)]
          rw [h88 _ (by rw [hb]; exact e34) (by rw [hb]; exact b8), if_neg (by rw [hb]; show ¬ σ.1 35 e = _; rw [r2]; exact k3), h110 _ (by rw [hb]; exact e34) (by rw [hb]; exact b8)]
        refine Or.inr ⟨_, σb, _, np, nl, t, evm ev (g t), g, hx1, hx2, ?_, ?_, ?_⟩
        · subst hb
          refine HInv_pop (nl2 := nl) hH ⟨hR11, r2, r3, r4, r5, r6, r7, r8, r9⟩ rfl rfl rfl rfl b9 b10 (by rw [← hpg]; rfl) rfl rfl rfl rfl rfl rfl rfl rfl rfl rfl rfl rfl ?_
          rw [hsl, ← he, if_neg k2]; rfl
        · subst hb
          refine ⟨fun k h1 h2 h3 h4 h5 => ?_, fun j h1 h2 h3 => ?_⟩
          · repeat rw [rw_ne (by omega)]
          · show upd (σ.1 10) 8 _ j = _
            exact pk_un h2
        · subst hb
          rfl
/-- process: a process more, or FULL -/
theorem pz_process {σ : pw_St} {np nl tot : Nat} {ev g : Nat → Nat} (hH : HInv σ np nl tot ev g) : (∃ r, f_X10_process σ = some (r, σ) ∧ f_X11_process σ = some (r, σ)) ∨
    ∃ (r : Int32) (σ1 σ2 : pw_St), f_X10_process σ = some (r, σ1) ∧ f_X11_process σ1 = some (r, σ2) ∧ HInv σ2 (np + 1) nl tot ev g ∧ HFr σ σ2 ∧ σ2.1 1 10 = σ.1 1 10 ∧ σ2.1 11 = σ.1 11 ∧ σ2.1 16 = σ.1 16 := by
  obtain ⟨⟨b1, b2, b3, b4, b5, b6, b7, b8, b9, b10, b11⟩, hR, hO, hV⟩ := id hH
  by_cases h4 : np = 4
  · subst h4
    refine Or.inl ⟨-4, ?_, ?_⟩
    · unfold f_X10_process
      rw [b5, if_neg (by decide)]
    · unfold f_X11_process
      rw [b6, if_pos (show nI 4 = (4 : Int32) from rfl)]
  · have hn : np < 4 := by omega
    have hx1 : f_X10_process σ = some (nI np, pw_rw σ 1 (upd (σ.1 1) 8 (nI (np + 1)))) := by
      unfold f_X10_process
      rw [b5, if_pos (show nI np < (4 : Int32) from nI_lt (b := 4) hn (by decide)), pz_lt, pz_1, nI_add, rw_sM, rw_get, pk_us, pk_sub (by omega)]
      rfl
    obtain ⟨σ1, hs1⟩ : ∃ σ1, σ1 = pw_rw σ 1 (upd (σ.1 1) 8 (nI (np + 1))) := ⟨_, rfl⟩
    rw [← hs1] at hx1
    have m1 : σ1.1 10 1 = nI np := by rw [hs1]; exact b6
    have e34 : upd (σ.1 34) np 0 = σ.1 34 := by
      funext j
      unfold upd
      by_cases hj : j = np
      · rw [if_pos hj, hj, hR.1, b11 np hn, b4 np (Nat.le_refl _) hn]; rfl
      · rw [if_neg hj]
    have hx2 : f_X11_process σ1 = some (nI np, pw_rw (pw_rw σ1 34 (σ.1 34)) 10 (upd (σ1.1 10) 1 (nI (np + 1)))) := by
      unfold f_X11_process
      rw [m1, if_neg (show ¬ nI np = 4 from fun e => by have := (nI_eq (a := np) (b := 4) (by omega) (by decide)).mp e; omega), if_pos (pz_in hn (by decide)), pz_lt, pz_lt, nI_clamp (by omega), rw_sM]
      rw [show (pw_sM σ1 34 np 0).1 10 1 = nI np from m1, pz_1, nI_add, rw_get, pk_us, pk_sub (by omega)]
      rw [show pw_sM σ1 34 np 0 = pw_rw σ1 34 (σ.1 34) by rw [rw_sM, show σ1.1 34 = σ.1 34 by rw [hs1]; rfl, e34]]
      rfl
    refine Or.inr ⟨_, σ1, _, hx1, hx2, ?_, ?_, ?_, ?_, ?_⟩
    · subst hs1
      refine ⟨⟨by omega, b2, b3, fun p h1 h2 => b4 p (by omega) h2, rfl, rfl, b7, b8, b9, b10, b11⟩, ⟨hR.1, hR.2⟩, ?_, hV⟩
      obtain ⟨o1, o2, o3, o4, o5, o6, o7⟩ := hO
      refine ⟨fun t ht => ⟨(o1 t ht).1, by have := (o1 t ht).2; omega⟩, o2, o3, o4, o5, o6, fun l hl => ?_⟩
      obtain ⟨t, t1, t2, t3, t4, t5, b, t6, t7, t8⟩ := o7 l hl
      exact ⟨t, t1, t2, t3, t4, t5, b, by omega, t7, t8⟩
    · subst hs1
      refine ⟨fun k h1 h2 h3 h4 h5 => ?_, fun j h1 h2 h3 => ?_⟩
      · repeat rw [rw_ne (by omega)]
      · show upd (σ.1 10) 1 _ j = _
        exact pk_un h1
    · subst hs1; rfl
    · subst hs1; rfl
    · subst hs1; rfl
