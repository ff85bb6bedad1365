-- PURE PART: before, both sides
theorem bf_in {σ : pw_St} {np c : Nat} {ev : Nat → Nat} {R : Nat → Bool} (hM : CutM σ np ev) (hC : isC ev c) (k26 : Int32 → Int32 → pw_St → Option (Int32 × pw_St)) (x2 : Int32) (b0 : Bool) (hR : ∀ j, j < c → σ.1 52 j = if R j then 1 else 0) : ∀ (n p : Nat) (τ : pw_St), p ≤ np → np - p < n → (∀ r, r ≠ 52 → τ.1 r = σ.1 r) → (∀ j, j ≠ c → τ.1 52 j = σ.1 52 j) → (τ.1 52 c = if (b0 || anyf (rt R c) p) then 1 else 0) → ∃ τ2, l_X11_before_78 k26 n x2 (nI c) (nI p) τ = b_X11_before_124 k26 x2 (nI c) τ2 ∧ (∀ r, r ≠ 52 → τ2.1 r = σ.1 r) ∧ (∀ j, j ≠ c → τ2.1 52 j = σ.1 52 j) ∧ (τ2.1 52 c = if (b0 || anyf (rt R c) 4) then 1 else 0) := by
  obtain ⟨m1, m2, m3, m4, m5⟩ := hM
  have hc := hC.1
  intro n
  induction n with
  | zero => intro p τ _ h; omega
  | succ n ih =>
    intro p τ h1 h2 hr hj hv
    rw [show l_X11_before_78 k26 (n + 1) x2 (nI c) (nI p) τ = b_X11_before_78 k26 (l_X11_before_78 k26 n) x2 (nI c) (nI p) τ from rfl]
    unfold b_X11_before_78
    rw [hr 10 (by omega), m4, nI_1]
    by_cases h : p = np
    · subst h
      rw [if_pos (nI_le (Nat.le_refl _) (by omega))]
      refine ⟨τ, rfl, hr, hj, ?_⟩
      have e : ∀ d, p + d ≤ 4 → anyf (rt R c) (p + d) = anyf (rt R c) p := by
        intro d
        induction d with
        | zero => intro _; rfl
        | succ d ihd =>
          intro hd
          have h9 := hC.2 (p + d) (by omega)
          rw [m3 (p + d) (by omega) (by omega)] at h9
          rw [show p + (d + 1) = p + d + 1 by omega, anyf_s, ihd (by omega), show rt R c (p + d) = false by unfold rt; rw [decide_eq_false (by omega), Bool.false_and], Bool.or_false]
      rw [hv, ← e (4 - p) (by omega), show p + (4 - p) = 4 by omega]
    · have hp : p < np := by omega
      have hp4 : p < 4 := by omega
      have d := dg_lt c p
      rw [if_neg (nI_ge hp (by omega)), pz_part τ (by omega) hp4, pz_bi_some]
      by_cases h0 : 0 < dg c p
      · have hu := un_lec hp4 h0
        have hup := un_pos p
        rw [if_neg (show ¬ nI (dg c p) ≤ 0 from nI_ge (a := 0) h0 (by omega)), pz_unit τ hp4, pz_bi_some, pk_sub hu, if_pos (pz_in (show c - un p < 2401 by omega) (by decide)), nI_clamp (n := c - un p) (by omega), hj (c - un p) (by omega), hR (c - un p) (by omega)]
        by_cases hRt : R (c - un p) = true
        · rw [hRt, mk1, if_neg (by decide), if_pos (pz_in hc (by decide)), pz_lt, nI_clamp (n := c) (by omega), nar1, rw_sM]
          refine ih (p + 1) _ (by omega) (by omega) (fun r a => by rw [rw_ne a]; exact hr r a) (fun j a => by rw [rw_get, pk_un a]; exact hj j a) ?_
          rw [rw_get, pk_us, anyf_s, show rt R c p = true by unfold rt; rw [decide_eq_true h0, hRt]; rfl]
          simp
        · have hRf : R (c - un p) = false := by simpa using hRt
          rw [hRf, mk0, if_pos rfl]
          refine ih (p + 1) τ (by omega) (by omega) hr hj ?_
          rw [hv, anyf_s, show rt R c p = false by unfold rt; rw [hRf, Bool.and_false], Bool.or_false]
      · rw [if_pos (show nI (dg c p) ≤ 0 by rw [show dg c p = 0 by omega]; decide)]
        refine ih (p + 1) τ (by omega) (by omega) hr hj ?_
        rw [hv, anyf_s, show rt R c p = false by unfold rt; rw [decide_eq_false h0, Bool.false_and], Bool.or_false]
theorem bf_l {σ : pw_St} {np nl tot d : Nat} {ev g : Nat → Nat} {M Q W : Nat → Bool} {F : List Pt_} (hH : HInv σ np nl tot ev g) (h51 : ∀ t, t < 2401 → σ.1 51 t = if M t then 1 else 0) (hQ : ∀ c, Q c = (pb ev (σ.1 16) c && !M c)) (hW : W = wb σ nl F) (hd : d < 16) (hF : RepM σ d F) (hw : wfF F 6) : ∀ (n c : Nat) (τ : pw_St), c ≤ 2401 → 2401 - c < n → (∀ r, r ≠ 50 → r ≠ 52 → τ.1 r = σ.1 r) → (∀ j, j < c → τ.1 52 j = if rc Q j then 1 else 0) → ∃ r τ2, l_X11_before_26 n (nI d) (nI c) τ = some (r, τ2) ∧ (∀ r, r ≠ 50 → r ≠ 52 → τ2.1 r = σ.1 r) ∧ ((r = 1 ∧ ∀ t, c ≤ t → t < 2401 → rc Q t = true → W t = false) ∨ (r = 0 ∧ ∃ t, rc Q t = true ∧ W t = true)) := by
  intro n
  induction n with
  | zero => intro c τ _ h; omega
  | succ n ih =>
    intro c τ h1 h2 hr hj
    rw [show l_X11_before_26 (n + 1) (nI d) (nI c) τ = b_X11_before_26 (l_X11_before_26 n) (nI d) (nI c) τ from rfl]
    unfold b_X11_before_26
    by_cases h : c = 2401
    · subst h
      rw [if_pos (by decide)]
      exact ⟨1, τ, rfl, hr, Or.inl ⟨rfl, fun t a b => by omega⟩⟩
    · have hc : c < 2401 := by omega
      rw [if_neg (show ¬ (2401 : Int32) ≤ nI c from nI_ge (b := 2401) hc (by decide)), if_pos (pz_in hc (by decide)), pz_lt, nI_clamp (n := c) (by omega), nar0, rw_sM, nI_1]
      obtain ⟨τ1, et⟩ : ∃ τ1, τ1 = pw_rw τ 52 (upd (τ.1 52) c 0) := ⟨_, rfl⟩
      have r1 : ∀ r, r ≠ 50 → r ≠ 52 → τ1.1 r = σ.1 r := fun r a b => by rw [et, rw_ne b]; exact hr r a b
      have r2 : ∀ j, j ≠ c → τ1.1 52 j = τ.1 52 j := fun j a => by rw [et, rw_get, pk_un a]
      have r3 : τ1.1 52 c = 0 := by rw [et, rw_get, pk_us]
      rw [← et]
      have hK1 : Keep σ τ1 := fun k hk => r1 k (by omega) (by omega)
      have hH1 := HInv_keep hH hK1
      have hq1 := QI_of hH1
      have next : ∀ τ2 : pw_St, (∀ r, r ≠ 50 → r ≠ 52 → τ2.1 r = σ.1 r) → (∀ j, j ≠ c → τ2.1 52 j = τ.1 52 j) → (τ2.1 52 c = if rc Q c then 1 else 0) → (rc Q c = true → W c = false) → ∃ r τ3, l_X11_before_26 n (nI d) (nI (c + 1)) τ2 = some (r, τ3) ∧ (∀ r, r ≠ 50 → r ≠ 52 → τ3.1 r = σ.1 r) ∧ ((r = 1 ∧ ∀ t, c ≤ t → t < 2401 → rc Q t = true → W t = false) ∨ (r = 0 ∧ ∃ t, rc Q t = true ∧ W t = true)) := by
        intro τ2 g1 g2 g3 g4
        obtain ⟨r, τ3, e1, e2, e3⟩ := ih (c + 1) τ2 (by omega) (by omega) g1 (fun j a => by
          by_cases e : j = c
          · subst e; exact g3
          · rw [g2 j e]; exact hj j (by omega))
        refine ⟨r, τ3, e1, e2, ?_⟩
        rcases e3 with ⟨e3, e4⟩ | e3
        · refine Or.inl ⟨e3, fun t a b hx => ?_⟩
          by_cases e : t = c
          · subst e; exact g4 hx
          · exact e4 t (by omega) b hx
        · exact Or.inr e3
      have none : Q c = false → ∃ r τ3, l_X11_before_26 n (nI d) (nI (c + 1)) τ1 = some (r, τ3) ∧ (∀ r, r ≠ 50 → r ≠ 52 → τ3.1 r = σ.1 r) ∧ ((r = 1 ∧ ∀ t, c ≤ t → t < 2401 → rc Q t = true → W t = false) ∨ (r = 0 ∧ ∃ t, rc Q t = true ∧ W t = true)) := by
        intro hq
        have hrc : rc Q c = false := by rw [rc_eq, hq, Bool.false_and]
        exact next τ1 r1 r2 (by rw [r3, hrc]; rfl) (fun e => by rw [hrc] at e; cases e)
      by_cases hP : pb ev (σ.1 16) c = true
      · rw [ips_t hq1 (by rw [pb_E hK1]; exact hP), pz_bi_some, if_neg (by decide), if_pos (pz_in hc (by decide)), r1 51 (by omega) (by omega), h51 c hc]
        by_cases hM : M c = true
        · rw [hM, mk1, if_neg (by decide)]
          exact none (by rw [hQ, hM]; simp)
        · have hMf : M c = false := by simpa using hM
          have hQt : Q c = true := by rw [hQ, hP, hMf]; rfl
          rw [hMf, mk0, if_pos rfl]
          have hC := (pb_t.mp hP).1
          have key74 : ∀ v : Int32, vp_nar .boolean v = (if (decide (c = 0) || anyf (rt (rc Q) c) 0) then 1 else 0) → ∃ r τ3, b_X11_before_74 (l_X11_before_26 n) (nI d) (nI c) v (nI c) τ1 = some (r, τ3) ∧ (∀ r, r ≠ 50 → r ≠ 52 → τ3.1 r = σ.1 r) ∧ ((r = 1 ∧ ∀ t, c ≤ t → t < 2401 → rc Q t = true → W t = false) ∨ (r = 0 ∧ ∃ t, rc Q t = true ∧ W t = true)) := by
            intro v hv
            unfold b_X11_before_74
            rw [if_pos (pz_in hc (by decide)), pz_lt, nI_clamp (n := c) (by omega), hv, rw_sM, pz_0]
            obtain ⟨τ2, e1, e2, e3, e4⟩ := bf_in (σ := τ1) (R := rc Q) hq1.1 hC (l_X11_before_26 n) (nI d) (decide (c = 0)) (fun j a => by rw [r2 j (by omega)]; exact hj j a) pw_FU 0 (pw_rw τ1 52 (upd (τ1.1 52) c (if (decide (c = 0) || anyf (rt (rc Q) c) 0) then 1 else 0))) (by omega) (by have := hq1.1.1; unfold pw_FU; omega) (fun r a => rw_ne a) (fun j a => by rw [rw_get, pk_un a]) (by rw [rw_get, pk_us])
            rw [show l_X11_before_78 (l_X11_before_26 n) pw_FU (nI d) (nI c) (nI 0) (pw_rw τ1 52 (upd (τ1.1 52) c (if (decide (c = 0) || anyf (rt (rc Q) c) 0) then 1 else nI 0))) = _ from e1]
            have g1 : ∀ r, r ≠ 50 → r ≠ 52 → τ2.1 r = σ.1 r := fun r a b => by rw [e2 r b]; exact r1 r a b
            have g2 : ∀ j, j ≠ c → τ2.1 52 j = τ.1 52 j := fun j a => by rw [e3 j a]; exact r2 j a
            have erc : rc Q c = (decide (c = 0) || anyf (rt (rc Q) c) 4) := by
              have := rc_eq Q c
              rw [hQt, Bool.true_and] at this
              exact this
            rw [← erc] at e4
            unfold b_X11_before_124
            rw [if_pos (pz_in hc (by decide)), nI_clamp (n := c) (by omega), e4, nI_1]
            by_cases hrc : rc Q c = true
            · have hK2 : Keep σ τ2 := fun k hk => g1 k (by omega) (by omega)
              obtain ⟨hh, kw⟩ := wm (HInv_keep hH hK2) hC hd (RepM_same hF (g1 _ (by omega) (by omega)) (g1 _ (by omega) (by omega)) (g1 _ (by omega) (by omega)) (g1 _ (by omega) (by omega))) hw
              rw [hrc, mk1, if_neg (by decide), kw, pz_bi_some, wv_K hK2]
              by_cases hz : wv σ nl F c = 0
              · rw [if_pos hz]
                refine next _ (fun r a b => by rw [rw_ne a]; exact g1 r a b) (fun j a => by rw [rw_ne (by omega)]; exact g2 j a) (by rw [rw_ne (by omega), e4]) (fun _ => ?_)
                rw [hW]; unfold wb; rw [hz]; rfl
              · rw [if_neg hz]
                refine ⟨0, _, rfl, fun r a b => by rw [rw_ne a]; exact g1 r a b, Or.inr ⟨rfl, c, hrc, ?_⟩⟩
                rw [hW]; unfold wb; rw [decide_eq_false hz]; rfl
            · have hrf : rc Q c = false := by simpa using hrc
              rw [hrf, mk0, if_pos rfl]
              exact next τ2 g1 g2 e4 (fun e => absurd e hrc)
          by_cases hz : c = 0
          · rw [if_pos (show nI c = 0 by rw [hz]; rfl)]
            refine key74 1 ?_
            rw [nar1, decide_eq_true hz]; rfl
          · rw [if_neg (nI_ne0 (by omega) (by omega))]
            refine key74 0 ?_
            rw [nar0, decide_eq_false hz]; rfl
      · have hPf : pb ev (σ.1 16) c = false := by simpa using hP
        rw [ips_f hq1 hc (by rw [pb_E hK1]; exact hPf), pz_bi_some, if_pos rfl]
        exact none (by rw [hQ, hPf]; rfl)
theorem pz_before {σ : pw_St} {np nl tot nc nt n : Nat} {ev g : Nat → Nat} {Fc Fp : Nat → List Pt_} (hH : HInv σ np nl tot ev g) (hC : CInv σ nc nt Fc Fp) (hn : n < 2 ^ 31) (hN : NInv σ ev n) (x y : Int32) : Qr (f_X10_before x y) (f_X11_before x y) σ ev n := by
  obtain ⟨b1, b2, b3, b4, b5, b6, b7, b8⟩ := id hC
  have hq := QI_of hH
  have h6 := hq.1.2.1
  rcases cond3 y b1 with hy | ⟨d, hd, rfl⟩
  · refine Qr_same hN (r := -1) ?_ ?_
    · unfold f_X10_before
      rcases cond3 x b1 with hx | ⟨c, hc, rfl⟩
      · rw [has_no b3 hx, pz_bi_some, if_pos rfl]
      · rw [ha_in b3 hc b1, pz_bi_some, if_neg (by decide), has_no b3 hy, pz_bi_some, if_pos rfl]
    · unfold f_X11_before
      rw [st_no b4 b1 hy, pz_bi_some, if_pos rfl]
  rcases cond3 x b1 with hx | ⟨c, hc, rfl⟩
  · refine Qr_same hN (r := -1) ?_ ?_
    · unfold f_X10_before
      rw [has_no b3 hx, pz_bi_some, if_pos rfl]
    · unfold f_X11_before
      rw [st_yes b4 b1 hd, pz_bi_some, if_neg (by decide), stu_no b4 b1 hx, pz_bi_some, if_pos rfl]
  obtain ⟨σ1, T, io, M, k1, k2, k3, k4, hS, f5, eM, h30, hst⟩ := both hH hC hn hN hc
  obtain ⟨T', io', -, -, f6, f23, f24⟩ := id k2
  rw [pb_E k4] at f23
  have hH1 := HInv_keep hH k4
  have hC1 := CInv_keep hC k4
  obtain ⟨q1, q2, q3⟩ := hC1.2.2.2.2.2.2.1 d hd
  have hnl := nl_24 hH1
  obtain ⟨τ, t1, t2⟩ := fu_l (Q := fun c => pb ev (σ.1 16) c && !M c) (W := wb σ nl (Fc d)) h6 (QI_keep hq k4).2.1 hS f23 h30 (fun _ => rfl) (by rw [wb_K k4]) (pb_0 _ _) hH1.1.2.2.2.2.2.2.2.2.1 hnl.1 q1 q3 pw_FU T σ1 (Nat.le_refl _) (by have := Sorted_T hS; unfold pw_FU; omega) (fun _ _ _ => rfl) (fun j a b => by omega)
  have hE : KeepE σ1 τ := fun k hk => t2 k (by omega) (by omega)
  obtain ⟨σ2, m1, m2, m3, m4, m5⟩ := hst τ hE
  have hK2 := Keep_tr k4 (Keep_E m4)
  have hC2 := CInv_keep hC hK2
  obtain ⟨u1, u2, u3⟩ := hC2.2.2.2.2.2.2.1 d hd
  obtain ⟨r, σ3, e1, e2, e3⟩ := bf_l (Q := fun c => pb ev (σ.1 16) c && !M c) (W := wb σ nl (Fc d)) (HInv_keep hH hK2) m5 (fun c => by rw [pb_E hK2]) (by rw [wb_K hK2]) (show d < 16 by omega) u2 u3 pw_FU 0 σ2 (by omega) (by unfold pw_FU; omega) (fun _ _ _ => rfl) (fun j a => by omega)
  have hE3 : KeepE σ1 σ3 := KeepE_tr m4 (fun k hk => e2 k (by omega) (by omega))
  have hwl := wu_lt ev (fun c => pb ev (σ.1 16) c && !M c) (wb σ nl (Fc d)) 0
  have hwr := wu_rc (ev := ev) (Q := fun c => pb ev (σ.1 16) c && !M c) (W := wb σ nl (Fc d)) h6 (fun c hc => (pb_t.mp ((Bool.and_eq_true _ _ ▸ hc).1)).1)
  have hX : f_X10_before (nI c) (nI d) σ = (if (lg_cmp (lN (wu ev (fun c => pb ev (σ.1 16) c && !M c) (wb σ nl (Fc d)) 0)) (0 : Int64)) = 0 then (some ((1 : Int32), τ)) else (some ((0 : Int32), τ))) := by
    unfold f_X10_before
    rw [ha_in b3 hc b1, pz_bi_some, if_neg (by decide), ha_in b3 hd b1, pz_bi_some, if_neg (by decide), k1, pz_bv_some, if_pos (pz_in (show d < 8 by omega) (by decide)), nI_clamp (n := d) (by omega)]
    unfold f_X9_fillUntil
    rw [f5, t1, pz_bl_some]
  have hMm : f_X11_before (nI c) (nI d) τ = some (r, σ3) := by
    unfold f_X11_before
    rw [st_yes (by rw [hE 10 (by omega), k4 10 (by omega)]; exact b4) b1 hd, pz_bi_some, if_neg (by decide), m1, pz_bi_some, if_neg (by decide)]
    exact e1
  refine ⟨r, τ, σ3, ?_, hMm, NInv_E k3 hE3, Keep_tr k4 (Keep_E hE3)⟩
  rw [hX]
  rcases e3 with ⟨e3, e4⟩ | ⟨e3, t, e4, e5⟩
  · rw [e3, if_pos]
    rw [lzero (by omega)]
    rcases Nat.eq_zero_or_pos (wu ev (fun c => pb ev (σ.1 16) c && !M c) (wb σ nl (Fc d)) 0) with h | h
    · exact h
    · obtain ⟨e, a1, a2⟩ := hwr.mp h
      have hlt := (pb_t.mp ((Bool.and_eq_true _ _ ▸ (rc_Q a1)).1)).1.1
      rw [e4 e (Nat.zero_le _) hlt a1] at a2
      cases a2
  · rw [e3, if_neg]
    rw [lzero (by omega)]
    have := hwr.mpr ⟨t, e4, e5⟩
    omega
