-- PURE PART: the net is fresh behind refresh
theorem upd_same5 {f : Nat → Int32} {k : Nat} {v w : Int32} : upd (upd f k v) k w = upd f k w := by
  funext j
  unfold upd
  by_cases hj : j = k
  · rw [if_pos hj, if_pos hj]
  · rw [if_neg hj, if_neg hj, if_neg hj]
theorem pz_sort {σ : pw_St} {P : Nat → Bool} {w : Nat} (hw : w < 2401) (hP : ∀ c, c < 2401 → P c = true → c ≤ w) (e6 : σ.1 3 6 = nI w) (e23 : ∀ c, c < 2401 → σ.1 23 c = if P c then 1 else 0) : ∃ h2 : Nat → Int32, (∀ d, d < 2401 → P d = true → h2 (rk P d) = nI d) ∧ f_X6_sortBySize σ = some (pw_rw (pw_rw (pw_rw σ 3 (upd (σ.1 3) 5 (nI (ct P 2401)))) 24 (puR P (σ.1 24) 2401)) 22 h2) := by
  have hend : ∀ s, cs P s 2401 = cs P s (w + 1) := fun s => ct_end (by omega) (fun t a b => by
    cases hp : P t
    · rfl
    · have := hP t b hp; omega)
  have c1 : cnR P (σ.1 24) (w + 1) = cnR P (σ.1 24) 2401 := by funext s; unfold cnR; rw [hend]
  have c2 : puR P (σ.1 24) (w + 1) = puR P (σ.1 24) 2401 := by funext s; unfold puR; rw [hend]
  have h0 : (fun j => if j < 25 then (0 : Int32) else σ.1 24 j) = cnR P (σ.1 24) 0 := by funext s; unfold cnR; rfl
  have hs0 : cnR P (σ.1 24) 2401 = suR P (σ.1 24) 0 := by funext s; unfold suR; rw [if_neg (by omega)]
  have hs25 : suR P (σ.1 24) 25 = puR P (σ.1 24) 0 := by
    funext s
    unfold suR puR cnR
    by_cases h : s < 25
    · rw [if_pos h, if_pos h]; rfl
    · rw [if_neg h, if_neg h, if_neg h]
  have k1 := sb_count (σ := σ) (P := P) (σ.1 24) hw e6 e23 pw_FU 0 (by omega) (by unfold pw_FU; omega)
  have k2 := sb_sum (σ := σ) (P := P) (σ.1 24) (σ.1 3) pw_FU 0 (by omega) (by unfold pw_FU; omega)
  obtain ⟨h2, k3, k4⟩ := sb_put (σ := pw_rw σ 3 (upd (σ.1 3) 5 (nI (le_ P 25)))) (P := P) (w := w) (σ.1 24) hw (by rw [rw_get, pk_un (by decide)]; exact e6) (fun c hc => e23 c hc) pw_FU 0 (σ.1 22) (by omega) (by unfold pw_FU; omega) (fun d hd => by omega)
  refine ⟨h2, fun d hd hp => k3 d (by have := hP d hd hp; omega) hp, ?_⟩
  unfold f_X6_sortBySize
  rw [pz_fill, pz_bv_some, h0, pz_0, k1, c1]
  unfold b_X6_sortBySize_46
  rw [pz_lt, rw_sM, hs0]
  have e1 : pw_rw (pw_rw σ 24 (suR P (σ.1 24) 0)) 3 (upd ((pw_rw σ 24 (suR P (σ.1 24) 0)).1 3) 5 0) = pw_rw (pw_rw σ 24 (suR P (σ.1 24) 0)) 3 (upd (σ.1 3) 5 (nI (le_ P 0))) := rfl
  rw [e1, pz_0, k2, hs25, rw_swap (k := 24) (k2 := 3) (by decide)]
  have e2 : pw_rw (pw_rw (pw_rw σ 3 (upd (σ.1 3) 5 (nI (le_ P 25)))) 24 (puR P (σ.1 24) 0)) 22 (σ.1 22) = pw_rw (pw_rw σ 3 (upd (σ.1 3) 5 (nI (le_ P 25)))) 24 (puR P (σ.1 24) 0) := rw_id (σ := pw_rw (pw_rw σ 3 (upd (σ.1 3) 5 (nI (le_ P 25)))) 24 (puR P (σ.1 24) 0)) (k := 22)
  rw [e2] at k4
  rw [k4, c2, le_all]
def Fresh (σ : pw_St) (ev : Nat → Nat) : Prop := ∃ (T : Nat) (io : Nat → Nat), Sorted (pb ev (σ.1 16)) (σ.1 22) T io (fun s => le_ (pb ev (σ.1 16)) (s + 1)) ∧ σ.1 3 5 = nI T ∧ σ.1 3 6 = nI (wh ev) ∧ (∀ c, c < 2401 → σ.1 23 c = if pb ev (σ.1 16) c then 1 else 0) ∧ (∀ s, s ≤ 24 → σ.1 24 s = nI (le_ (pb ev (σ.1 16)) (s + 1)))
def alP (P : Nat → Bool) (f : Nat → Int32) (c : Nat) : Nat → Int32 := fun j => if j < c then (if P j then 1 else 0) else f j
theorem alP_s {P : Nat → Bool} {f : Nat → Int32} {c : Nat} : upd (alP P f c) c (if P c then 1 else 0) = alP P f (c + 1) := by
  funext j
  unfold upd alP
  by_cases hj : j = c
  · subst hj; rw [if_pos rfl, if_pos (show j < j + 1 by omega)]
  · rw [if_neg hj]
    try dsimp only
    by_cases hl : j < c
    · rw [if_pos hl, if_pos (show j < c + 1 by omega)]
    · rw [if_neg hl, if_neg (show ¬ j < c + 1 by omega)]
theorem nar0 : vp_nar .boolean 0 = 0 := by decide
theorem nar1 : vp_nar .boolean 1 = 1 := by decide
theorem rf_all {σ : pw_St} {ev : Nat → Nat} (f : Nat → Int32) (h6 : ∀ p, p < 4 → ev p ≤ 6) (e11 : ∀ p, p < 4 → σ.1 11 p = nI (ev p)) : ∀ (n c : Nat) (h : Nat → Int32), c ≤ 2401 → 2401 - c < n → ∃ h2 : Nat → Int32, l_X6_refresh_70 n (nI c) (pw_rw (pw_rw σ 25 h) 23 (alP (pb ev (σ.1 16)) f c)) = b_X6_refresh_113 (pw_rw (pw_rw σ 25 h2) 23 (alP (pb ev (σ.1 16)) f 2401)) := by
  intro n
  induction n with
  | zero => intro c h _ h2; omega
  | succ n ih =>
    intro c h h1 h2
    have hk : l_X6_refresh_70 (n + 1) (nI c) (pw_rw (pw_rw σ 25 h) 23 (alP (pb ev (σ.1 16)) f c)) = b_X6_refresh_70 (l_X6_refresh_70 n) (nI c) (pw_rw (pw_rw σ 25 h) 23 (alP (pb ev (σ.1 16)) f c)) := rfl
    rw [hk]
    unfold b_X6_refresh_70
    by_cases he : c = 2401
    · subst he
      rw [if_pos (by decide)]
      exact ⟨h, rfl⟩
    · have hc : c < 2401 := by omega
      rw [if_neg (show ¬ (2401 : Int32) ≤ nI c from nI_ge (b := 2401) hc (by decide))]
      have e11' : ∀ p, p < 4 → (pw_rw (pw_rw σ 25 h) 23 (alP (pb ev (σ.1 16)) f c)).1 11 p = nI (ev p) := e11
      have put : ∀ (h9 : Nat → Int32) (v : Int32), v = (if pb ev (σ.1 16) c then 1 else 0) → b_X6_refresh_106 (l_X6_refresh_70 n) (nI c) v (nI c) (pw_rw (pw_rw σ 25 h9) 23 (alP (pb ev (σ.1 16)) f c)) = l_X6_refresh_70 n (nI (c + 1)) (pw_rw (pw_rw σ 25 h9) 23 (alP (pb ev (σ.1 16)) f (c + 1))) := by
        intro h9 v hv
        unfold b_X6_refresh_106
        rw [if_pos (pz_in hc (by decide)), pz_lt, rw_sM, rw_get, rw_rw, nI_clamp (by omega), pz_1, nI_add]
        have : vp_nar .boolean v = if pb ev (σ.1 16) c then 1 else 0 := by
          rw [hv]
          cases pb ev (σ.1 16) c
          · exact nar0
          · exact nar1
        rw [this, alP_s]
      by_cases hC : isC ev c
      · rw [hc_yes h6 e11' hC, pz_bi_some, if_neg (by decide)]
        obtain ⟨k1, k2⟩ := pz_closed (σ := pw_rw (pw_rw σ 25 h) 23 (alP (pb ev (σ.1 16)) f c)) hc
        have sw : ∀ h9, pw_rw (pw_rw (pw_rw σ 25 h) 23 (alP (pb ev (σ.1 16)) f c)) 25 h9 = pw_rw (pw_rw σ 25 h9) 23 (alP (pb ev (σ.1 16)) f c) := fun h9 => by rw [rw_swap (k := 23) (k2 := 25) (by decide), rw_rw]
        by_cases hcl : clo (σ.1 16) c
        · rw [k1 hcl, pz_bi_some, if_neg (by decide), sw, put _ 1 (by rw [if_pos (pb_t.mpr ⟨hC, hcl⟩)])]
          exact ih (c + 1) _ (by omega) (by omega)
        · rw [k2 hcl, pz_bi_some, if_pos rfl, sw]
          unfold b_X6_refresh_105
          rw [put _ 0 (by rw [pb_f.mpr (fun hp => hcl hp.2)]; rfl)]
          exact ih (c + 1) _ (by omega) (by omega)
      · rw [hc_no h6 e11' (fun d hd hd2 hp => by
          have := (nI_eq (by omega) (by omega)).mp hd
          subst this; exact hC hp), pz_bi_some, if_pos rfl]
        unfold b_X6_refresh_105
        rw [put _ 0 (by rw [pb_f.mpr (fun hp => hC hp.1)]; rfl)]
        exact ih (c + 1) _ (by omega) (by omega)
def wp (ev : Nat → Nat) : Nat → Nat
  | 0 => 0
  | p + 1 => wp ev p + ev p * un p
theorem rf_wh {σ : pw_St} {ev : Nat → Nat} (r3 : Nat → Int32) (e11 : ∀ p, p < 4 → σ.1 11 p = nI (ev p)) : ∀ (n p : Nat), p ≤ 4 → 4 - p < n → l_X6_refresh_33 n (nI p) (pw_rw σ 3 (upd r3 6 (nI (wp ev p)))) = l_X6_refresh_70 pw_FU (nI 0) (pw_rw σ 3 (upd r3 6 (nI (wp ev 4)))) := by
  intro n
  induction n with
  | zero => intro p _ h; omega
  | succ n ih =>
    intro p h1 h2
    show b_X6_refresh_33 (l_X6_refresh_33 n) _ _ = _
    unfold b_X6_refresh_33
    by_cases h : p = 4
    · subst h
      rw [if_pos (by decide)]
      rfl
    · have hp : p < 4 := by omega
      rw [if_neg (show ¬ (4 : Int32) ≤ nI p from nI_ge (b := 4) hp (by decide)), if_pos (pz_in hp (by decide)), if_pos (pz_in hp (by decide)), pz_lt, rw_sM, rw_get, rw_rw, nI_clamp (by omega), pk_us, pz_wt hp, upd_same5, pz_1, nI_add]
      rw [show (pw_rw σ 3 (upd r3 6 (nI (wp ev p)))).1 11 p = nI (ev p) from e11 p hp, pk_mul, nI_add]
      exact ih (p + 1) (by omega) (by omega)
theorem wp_wh (ev : Nat → Nat) : wp ev 4 = wh ev := by
  show 0 + ev 0 * un 0 + ev 1 * un 1 + ev 2 * un 2 + ev 3 * un 3 = _
  unfold wh un
  omega
/-- what making the net anew leaves as it was -/
def NFr (σ σ2 : pw_St) : Prop := (∀ k, k ≠ 3 → k ≠ 22 → k ≠ 23 → k ≠ 24 → k ≠ 25 → σ2.1 k = σ.1 k) ∧ σ2.2 = σ.2
def NInv (σ : pw_St) (ev : Nat → Nat) (n : Nat) : Prop := ∃ ch, ch ≤ n ∧ σ.1 1 10 = nI ch ∧ ((σ.1 3 7 = -1 ∨ ∃ c2, c2 < ch ∧ σ.1 3 7 = nI c2) ∨ (σ.1 3 7 = nI ch ∧ Fresh σ ev))
theorem pz_fresh {σ : pw_St} {ev : Nat → Nat} {n : Nat} (h6 : ∀ p, p < 4 → ev p ≤ 6) (e11 : ∀ p, p < 4 → σ.1 11 p = nI (ev p)) (hn : n < 2 ^ 31) (hN : NInv σ ev n) : ∃ σ2, f_X10_freshNet σ = some σ2 ∧ Fresh σ2 ev ∧ NInv σ2 ev n ∧ NFr σ σ2 := by
  obtain ⟨ch, n1, n2, n3⟩ := hN
  unfold f_X10_freshNet f_X6_refresh
  rcases n3 with n3 | ⟨n3, n4⟩
  · have hne : ¬ σ.1 3 7 = σ.1 1 10 := by
      rw [n2]
      rcases n3 with n3 | ⟨c2, a, b⟩
      · rw [n3]
        exact fun e => m1_ne (by omega) e.symm
      · rw [b]
        exact fun e => by have := (nI_eq (by omega) (by omega)).mp e; omega
    rw [if_neg hne, pz_lt, pz_lt]
    have s0 : pw_sM (pw_sM σ 3 7 (σ.1 1 10)) 3 6 0 = pw_rw σ 3 (upd (upd (σ.1 3) 7 (nI ch)) 6 (nI (wp ev 0))) := by
      rw [rw_sM, rw_sM, rw_get, rw_rw, n2]; rfl
    rw [s0, pz_0, rf_wh (σ := σ) (upd (σ.1 3) 7 (nI ch)) e11 pw_FU 0 (by omega) (by unfold pw_FU; omega), wp_wh]
    obtain ⟨σa, ha⟩ : ∃ σa, σa = pw_rw σ 3 (upd (upd (σ.1 3) 7 (nI ch)) 6 (nI (wh ev))) := ⟨_, rfl⟩
    rw [← ha]
    obtain ⟨h2, k1⟩ := rf_all (σ := σa) (ev := ev) (σa.1 23) h6 (by rw [ha]; exact e11) pw_FU 0 (σa.1 25) (by omega) (by unfold pw_FU; omega)
    have e0 : pw_rw (pw_rw σa 25 (σa.1 25)) 23 (alP (pb ev (σa.1 16)) (σa.1 23) 0) = σa := by
      rw [rw_id, show alP (pb ev (σa.1 16)) (σa.1 23) 0 = σa.1 23 by funext j; unfold alP; rw [if_neg (by omega)], rw_id]
    rw [e0] at k1
    rw [k1]
    unfold b_X6_refresh_113
    obtain ⟨σb, hb⟩ : ∃ σb, σb = pw_rw (pw_rw σa 25 h2) 23 (alP (pb ev (σa.1 16)) (σa.1 23) 2401) := ⟨_, rfl⟩
    rw [← hb]
    have q6 : σb.1 3 6 = nI (wh ev) := by rw [hb, ha, rw_ne (by decide), rw_ne (by decide), rw_get]; exact pk_us
    have q23 : ∀ c, c < 2401 → σb.1 23 c = if pb ev (σ.1 16) c then 1 else 0 := by
      intro c hc
      rw [hb, rw_get]
      unfold alP
      rw [if_pos hc, ha]
      rfl
    obtain ⟨h3, k2, k3⟩ := pz_sort (σ := σb) (P := pb ev (σ.1 16)) (wh_lt h6) (fun c hc hp => isC_le (pb_t.mp hp).1) q6 q23
    obtain ⟨σc, hσc⟩ : ∃ σc, σc = pw_rw (pw_rw (pw_rw σb 3 (upd (σb.1 3) 5 (nI (ct (pb ev (σ.1 16)) 2401)))) 24 (puR (pb ev (σ.1 16)) (σb.1 24) 2401)) 22 h3 := ⟨_, rfl⟩
    rw [k3, pz_bv_some, pz_bv_some, ← hσc]
    have c16 : σc.1 16 = σ.1 16 := by rw [hσc, rw_ne (by decide), rw_ne (by decide), rw_ne (by decide), hb, rw_ne (by decide), rw_ne (by decide), ha, rw_ne (by decide)]
    have c22 : σc.1 22 = h3 := by rw [hσc, rw_get]
    have c23 : σc.1 23 = σb.1 23 := by rw [hσc, rw_ne (by decide), rw_ne (by decide), rw_ne (by decide)]
    have c24 : σc.1 24 = puR (pb ev (σ.1 16)) (σb.1 24) 2401 := by rw [hσc, rw_ne (by decide), rw_get]
    have c3 : σc.1 3 = upd (σb.1 3) 5 (nI (ct (pb ev (σ.1 16)) 2401)) := by rw [hσc, rw_ne (by decide), rw_ne (by decide), rw_get]
    have c1 : σc.1 1 = σ.1 1 := by rw [hσc, rw_ne (by decide), rw_ne (by decide), rw_ne (by decide), hb, rw_ne (by decide), rw_ne (by decide), ha, rw_ne (by decide)]
    have b3 : σb.1 3 7 = nI ch := by rw [hb, rw_ne (by decide), rw_ne (by decide), ha, rw_get, pk_un (by decide)]; exact pk_us
    have hF : Fresh σc ev := by
      unfold Fresh
      rw [c16, c22, c23, c24, c3]
      refine ⟨_, _, sorted_of (P := pb ev (σ.1 16)) (f := h3) k2, pk_us, ?_, q23, ?_⟩
      · rw [pk_un (by decide)]; exact q6
      · intro s hs
        unfold puR
        rw [if_pos (by omega), le_s]
    refine ⟨σc, rfl, hF, ⟨ch, n1, by rw [c1]; exact n2, Or.inr ⟨by rw [c3, pk_un (by decide)]; exact b3, hF⟩⟩, ?_⟩
    subst hσc
    subst hb
    subst ha
    refine ⟨fun k a1 a2 a3 a4 a5 => ?_, rfl⟩
    rw [rw_ne a2, rw_ne a4, rw_ne a1, rw_ne a3, rw_ne a5, rw_ne a1]
  · rw [n3, n2, if_pos rfl, pz_bv_some]
    exact ⟨σ, rfl, n4, ⟨ch, n1, n2, Or.inr ⟨n3, n4⟩⟩, fun k _ _ _ _ _ => rfl, rfl⟩
