-- PURE PART: the class's fill, the reference's count
def pw_rl (σ : pw_St) (k : Nat) (f : Nat → Int64) : pw_St := (σ.1, va_up σ.2 k f)
theorem rl_sL {σ : pw_St} {k j : Nat} {v : Int64} : pw_sL σ k j v = pw_rl σ k (vp_updL (σ.2 k) j v) := rfl
theorem rl_get {σ : pw_St} {k : Nat} {f : Nat → Int64} : (pw_rl σ k f).2 k = f := by simp [pw_rl, va_up]
theorem rl_ne {σ : pw_St} {k k2 : Nat} {f : Nat → Int64} (h : k2 ≠ k) : (pw_rl σ k f).2 k2 = σ.2 k2 := by simp [pw_rl, va_up, h]
theorem rl_1 {σ : pw_St} {k : Nat} {f : Nat → Int64} : (pw_rl σ k f).1 = σ.1 := rfl
theorem fill_l {σ : pw_St} {ev : Nat → Nat} {P B Q : Nat → Bool} {T : Nat} {io en : Nat → Nat} (h6 : ∀ p, p < 4 → ev p ≤ 6) (e11 : ∀ p, p < 4 → σ.1 11 p = nI (ev p)) (hS : Sorted P (σ.1 22) T io en) (e36 : σ.1 3 6 = nI (wh ev)) (e23 : ∀ c, c < 2401 → σ.1 23 c = if P c then 1 else 0) (h30 : ∀ t, t < 2401 → P t = true → σ.1 30 t = if B t then 1 else 0) (hQ : ∀ c, Q c = (P c && !B c)) (h0 : P 0 = true) : ∀ (n k : Nat) (τ : pw_St), k ≤ T → k < n → τ.1 = σ.1 → (∀ j, k ≤ j → j < T → τ.2 32 (io j) = lN (wy ev Q (io j))) → ∃ τ2, l_X9_fill_7 n (nI k - 1) τ = some (lN (wy ev Q 0), τ2) ∧ τ2.1 = σ.1 ∧ (∀ c, c < 2401 → P c = true → τ2.2 32 c = lN (wy ev Q c)) := by
  have hT := Sorted_T hS
  have hQP : ∀ c, Q c = true → P c = true := fun c hc => by rw [hQ] at hc; exact (Bool.and_eq_true _ _ ▸ hc).1
  have hwl := wh_lt h6
  intro n
  induction n with
  | zero => intro k τ _ h; omega
  | succ n ih =>
    intro k τ h1 h2 hr hj
    rw [show l_X9_fill_7 (n + 1) (nI k - 1) τ = b_X9_fill_7 (l_X9_fill_7 n) (nI k - 1) τ from rfl]
    unfold b_X9_fill_7
    by_cases h : k = 0
    · subst h
      have hall : ∀ c, c < 2401 → P c = true → τ.2 32 c = lN (wy ev Q c) := by
        intro c hc hP
        obtain ⟨j, hj1, hj2⟩ := hS.2.2.2.1 c hc hP
        rw [← hj2]; exact hj j (by omega) hj1
      rw [if_pos (by decide)]
      unfold b_X9_fill_63
      rw [if_pos (by decide)]
      refine ⟨τ, ?_, hr, hall⟩
      rw [show τ.2 32 (0 : Int32).toNatClampNeg = lN (wy ev Q 0) from hall 0 (by omega) h0]
    · have hk : k - 1 < T := by omega
      obtain ⟨s1, s2, s3⟩ := hS.2.1 (k - 1) hk
      rw [hr, pz_m1 (by omega), if_neg (nI_pos (by omega)), if_pos (pz_in (by omega) (by decide)), nI_clamp (n := k - 1) (by omega), s1, if_pos (pz_in s2 (by decide)), nI_clamp (n := io (k - 1)) (by omega), h30 _ s2 s3, e36]
      have key56 : ∀ v : Int64, v = lN (wy ev Q (io (k - 1))) → ∃ τ2, b_X9_fill_56 (l_X9_fill_7 n) (nI (k - 1)) v (nI (io (k - 1))) τ = some (lN (wy ev Q 0), τ2) ∧ τ2.1 = σ.1 ∧ (∀ c, c < 2401 → P c = true → τ2.2 32 c = lN (wy ev Q c)) := by
        intro v hv
        subst hv
        unfold b_X9_fill_56
        rw [if_pos (pz_in s2 (by decide)), pz_lt, nI_clamp (n := io (k - 1)) (by omega), rl_sL, ← Int32.sub_eq_add_neg]
        refine ih (k - 1) _ (by omega) (by omega) hr (fun j hj1 hj2 => ?_)
        rw [rl_get]
        by_cases hjk : j = k - 1
        · subst hjk; exact pk_uLs
        · rw [pk_uLn (fun e => hjk (Sorted_inj hS hj2 hk e))]
          exact hj j (by omega) hj2
      by_cases hB : B (io (k - 1)) = true
      · rw [hB, mk1, if_neg (by decide)]
        exact key56 0 (by rw [wy_no (by rw [hQ, hB]; simp)]; rfl)
      · have hBf : B (io (k - 1)) = false := by simpa using hB
        have hQt : Q (io (k - 1)) = true := by rw [hQ, s3, hBf]; rfl
        rw [hBf, mk0, if_pos rfl]
        by_cases hw : io (k - 1) = wh ev
        · rw [if_pos (by rw [hw])]
          exact key56 1 (by rw [hw, wy_wh (by rw [← hw]; exact hQt)]; rfl)
        · rw [if_neg (fun e => hw ((nI_eq (by omega) (by omega)).mp e))]
          have hso := pz_sumOver (σ := τ) (P := P) (Q := Q) (c := io (k - 1)) h6 (by rw [hr]; exact e11) (by rw [hr]; exact e23) hQP s2 (fun p hp hd hP => by
            have h6p := h6 p hp
            have hl := up_lt s2 hp (show dg (io (k - 1)) p < 6 by omega)
            obtain ⟨j, hj1, hj2⟩ := hS.2.2.2.1 _ hl hP
            have hky := key_up (c := io (k - 1)) hp (show dg (io (k - 1)) p < 6 by omega)
            have hjk : k ≤ j := by
              rcases Nat.lt_trichotomy j (k - 1) with hl | hl | hl
              · have := hS.2.2.1 j (k - 1) hl hk; rw [hj2] at this; omega
              · rw [hl] at hj2; rw [← hj2] at hky; omega
              · omega
            rw [← hj2]; exact hj j hjk hj1)
          rw [hso, pz_bl_some]
          exact key56 _ (by rw [wy_eq h6 hQt hw])
theorem pz_wfill {σ : pw_St} {ev : Nat → Nat} {P B Q : Nat → Bool} {T : Nat} {io en : Nat → Nat} (h6 : ∀ p, p < 4 → ev p ≤ 6) (e11 : ∀ p, p < 4 → σ.1 11 p = nI (ev p)) (hS : Sorted P (σ.1 22) T io en) (e35 : σ.1 3 5 = nI T) (e36 : σ.1 3 6 = nI (wh ev)) (e23 : ∀ c, c < 2401 → σ.1 23 c = if P c then 1 else 0) (h30 : ∀ t, t < 2401 → P t = true → σ.1 30 t = if B t then 1 else 0) (hQ : ∀ c, Q c = (P c && !B c)) (h0 : P 0 = true) : ∃ σ2, f_X9_fill σ = some (lN (wy ev Q 0), σ2) ∧ σ2.1 = σ.1 ∧ (∀ c, c < 2401 → P c = true → σ2.2 32 c = lN (wy ev Q c)) := by
  unfold f_X9_fill
  rw [e35]
  exact fill_l h6 e11 hS e36 e23 h30 hQ h0 pw_FU T σ (Nat.le_refl _) (by have := Sorted_T hS; unfold pw_FU; omega) rfl (fun j a b => by omega)
theorem wipe_l {σ : pw_St} {P : Nat → Bool} {T : Nat} {io en : Nat → Nat} (hS : Sorted P (σ.1 22) T io en) (e5 : σ.1 3 5 = nI T) : ∀ (n k : Nat) (τ : pw_St), k ≤ T → T - k < n → (∀ r, r ≠ 30 → τ.1 r = σ.1 r) → τ.2 = σ.2 → (∀ j, j < k → τ.1 30 (io j) = 0) → ∃ τ2, l_X4_wipe_2 n (nI k) τ = some τ2 ∧ (∀ r, r ≠ 30 → τ2.1 r = σ.1 r) ∧ τ2.2 = σ.2 ∧ ∀ j, j < T → τ2.1 30 (io j) = 0 := by
  have hT := Sorted_T hS
  intro n
  induction n with
  | zero => intro k τ _ h; omega
  | succ n ih =>
    intro k τ h1 h2 hr hr2 hj
    rw [show l_X4_wipe_2 (n + 1) (nI k) τ = b_X4_wipe_2 (l_X4_wipe_2 n) (nI k) τ from rfl]
    unfold b_X4_wipe_2
    rw [hr 3 (by omega), e5]
    by_cases h : k = T
    · subst h
      rw [if_pos (nI_le (Nat.le_refl _) (by omega))]
      exact ⟨τ, rfl, hr, hr2, hj⟩
    · have hk : k < T := by omega
      obtain ⟨s1, s2, s3⟩ := hS.2.1 k hk
      rw [if_neg (nI_ge hk (by omega)), if_pos (pz_in (by omega) (by decide)), nI_clamp (by omega), hr 22 (by omega), s1, if_pos (pz_in s2 (by decide)), pz_lt, nI_clamp (by omega), nar0, rw_sM, nI_1]
      refine ih (k + 1) _ (by omega) (by omega) (fun r a => by rw [rw_ne a]; exact hr r a) hr2 (fun j hjk => ?_)
      rw [rw_get]
      by_cases hjk2 : j = k
      · subst hjk2; exact pk_us
      · rw [pk_un (fun e => hjk2 (Sorted_inj hS (by omega) hk e))]
        exact hj j (by omega)
theorem open_l : ∀ (n c : Nat) (σ : pw_St), c ≤ 2401 → 2401 - c < n → (∀ j, j < c → σ.1 44 j = 0) → ∃ r, l_X11_open_2 n (nI c) σ = some (pw_rw σ 44 r) ∧ ∀ j, j < 2401 → r j = 0 := by
  intro n
  induction n with
  | zero => intro c σ _ h; omega
  | succ n ih =>
    intro c σ h1 h2 hj
    rw [show l_X11_open_2 (n + 1) (nI c) σ = b_X11_open_2 (l_X11_open_2 n) (nI c) σ from rfl]
    unfold b_X11_open_2
    by_cases h : c = 2401
    · subst h
      rw [if_pos (by decide)]
      exact ⟨σ.1 44, by rw [rw_id], hj⟩
    · have hc : c < 2401 := by omega
      rw [if_neg (show ¬ (2401 : Int32) ≤ nI c from nI_ge (b := 2401) hc (by decide)), if_pos (pz_in hc (by decide)), pz_lt, nI_clamp (by omega), nar0, rw_sM, nI_1]
      obtain ⟨r, k1, k2⟩ := ih (c + 1) (pw_rw σ 44 (upd (σ.1 44) c 0)) (by omega) (by omega) (fun j hjc => by
        rw [rw_get]
        by_cases hjc2 : j = c
        · subst hjc2; exact pk_us
        · rw [pk_un hjc2]; exact hj j (by omega))
      exact ⟨r, by rw [k1, rw_rw], k2⟩
theorem pz_open (σ : pw_St) : ∃ r, f_X11_open σ = some (pw_rw σ 44 r) ∧ ∀ j, j < 2401 → r j = 0 := by
  unfold f_X11_open
  exact open_l pw_FU 0 σ (by omega) (by unfold pw_FU; omega) (fun j hj => by omega)
theorem who_l {σ : pw_St} {np : Nat} {ev : Nat → Nat} (hM : CutM σ np ev) : ∀ (n p : Nat), p ≤ np → np - p < n → l_X11_whole_4 n (nI (wp ev p)) (nI p) σ = some (nI (wp ev np), σ) := by
  obtain ⟨m1, m2, m3, m4, m5⟩ := hM
  intro n
  induction n with
  | zero => intro p _ h; omega
  | succ n ih =>
    intro p h1 h2
    rw [show l_X11_whole_4 (n + 1) (nI (wp ev p)) (nI p) σ = b_X11_whole_4 (l_X11_whole_4 n) (nI (wp ev p)) (nI p) σ from rfl]
    unfold b_X11_whole_4
    rw [m4]
    by_cases h : p = np
    · subst h
      rw [if_pos (nI_le (Nat.le_refl _) (by omega))]
    · have hp : p < np := by omega
      rw [if_neg (nI_ge hp (by omega)), pz_unit σ (by omega), pz_bi_some, if_pos (pz_in (by omega) (by decide)), nI_clamp (by omega), m5 p (by omega), pk_mul, nI_add, nI_1]
      have := ih (p + 1) (by omega) (by omega)
      rw [show wp ev (p + 1) = wp ev p + un p * ev p from by rw [Nat.mul_comm]; rfl] at this
      exact this
