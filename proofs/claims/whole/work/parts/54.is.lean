-- PURE PART: is
def Kp (ev : Nat → Nat) (P M : Nat → Bool) (c p : Nat) : Prop := dg c p < ev p → P (c + un p) = true → M (c + un p) = true
def Kc (ev : Nat → Nat) (P M : Nat → Bool) (c : Nat) : Prop := M c = true → ∀ p, p < 4 → Kp ev P M c p
theorem ak_in {σ : pw_St} {ev : Nat → Nat} {P M : Nat → Bool} {c : Nat} (h6 : ∀ p, p < 4 → ev p ≤ 6) (e11 : ∀ p, p < 4 → σ.1 11 p = nI (ev p)) (e23 : ∀ c, c < 2401 → σ.1 23 c = if P c then 1 else 0) (h30 : ∀ t, t < 2401 → P t = true → σ.1 30 t = if M t then 1 else 0) (hc : c < 2401) (hP : P c = true) (hm : M c = true) (k2 : Int32 → pw_St → Option (Int32 × pw_St)) (x2 : Int32) : ∀ (n p : Nat), p ≤ 4 → 4 - p < n → ((∀ q, p ≤ q → q < 4 → Kp ev P M c q) → l_X4_areKept_20 k2 n x2 (nI c) (nI p) σ = k2 (x2 + 1) σ) ∧ ((∃ q, p ≤ q ∧ q < 4 ∧ ¬ Kp ev P M c q) → l_X4_areKept_20 k2 n x2 (nI c) (nI p) σ = some (0, σ)) := by
  intro n
  induction n with
  | zero => intro p _ h; omega
  | succ n ih =>
    intro p h1 h2
    rw [show l_X4_areKept_20 k2 (n + 1) x2 (nI c) (nI p) σ = b_X4_areKept_20 k2 (l_X4_areKept_20 k2 n) x2 (nI c) (nI p) σ from rfl]
    unfold b_X4_areKept_20
    by_cases h : p = 4
    · subst h
      rw [if_pos (by decide)]
      exact ⟨fun _ => rfl, fun ⟨q, a, b, _⟩ => by omega⟩
    · have hp : p < 4 := by omega
      obtain ⟨i1, i2⟩ := ih (p + 1) (by omega) (by omega)
      rw [if_neg (show ¬ (4 : Int32) ≤ nI p from nI_ge (b := 4) hp (by decide)), if_pos (pz_in hc (by decide)), nI_clamp (n := c) (by omega), h30 c hc hP, hm, mk1, if_neg (by decide), pz_up h6 e11 e23 hc hp]
      have skip : Kp ev P M c p → ((∀ q, p ≤ q → q < 4 → Kp ev P M c q) → l_X4_areKept_20 k2 n x2 (nI c) (nI p + 1) σ = k2 (x2 + 1) σ) ∧ ((∃ q, p ≤ q ∧ q < 4 ∧ ¬ Kp ev P M c q) → l_X4_areKept_20 k2 n x2 (nI c) (nI p + 1) σ = some (0, σ)) := by
        intro hk
        rw [nI_1]
        refine ⟨fun hh => i1 (fun q a b => hh q (by omega) b), fun ⟨q, a, b, hh⟩ => i2 ⟨q, ?_, b, hh⟩⟩
        by_cases e : q = p
        · subst e; exact absurd hk hh
        · omega
      by_cases hu : dg c p < ev p ∧ P (c + un p) = true
      · have hl := up_lt hc hp (show dg c p < 6 by have := h6 p hp; omega)
        rw [if_pos hu, pz_bi_some, if_neg (nm1 (by omega)), if_pos (pz_in hl (by decide)), nI_clamp (n := c + un p) (by omega), h30 _ hl hu.2]
        by_cases hM : M (c + un p) = true
        · rw [hM, mk1, if_neg (by decide)]
          exact skip (fun _ _ => hM)
        · have hMf : M (c + un p) = false := by simpa using hM
          rw [hMf, mk0, if_pos rfl, if_pos pz_isb0]
          refine ⟨fun hh => absurd (hh p (Nat.le_refl _) hp hu.1 hu.2) hM, fun _ => rfl⟩
      · rw [if_neg hu, pz_bi_some, if_pos rfl]
        exact skip (fun a b => absurd ⟨a, b⟩ hu)
theorem ak_out {σ : pw_St} {ev : Nat → Nat} {P M : Nat → Bool} {T : Nat} {io en : Nat → Nat} (h6 : ∀ p, p < 4 → ev p ≤ 6) (e11 : ∀ p, p < 4 → σ.1 11 p = nI (ev p)) (e23 : ∀ c, c < 2401 → σ.1 23 c = if P c then 1 else 0) (h30 : ∀ t, t < 2401 → P t = true → σ.1 30 t = if M t then 1 else 0) (hS : Sorted P (σ.1 22) T io en) (e5 : σ.1 3 5 = nI T) : ∀ (n k : Nat), k ≤ T → T - k < n → ((∀ j, k ≤ j → j < T → Kc ev P M (io j)) → l_X4_areKept_2 n (nI k) σ = some (1, σ)) ∧ ((∃ j, k ≤ j ∧ j < T ∧ ¬ Kc ev P M (io j)) → l_X4_areKept_2 n (nI k) σ = some (0, σ)) := by
  have hT := Sorted_T hS
  intro n
  induction n with
  | zero => intro k _ h; omega
  | succ n ih =>
    intro k h1 h2
    rw [show l_X4_areKept_2 (n + 1) (nI k) σ = b_X4_areKept_2 (l_X4_areKept_2 n) (nI k) σ from rfl]
    unfold b_X4_areKept_2
    rw [e5]
    by_cases h : k = T
    · subst h
      rw [if_pos (nI_le (Nat.le_refl _) (by omega)), if_pos pz_isb1]
      exact ⟨fun _ => rfl, fun ⟨j, a, b, _⟩ => by omega⟩
    · have hk : k < T := by omega
      obtain ⟨s1, s2, s3⟩ := hS.2.1 k hk
      obtain ⟨i1, i2⟩ := ih (k + 1) (by omega) (by omega)
      rw [if_neg (nI_ge hk (by omega)), if_pos (pz_in (by omega) (by decide)), nI_clamp (n := k) (by omega), s1]
      have skip : Kc ev P M (io k) → ((∀ j, k ≤ j → j < T → Kc ev P M (io j)) → l_X4_areKept_2 n (nI k + 1) σ = some (1, σ)) ∧ ((∃ j, k ≤ j ∧ j < T ∧ ¬ Kc ev P M (io j)) → l_X4_areKept_2 n (nI k + 1) σ = some (0, σ)) := by
        intro hk9
        rw [nI_1]
        refine ⟨fun hh => i1 (fun q a b => hh q (by omega) b), fun ⟨q, a, b, hh⟩ => i2 ⟨q, ?_, b, hh⟩⟩
        by_cases e : q = k
        · subst e; exact absurd hk9 hh
        · omega
      by_cases hm : M (io k) = true
      · obtain ⟨j1, j2⟩ := ak_in h6 e11 e23 h30 s2 s3 hm (l_X4_areKept_2 n) (nI k) pw_FU 0 (by omega) (by unfold pw_FU; omega)
        by_cases hK : ∀ q, 0 ≤ q → q < 4 → Kp ev P M (io k) q
        · rw [pz_0, j1 hK]
          exact skip (fun _ p hp => hK p (Nat.zero_le _) hp)
        · have hex : ∃ q, 0 ≤ q ∧ q < 4 ∧ ¬ Kp ev P M (io k) q := by
            by_cases hh : ∃ q, 0 ≤ q ∧ q < 4 ∧ ¬ Kp ev P M (io k) q
            · exact hh
            · refine absurd (fun q a b => ?_) hK
              by_cases h9 : Kp ev P M (io k) q
              · exact h9
              · exact absurd ⟨q, a, b, h9⟩ hh
          rw [pz_0, j2 hex]
          exact ⟨fun hh => absurd (fun q _ b => hh k (Nat.le_refl _) hk hm q b) hK, fun _ => rfl⟩
      · have hmf : M (io k) = false := by simpa using hm
        rw [show l_X4_areKept_20 (l_X4_areKept_2 n) pw_FU (nI k) (nI (io k)) 0 σ = b_X4_areKept_20 (l_X4_areKept_2 n) (l_X4_areKept_20 (l_X4_areKept_2 n) 2999) (nI k) (nI (io k)) 0 σ from rfl]
        unfold b_X4_areKept_20
        rw [if_neg (by decide), if_pos (pz_in s2 (by decide)), nI_clamp (n := io k) (by omega), h30 _ s2 s3, hmf, mk0, if_pos rfl]
        exact skip (fun e => absurd e hm)
-- the reference's
theorem ik_in {σ : pw_St} {np : Nat} {ev : Nat → Nat} {M : Nat → Bool} {c : Nat} (hq : QI σ np ev) (h51 : ∀ t, t < 2401 → σ.1 51 t = if M t then 1 else 0) (hc : c < 2401) (hm : M c = true) (k2 : Int32 → pw_St → Option (Int32 × pw_St)) : ∀ (n p : Nat), p ≤ np → np - p < n → ((∀ q, p ≤ q → q < np → Kp ev (pb ev (σ.1 16)) M c q) → l_X11_isKept_11 k2 n (nI c) (nI p) σ = k2 (nI (c + 1)) σ) ∧ ((∃ q, p ≤ q ∧ q < np ∧ ¬ Kp ev (pb ev (σ.1 16)) M c q) → l_X11_isKept_11 k2 n (nI c) (nI p) σ = some (0, σ)) := by
  obtain ⟨m1, m2, m3, m4, m5⟩ := hq.1
  intro n
  induction n with
  | zero => intro p _ h; omega
  | succ n ih =>
    intro p h1 h2
    rw [show l_X11_isKept_11 k2 (n + 1) (nI c) (nI p) σ = b_X11_isKept_11 k2 (l_X11_isKept_11 k2 n) (nI c) (nI p) σ from rfl]
    unfold b_X11_isKept_11
    rw [m4, nI_1]
    by_cases h : p = np
    · subst h
      rw [if_pos (nI_le (Nat.le_refl _) (by omega))]
      exact ⟨fun _ => rfl, fun ⟨q, a, b, _⟩ => by omega⟩
    · have hp : p < np := by omega
      have hp4 : p < 4 := by omega
      have d := dg_lt c p
      have h6p := m2 p hp4
      obtain ⟨i1, i2⟩ := ih (p + 1) (by omega) (by omega)
      have skip : Kp ev (pb ev (σ.1 16)) M c p → ((∀ q, p ≤ q → q < np → Kp ev (pb ev (σ.1 16)) M c q) → l_X11_isKept_11 k2 n (nI c) (nI p + 1) σ = k2 (nI (c + 1)) σ) ∧ ((∃ q, p ≤ q ∧ q < np ∧ ¬ Kp ev (pb ev (σ.1 16)) M c q) → l_X11_isKept_11 k2 n (nI c) (nI p + 1) σ = some (0, σ)) := by
        intro hk
        rw [nI_1]
        refine ⟨fun hh => i1 (fun q a b => hh q (by omega) b), fun ⟨q, a, b, hh⟩ => i2 ⟨q, ?_, b, hh⟩⟩
        by_cases e : q = p
        · subst e; exact absurd hk hh
        · omega
      rw [if_neg (nI_ge hp (by omega)), if_pos (pz_in hc (by decide)), nI_clamp (n := c) (by omega), h51 c hc, hm, mk1, if_neg (by decide), pz_part σ (by omega) hp4, pz_bi_some, if_pos (pz_in hp4 (by decide)), nI_clamp (n := p) (by omega), m5 p hp4]
      by_cases hd : dg c p < ev p
      · have hl := up_lt hc hp4 (show dg c p < 6 by omega)
        rw [if_neg (nI_ge hd (by omega)), pz_unit σ hp4, pz_bi_some, nI_add]
        by_cases hP : pb ev (σ.1 16) (c + un p) = true
        · rw [ips_t hq hP, pz_bi_some, if_neg (by decide), pz_unit σ hp4, pz_bi_some, nI_add, if_pos (pz_in hl (by decide)), nI_clamp (n := c + un p) (by omega), h51 _ hl]
          by_cases hM : M (c + un p) = true
          · rw [hM, mk1, if_neg (by decide)]
            exact skip (fun _ _ => hM)
          · have hMf : M (c + un p) = false := by simpa using hM
            rw [hMf, mk0, if_pos rfl, if_pos pz_isb0]
            exact ⟨fun hh => absurd (hh p (Nat.le_refl _) hp hd hP) hM, fun _ => rfl⟩
        · have hPf : pb ev (σ.1 16) (c + un p) = false := by simpa using hP
          rw [ips_f hq hl hPf, pz_bi_some, if_pos rfl]
          exact skip (fun _ b => absurd b hP)
      · rw [if_pos (nI_le (by omega) (by omega))]
        exact skip (fun a _ => absurd a hd)
theorem ik_out {σ : pw_St} {np : Nat} {ev : Nat → Nat} {M : Nat → Bool} (hq : QI σ np ev) (h51 : ∀ t, t < 2401 → σ.1 51 t = if M t then 1 else 0) : ∀ (n c : Nat), c ≤ 2401 → 2401 - c < n → ((∀ j, c ≤ j → j < 2401 → Kc ev (pb ev (σ.1 16)) M j) → l_X11_isKept_2 n (nI c) σ = some (1, σ)) ∧ ((∃ j, c ≤ j ∧ j < 2401 ∧ ¬ Kc ev (pb ev (σ.1 16)) M j) → l_X11_isKept_2 n (nI c) σ = some (0, σ)) := by
  obtain ⟨m1, m2, m3, m4, m5⟩ := id hq.1
  intro n
  induction n with
  | zero => intro k _ h; omega
  | succ n ih =>
    intro c h1 h2
    rw [show l_X11_isKept_2 (n + 1) (nI c) σ = b_X11_isKept_2 (l_X11_isKept_2 n) (nI c) σ from rfl]
    unfold b_X11_isKept_2
    by_cases h : c = 2401
    · subst h
      rw [if_pos (by decide), if_pos pz_isb1]
      exact ⟨fun _ => rfl, fun ⟨j, a, b, _⟩ => by omega⟩
    · have hc : c < 2401 := by omega
      obtain ⟨i1, i2⟩ := ih (c + 1) (by omega) (by omega)
      rw [if_neg (show ¬ (2401 : Int32) ≤ nI c from nI_ge (b := 2401) hc (by decide))]
      have skip : Kc ev (pb ev (σ.1 16)) M c → ((∀ j, c ≤ j → j < 2401 → Kc ev (pb ev (σ.1 16)) M j) → l_X11_isKept_2 n (nI (c + 1)) σ = some (1, σ)) ∧ ((∃ j, c ≤ j ∧ j < 2401 ∧ ¬ Kc ev (pb ev (σ.1 16)) M j) → l_X11_isKept_2 n (nI (c + 1)) σ = some (0, σ)) := by
        intro hk9
        refine ⟨fun hh => i1 (fun q a b => hh q (by omega) b), fun ⟨q, a, b, hh⟩ => i2 ⟨q, ?_, b, hh⟩⟩
        by_cases e : q = c
        · subst e; exact absurd hk9 hh
        · omega
      by_cases hm : M c = true
      · obtain ⟨j1, j2⟩ := ik_in hq h51 hc hm (l_X11_isKept_2 n) pw_FU 0 (by omega) (by unfold pw_FU; omega)
        by_cases hK : ∀ q, 0 ≤ q → q < np → Kp ev (pb ev (σ.1 16)) M c q
        · rw [pz_0, j1 hK]
          refine skip (fun _ p hp => ?_)
          by_cases hpn : p < np
          · exact hK p (Nat.zero_le _) hpn
          · intro a _; rw [m3 p (by omega) hp] at a; omega
        · have hex : ∃ q, 0 ≤ q ∧ q < np ∧ ¬ Kp ev (pb ev (σ.1 16)) M c q := by
            by_cases hh : ∃ q, 0 ≤ q ∧ q < np ∧ ¬ Kp ev (pb ev (σ.1 16)) M c q
            · exact hh
            · refine absurd (fun q a b => ?_) hK
              by_cases h9 : Kp ev (pb ev (σ.1 16)) M c q
              · exact h9
              · exact absurd ⟨q, a, b, h9⟩ hh
          rw [pz_0, j2 hex]
          exact ⟨fun hh => absurd (fun q _ b => hh c (Nat.le_refl _) hc hm q (by omega)) hK, fun _ => rfl⟩
      · have hmf : M c = false := by simpa using hm
        rw [show l_X11_isKept_11 (l_X11_isKept_2 n) pw_FU (nI c) 0 σ = b_X11_isKept_11 (l_X11_isKept_2 n) (l_X11_isKept_11 (l_X11_isKept_2 n) 2999) (nI c) 0 σ from rfl]
        unfold b_X11_isKept_11
        rw [m4, nI_1]
        by_cases hz : np = 0
        · rw [if_pos (show nI np ≤ 0 by rw [hz]; decide)]
          exact skip (fun e => absurd e hm)
        · rw [if_neg (show ¬ nI np ≤ 0 from nI_ge (a := 0) (by omega) (by omega)), if_pos (pz_in hc (by decide)), nI_clamp (n := c) (by omega), h51 c hc, hmf, mk0, if_pos rfl]
          exact skip (fun e => absurd e hm)
