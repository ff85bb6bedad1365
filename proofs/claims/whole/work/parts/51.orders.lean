-- PURE PART: orders
theorem wp_np {np : Nat} {ev : Nat → Nat} (h0 : ∀ p, np ≤ p → p < 4 → ev p = 0) (hn : np ≤ 4) : wp ev np = wh ev := by
  have h : ∀ d, np + d ≤ 4 → wp ev (np + d) = wp ev np := by
    intro d
    induction d with
    | zero => intro _; rfl
    | succ d ih =>
      intro hd
      have e : wp ev (np + d + 1) = wp ev (np + d) + ev (np + d) * un (np + d) := rfl
      rw [show np + (d + 1) = np + d + 1 by omega, e, h0 (np + d) (by omega) (by omega), Nat.zero_mul]
      exact ih (by omega)
  rw [← wp_wh, ← h (4 - np) (by omega), show np + (4 - np) = 4 by omega]
theorem pz_whole {σ : pw_St} {np : Nat} {ev : Nat → Nat} (hM : CutM σ np ev) : f_X11_whole σ = some (nI (wh ev), σ) := by
  unfold f_X11_whole
  have := who_l hM pw_FU 0 (by omega) (by have := hM.1; unfold pw_FU; omega)
  rw [wp_np hM.2.2.1 hM.1] at this
  exact this
theorem rsf_0 {t : Nat → Nat} {p : Nat} (hp : p ≤ 4) (h : ∀ q, p ≤ q → q < 4 → t q = 0) : rsf t (4 - p) = 0 := by
  have : ∀ n, n ≤ 4 - p → rsf t n = 0 := by
    intro n
    induction n with
    | zero => intro _; rfl
    | succ n ih =>
      intro hn
      show t (3 - n) + rsf t n = 0
      rw [h (3 - n) (by omega) (by omega), ih (by omega)]
  exact this _ (Nat.le_refl _)
theorem cnt_in {σ : pw_St} {np c : Nat} {ev : Nat → Nat} {Q : Nat → Bool} (hM : CutM σ np ev) (hc : c < 2401) (k9 : Int32 → Int32 → pw_St → Option pw_St) (x1 : Int32) (hw : ∀ p, p < 4 → dg c p < ev p → σ.2 45 (c + un p) = lN (wy ev Q (c + un p))) : ∀ (n p a : Nat) (τ : pw_St), p ≤ np → np - p < n → τ.1 = σ.1 → (∀ j, j ≠ c → τ.2 45 j = σ.2 45 j) → τ.2 45 c = lN a → ∃ τ2, l_X11_count_54 k9 n x1 (nI c) (nI p) τ = b_X11_count_102 k9 x1 (nI c) τ2 ∧ τ2.1 = σ.1 ∧ (∀ j, j ≠ c → τ2.2 45 j = σ.2 45 j) ∧ τ2.2 45 c = lN (a + rsf (tm ev (wy ev Q) c) (4 - p)) := by
  obtain ⟨m1, m2, m3, m4, m5⟩ := hM
  intro n
  induction n with
  | zero => intro p a τ _ h; omega
  | succ n ih =>
    intro p a τ h1 h2 hr hj ha
    rw [show l_X11_count_54 k9 (n + 1) x1 (nI c) (nI p) τ = b_X11_count_54 k9 (l_X11_count_54 k9 n) x1 (nI c) (nI p) τ from rfl]
    unfold b_X11_count_54
    rw [hr, m4]
    by_cases h : p = np
    · subst h
      rw [if_pos (nI_le (Nat.le_refl _) (by omega))]
      refine ⟨τ, rfl, hr, hj, ?_⟩
      rw [ha, rsf_0 m1 (fun q a b => by unfold tm; rw [m3 q a b, if_neg (by omega)]), Nat.add_zero]
    · have hp : p < np := by omega
      have hp4 : p < 4 := by omega
      have d := dg_lt c p
      have h6p := m2 p hp4
      rw [if_neg (nI_ge hp (by omega)), pz_part τ (by omega) hp4, pz_bi_some, if_pos (pz_in hp4 (by decide)), nI_clamp (n := p) (by omega), hr, m5 p hp4]
      by_cases hd : dg c p < ev p
      · have hl := up_lt hc hp4 (show dg c p < 6 by omega)
        have hu := un_pos p
        rw [if_neg (nI_ge hd (by omega)), if_pos (pz_in hc (by decide)), pz_unit τ hp4, pz_bi_some, nI_add, if_pos (pz_in hl (by decide)), if_pos (pz_in hc (by decide)), pz_lt, nI_clamp (n := c) (by omega), nI_clamp (n := c + un p) (by omega), rl_sL, ha, hj (c + un p) (by omega), hw p hp4 hd, lN_ad, nI_1]
        obtain ⟨τ2, e1, e2, e3, e4⟩ := ih (p + 1) (a + wy ev Q (c + un p)) (pw_rl τ 45 (vp_updL (τ.2 45) c (lN (a + wy ev Q (c + un p))))) (by omega) (by omega) hr (fun j hjc => by rw [rl_get, pk_uLn hjc]; exact hj j hjc) (by rw [rl_get, pk_uLs])
        refine ⟨τ2, e1, e2, e3, ?_⟩
        rw [e4, rsf_s _ hp4, show tm ev (wy ev Q) c p = wy ev Q (c + un p) from if_pos hd, Nat.add_assoc]
      · rw [if_pos (nI_le (by omega) (by omega)), nI_1]
        obtain ⟨τ2, e1, e2, e3, e4⟩ := ih (p + 1) a τ (by omega) (by omega) hr hj ha
        refine ⟨τ2, e1, e2, e3, ?_⟩
        rw [e4, rsf_s _ hp4, show tm ev (wy ev Q) c p = 0 from if_neg hd, Nat.zero_add]
theorem cnt_put {σ τ : pw_St} {ev : Nat → Nat} {Q : Nat → Bool} {c : Nat} (hc : c < 2401) (k9 : Int32 → Int32 → pw_St → Option pw_St) (x1 : Int32) (hr : τ.1 = σ.1) (ha : τ.2 45 c = lN (wy ev Q c)) : ∃ τ2, b_X11_count_102 k9 x1 (nI c) τ = k9 x1 (nI c - 1) τ2 ∧ τ2.1 = σ.1 ∧ (∀ j, τ2.2 45 j = τ.2 45 j) := by
  have hl := wy_lt ev Q c
  unfold b_X11_count_102 b_X11_count_132
  rw [if_pos (pz_in hc (by decide)), nI_clamp (n := c) (by omega), ha, if_pos (show lg_cmp (lN (wy ev Q c)) 1000000000000000000 ≤ 0 from (lg_cmp_le _ _).mpr (show lN (wy ev Q c) ≤ lN 1000000000000000000 from (pk_lLE (by omega) (by decide)).mpr (by omega))), if_pos (pz_in hc (by decide)), if_pos (pz_in hc (by decide)), pz_lt, rl_sL, ← Int32.sub_eq_add_neg]
  refine ⟨_, rfl, hr, fun j => ?_⟩
  rw [rl_get]
  by_cases hj : j = c
  · subst hj; rw [pk_uLs, ha]
  · rw [pk_uLn hj]
theorem cnt_l {σ : pw_St} {np : Nat} {ev : Nat → Nat} {B Q : Nat → Bool} (hq : QI σ np ev) (h44 : ∀ t, t < 2401 → σ.1 44 t = if B t then 1 else 0) (hQ : ∀ c, Q c = (pb ev (σ.1 16) c && !B c)) : ∀ (n k : Nat) (τ : pw_St), k ≤ 2401 → k < n → τ.1 = σ.1 → (∀ j, k ≤ j → j < 2401 → τ.2 45 j = lN (wy ev Q j)) → ∃ τ2, l_X11_count_9 n (nI (wh ev)) (nI k - 1) τ = some τ2 ∧ τ2.1 = σ.1 ∧ (∀ j, j < 2401 → τ2.2 45 j = lN (wy ev Q j)) := by
  have hM := hq.1
  have h6 := hM.2.1
  have hwl := wh_lt h6
  intro n
  induction n with
  | zero => intro k τ _ h; omega
  | succ n ih =>
    intro k τ h1 h2 hr hj
    rw [show l_X11_count_9 (n + 1) (nI (wh ev)) (nI k - 1) τ = b_X11_count_9 (l_X11_count_9 n) (nI (wh ev)) (nI k - 1) τ from rfl]
    unfold b_X11_count_9
    by_cases h : k = 0
    · subst h
      rw [if_pos (by decide)]
      exact ⟨τ, rfl, hr, fun j hj1 => hj j (by omega) hj1⟩
    · have hc : k - 1 < 2401 := by omega
      obtain ⟨c, ec⟩ : ∃ c, c = k - 1 := ⟨_, rfl⟩
      rw [pz_m1 (by omega), ← ec, if_neg (nI_pos (by omega)), if_pos (pz_in (show c < 2401 by omega) (by decide)), pz_lt, nI_clamp (n := c) (by omega), rl_sL]
      obtain ⟨τ1, et⟩ : ∃ τ1, τ1 = pw_rl τ 45 (vp_updL (τ.2 45) c 0) := ⟨_, rfl⟩
      have r1 : τ1.1 = σ.1 := by rw [et]; exact hr
      have r2 : ∀ j, j ≠ c → τ1.2 45 j = τ.2 45 j := fun j hjc => by rw [et, rl_get, pk_uLn hjc]
      have r3 : τ1.2 45 c = lN 0 := by rw [et, rl_get, pk_uLs]; rfl
      rw [← et]
      have hq1 : QI τ1 np ev := by unfold QI CutM at hq ⊢; rw [r1]; exact hq
      have done : ∀ τ2 : pw_St, τ2.1 = σ.1 → (∀ j, j ≠ c → τ2.2 45 j = τ.2 45 j) → τ2.2 45 c = lN (wy ev Q c) → ∃ τ3, l_X11_count_9 n (nI (wh ev)) (nI c - 1) τ2 = some τ3 ∧ τ3.1 = σ.1 ∧ (∀ j, j < 2401 → τ3.2 45 j = lN (wy ev Q j)) := by
        intro τ2 g1 g2 g3
        refine ih c τ2 (by omega) (by omega) g1 (fun j a b => ?_)
        by_cases hjc : j = c
        · subst hjc; exact g3
        · rw [g2 j hjc]; exact hj j (by omega) b
      have fin : ∀ (a : Nat) (τ2 : pw_St), τ2.1 = σ.1 → (∀ j, j ≠ c → τ2.2 45 j = τ.2 45 j) → τ2.2 45 c = lN a → a + rsf (tm ev (wy ev Q) c) 4 = wy ev Q c → ∃ τ3, l_X11_count_54 (l_X11_count_9 n) pw_FU (nI (wh ev)) (nI c) 0 τ2 = some τ3 ∧ τ3.1 = σ.1 ∧ (∀ j, j < 2401 → τ3.2 45 j = lN (wy ev Q j)) := by
        intro a τ2 g1 g2 g3 g4
        have hM2 : CutM τ2 np ev := by unfold CutM at hM ⊢; rw [g1]; exact hM
        obtain ⟨τ3, e1, e2, e3, e4⟩ := cnt_in (Q := Q) hM2 (show c < 2401 by omega) (l_X11_count_9 n) (nI (wh ev)) (fun p hp hd => by
          have h6p := h6 p hp
          have hl := up_lt (show c < 2401 by omega) hp (show dg c p < 6 by omega)
          have hu := un_pos p
          rw [g2 _ (by omega)]
          exact hj _ (by omega) hl) pw_FU 0 a τ2 (by omega) (by have := hM.1; unfold pw_FU; omega) rfl (fun _ _ => rfl) g3
        rw [show a + rsf (tm ev (wy ev Q) c) (4 - 0) = wy ev Q c from g4] at e4
        obtain ⟨τ4, f1, f2, f3⟩ := cnt_put (σ := σ) (show c < 2401 by omega) (l_X11_count_9 n) (nI (wh ev)) (e2.trans g1) e4
        rw [pz_0, e1, f1]
        exact done τ4 f2 (fun j hjc => by rw [f3, e3 j hjc, g2 j hjc]) (by rw [f3, e4])
      by_cases hp : pb ev (σ.1 16) c = true
      · rw [ips_t hq1 (by rw [r1]; exact hp), pz_bi_some, if_neg (by decide), if_pos (pz_in (show c < 2401 by omega) (by decide)), r1, h44 c (by omega)]
        by_cases hB : B c = true
        · rw [hB, mk1, if_neg (by decide), ← Int32.sub_eq_add_neg]
          exact done τ1 r1 r2 (by rw [r3, wy_no (by rw [hQ, hB]; simp)])
        · have hBf : B c = false := by simpa using hB
          have hQt : Q c = true := by rw [hQ, hp, hBf]; rfl
          rw [hBf, mk0, if_pos rfl]
          by_cases hwc : c = wh ev
          · rw [if_pos (by rw [hwc]), if_pos (pz_in (show c < 2401 by omega) (by decide)), pz_lt, rl_sL]
            refine fin 1 _ r1 (fun j hjc => ?_) ?_ ?_
            · rw [rl_get, pk_uLn hjc]; exact r2 j hjc
            · rw [rl_get, pk_uLs]; rfl
            · have : rsf (tm ev (wy ev Q) c) (4 - 0) = 0 := rsf_0 (by omega) (fun q _ hq4 => by unfold tm; rw [hwc, wh_dg h6 hq4, if_neg (by omega)])
              rw [show rsf (tm ev (wy ev Q) c) 4 = 0 from this, hwc, wy_wh (by rw [← hwc]; exact hQt)]
          · rw [if_neg (fun e => hwc ((nI_eq (by omega) (by omega)).mp e))]
            exact fin 0 τ1 r1 r2 r3 (by rw [Nat.zero_add, wy_eq h6 hQt hwc])
      · have hpf : pb ev (σ.1 16) c = false := by simpa using hp
        rw [ips_f hq1 (by omega) (by rw [r1]; exact hpf), pz_bi_some, if_pos rfl, ← Int32.sub_eq_add_neg]
        exact done τ1 r1 r2 (by rw [r3, wy_no (by rw [hQ, hpf]; rfl)])
theorem pz_count {σ : pw_St} {np : Nat} {ev : Nat → Nat} {B Q : Nat → Bool} (hq : QI σ np ev) (h44 : ∀ t, t < 2401 → σ.1 44 t = if B t then 1 else 0) (hQ : ∀ c, Q c = (pb ev (σ.1 16) c && !B c)) : ∃ τ2, f_X11_count σ = some τ2 ∧ τ2.1 = σ.1 ∧ (∀ j, j < 2401 → τ2.2 45 j = lN (wy ev Q j)) := by
  unfold f_X11_count
  rw [pz_whole hq.1, pz_bi_some]
  exact cnt_l hq h44 hQ pw_FU 2401 σ (by omega) (by unfold pw_FU; omega) rfl (fun j a b => by omega)
theorem QI_keep {σ σ2 : pw_St} {np : Nat} {ev : Nat → Nat} (h : QI σ np ev) (hK : Keep σ σ2) : QI σ2 np ev := by
  unfold QI CutM at h ⊢
  rw [hK 10 (by omega), hK 34 (by omega), hK 11 (by omega), hK 39 (by omega), hK 16 (by omega)]
  exact h
theorem pb_0 (ev : Nat → Nat) (f : Nat → Int32) : pb ev f 0 = true := pb_t.mpr (pos_0 ev f)
/-- the reference's orders -/
theorem pz_mo {σ : pw_St} {np : Nat} {ev : Nat → Nat} (hq : QI σ np ev) : ∃ σ1 σ2, f_X11_open σ = some σ1 ∧ f_X11_count σ1 = some σ2 ∧ KeepE σ σ2 ∧ ∀ j, j < 2401 → σ2.2 45 j = lN (wy ev (pb ev (σ.1 16)) j) := by
  obtain ⟨r, k1, k2⟩ := pz_open σ
  have hE : KeepE σ (pw_rw σ 44 r) := fun k hk => rw_ne (by omega)
  have hq1 := QI_keep hq (Keep_E hE)
  obtain ⟨σ2, m1, m2, m3⟩ := pz_count (B := fun _ => false) (Q := pb ev (σ.1 16)) hq1 (fun t ht => by rw [rw_get]; exact k2 t ht) (fun c => by rw [pb_E (Keep_E hE)]; simp)
  exact ⟨_, σ2, k1, m1, fun k hk => by rw [m2]; exact hE k hk, m3⟩
/-- the class's orders -/
theorem pz_xo {σ : pw_St} {np n : Nat} {ev : Nat → Nat} (hq : QI σ np ev) (hn : n < 2 ^ 31) (hN : NInv σ ev n) : ∃ σ2, f_X10_orders σ = some (lN (wy ev (pb ev (σ.1 16)) 0), σ2) ∧ Fresh σ2 ev ∧ NInv σ2 ev n ∧ Keep σ σ2 ∧ ∀ c, c < 2401 → pb ev (σ.1 16) c = true → σ2.2 32 c = lN (wy ev (pb ev (σ.1 16)) c) := by
  have h6 := hq.1.2.1
  obtain ⟨σ1, k1, k2, k3, k4⟩ := pz_fresh h6 hq.2.1 hn hN
  have hK := Keep_N k4
  obtain ⟨T, io, hS, f5, f6, f23, f24⟩ := id k2
  obtain ⟨τ, t1, t2, t3, t4⟩ := wipe_l hS f5 pw_FU 0 σ1 (by omega) (by have := Sorted_T hS; unfold pw_FU; omega) (fun _ _ => rfl) rfl (fun j hj => by omega)
  have hE : KeepE σ1 τ := fun k hk => t2 k (by omega)
  have ep : pb ev (τ.1 16) = pb ev (σ.1 16) := pb_E (Keep_tr hK (Keep_E hE))
  have ep1 : pb ev (σ1.1 16) = pb ev (σ.1 16) := pb_E hK
  rw [ep1] at hS f23
  obtain ⟨σ2, u1, u2, u3⟩ := pz_wfill (σ := τ) (ev := ev) (P := pb ev (σ.1 16)) (B := fun _ => false) (Q := pb ev (σ.1 16)) (T := T) (io := io) h6 (by rw [t2 11 (by omega)]; exact (QI_keep hq hK).2.1) (by rw [t2 22 (by omega)]; exact hS) (by rw [t2 3 (by omega)]; exact f5) (by rw [t2 3 (by omega)]; exact f6) (by rw [t2 23 (by omega)]; exact f23) (fun t ht hp => by
    obtain ⟨j, hj, e⟩ := hS.2.2.2.1 t ht hp
    rw [← e]; exact t4 j hj) (fun c => by simp) (pb_0 _ _)
  have hE2 : KeepE σ1 σ2 := fun k hk => by rw [u2]; exact hE k hk
  refine ⟨σ2, ?_, Fresh_E k2 hE2, NInv_E k3 hE2, Keep_tr hK (Keep_E hE2), u3⟩
  unfold f_X10_orders
  rw [k1, pz_bv_some]
  unfold f_X4_wipe
  rw [pz_0, t1, pz_bv_some, u1, pz_bl_some]
/-- the form of a query with a long answer -/
def QrL (fx fm : pw_St → Option (Int64 × pw_St)) (σ : pw_St) (ev : Nat → Nat) (n : Nat) : Prop := ∃ r σ1 σ2, fx σ = some (r, σ1) ∧ fm σ1 = some (r, σ2) ∧ NInv σ2 ev n ∧ Keep σ σ2
theorem pz_orders {σ : pw_St} {np n : Nat} {ev : Nat → Nat} (hq : QI σ np ev) (hn : n < 2 ^ 31) (hN : NInv σ ev n) : QrL f_X10_orders f_X11_orders σ ev n := by
  obtain ⟨σ1, k1, k2, k3, k4, k5⟩ := pz_xo hq hn hN
  obtain ⟨τ, σ2, m1, m2, m3, m4⟩ := pz_mo (QI_keep hq k4)
  refine ⟨_, σ1, σ2, k1, ?_, NInv_E k3 m3, Keep_tr k4 (Keep_E m3)⟩
  unfold f_X11_orders
  rw [m1, pz_bv_some, m2, pz_bv_some, if_pos (by decide), show σ2.2 45 (0 : Int32).toNatClampNeg = _ from m4 0 (by omega), pb_E k4]
-- order
def sel (t : Nat → Nat) : Nat → Nat → Nat × Nat
  | 0, a => (4, a)
  | n + 1, a => if a < t (3 - n) then (3 - n, a) else sel t n (a - t (3 - n))
theorem sel_s (t : Nat → Nat) {p : Nat} (hp : p < 4) (a : Nat) : sel t (4 - p) a = if a < t p then (p, a) else sel t (4 - (p + 1)) (a - t p) := by
  rcases (show p = 0 ∨ p = 1 ∨ p = 2 ∨ p = 3 by omega) with rfl | rfl | rfl | rfl <;> rfl
theorem sel_ok (t : Nat → Nat) : ∀ (n a : Nat), a < rsf t n → (sel t n a).1 < 4 ∧ (sel t n a).2 < t (sel t n a).1
  | 0, a, h => absurd h (Nat.not_lt_zero _)
  | n + 1, a, h => by
    have e : rsf t (n + 1) = t (3 - n) + rsf t n := rfl
    have e2 : sel t (n + 1) a = if a < t (3 - n) then (3 - n, a) else sel t n (a - t (3 - n)) := rfl
    rw [e2]
    by_cases hl : a < t (3 - n)
    · rw [if_pos hl]; exact ⟨by show 3 - n < 4; omega, hl⟩
    · rw [if_neg hl]; exact sel_ok t n _ (by omega)
