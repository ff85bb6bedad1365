-- PURE PART: order, avoids, sure, avoid
theorem rsf_b4 {ev : Nat → Nat} {Q : Nat → Bool} {c p : Nat} : rsf (tm ev (wy ev Q) c) (4 - p) ≤ 4503599627370496 := by
  refine Nat.le_trans (rsf_b (t := tm ev (wy ev Q) c) (B := 1125899906842624) (fun p => tm_le) (4 - p)) ?_
  rcases (show 4 - p = 0 ∨ 4 - p = 1 ∨ 4 - p = 2 ∨ 4 - p = 3 ∨ 4 - p = 4 by omega) with h | h | h | h | h <;> rw [h] <;> decide
theorem pa_in {σ : pw_St} {ev : Nat → Nat} {P Q : Nat → Bool} {c : Nat} (h6 : ∀ p, p < 4 → ev p ≤ 6) (e11 : ∀ p, p < 4 → σ.1 11 p = nI (ev p)) (e23 : ∀ c, c < 2401 → σ.1 23 c = if P c then 1 else 0) (hQ : ∀ c, Q c = true → P c = true) (hc : c < 2401) (hw : ∀ c, c < 2401 → P c = true → σ.2 32 c = lN (wy ev Q c)) (k12 : Int32 → Int64 → Int32 → Int32 → Int32 → pw_St → Option (Int32 × pw_St)) (x4 x9 : Int32) : ∀ (n p a : Nat), p ≤ 4 → 4 - p < n → a < rsf (tm ev (wy ev Q) c) (4 - p) → l_X9_processAt_29 k12 n x4 (lN a) (nI c) (nI p) x9 σ = b_X9_processAt_70 k12 x4 (lN (sel (tm ev (wy ev Q) c) (4 - p) a).2) (nI c) (nI (sel (tm ev (wy ev Q) c) (4 - p) a).1) x9 σ := by
  intro n
  induction n with
  | zero => intro p a _ h; omega
  | succ n ih =>
    intro p a h1 h2 ha
    rw [show l_X9_processAt_29 k12 (n + 1) x4 (lN a) (nI c) (nI p) x9 σ = b_X9_processAt_29 k12 (l_X9_processAt_29 k12 n) x4 (lN a) (nI c) (nI p) x9 σ from rfl]
    unfold b_X9_processAt_29
    by_cases h : p = 4
    · subst h; exact absurd ha (Nat.not_lt_zero _)
    · have hp : p < 4 := by omega
      have ht := tm_le (ev := ev) (Q := Q) (c := c) (p := p)
      have hb : rsf (tm ev (wy ev Q) c) (4 - p) ≤ 4503599627370496 := rsf_b4
      have hov := pz_over (σ := σ) (P := P) (Q := Q) h6 e11 e23 hQ hc hp (fun hd hP => hw _ (up_lt hc hp (by have := h6 p hp; omega)) hP)
      rw [if_neg (show ¬ (4 : Int32) ≤ nI p from nI_ge (b := 4) hp (by decide)), hov, pz_bl_some, sel_s _ hp]
      rw [rsf_s _ hp] at ha hb
      by_cases hl : a < tm ev (wy ev Q) c p
      · rw [if_pos ((lg_cmp_lt _ _).mpr ((pk_lLT (by omega) (by omega)).mpr hl)), if_pos hl]
      · rw [if_neg (fun e => hl ((pk_lLT (by omega) (by omega)).mp ((lg_cmp_lt _ _).mp e))), if_neg hl, hov, pz_bl_some, lN_sb (by omega), nI_1]
        exact ih (p + 1) _ (by omega) (by omega) (by omega)
theorem wk_in {σ : pw_St} {np : Nat} {ev : Nat → Nat} {Q : Nat → Bool} {c : Nat} (hM : CutM σ np ev) (hC : isC ev c) (hw : ∀ c, c < 2401 → σ.2 45 c = lN (wy ev Q c)) (k9 : Int32 → Int32 → Int64 → Int32 → pw_St → Option (Int32 × pw_St)) (x3 x7 : Int32) : ∀ (n p a : Nat), p ≤ 4 → 4 - p < n → a < rsf (tm ev (wy ev Q) c) (4 - p) → l_X11_walk_18 k9 n x3 (nI c) (lN a) x7 (nI p) σ = b_X11_walk_99 k9 x3 (nI c) (lN (sel (tm ev (wy ev Q) c) (4 - p) a).2) x7 (nI (sel (tm ev (wy ev Q) c) (4 - p) a).1) σ := by
  obtain ⟨m1, m2, m3, m4, m5⟩ := hM
  have hc := hC.1
  intro n
  induction n with
  | zero => intro p a _ h; omega
  | succ n ih =>
    intro p a h1 h2 ha
    rw [show l_X11_walk_18 k9 (n + 1) x3 (nI c) (lN a) x7 (nI p) σ = b_X11_walk_18 k9 (l_X11_walk_18 k9 n) x3 (nI c) (lN a) x7 (nI p) σ from rfl]
    unfold b_X11_walk_18
    by_cases h : p = 4
    · subst h; exact absurd ha (Nat.not_lt_zero _)
    · have hp : p < 4 := by omega
      have hb : rsf (tm ev (wy ev Q) c) (4 - p) ≤ 4503599627370496 := rsf_b4
      have h6p := m2 p hp
      have hdl := hC.2 p hp
      rw [rsf_s _ hp] at ha hb
      rw [pz_part σ (by omega) hp, pz_bi_some, if_pos (pz_in hp (by decide)), nI_clamp (n := p) (by omega), m5 p hp, sel_s _ hp]
      by_cases hd : dg c p = ev p
      · have ht : tm ev (wy ev Q) c p = 0 := by unfold tm; rw [if_neg (by omega)]
        rw [if_pos (by rw [hd])]
        unfold b_X11_walk_54
        rw [pz_part σ (by omega) hp, pz_bi_some, if_pos (pz_in hp (by decide)), nI_clamp (n := p) (by omega), m5 p hp, if_pos (by rw [hd])]
        unfold b_X11_walk_90
        rw [ht] at ha ⊢
        rw [if_neg (by omega), lN_00, lN_sb (by omega), nI_1]
        exact ih (p + 1) _ (by omega) (by omega) (by omega)
      · have hlt : dg c p < ev p := by omega
        have hl := up_lt hc hp (show dg c p < 6 by omega)
        have hwl := wy_lt ev Q (c + un p)
        have ht : tm ev (wy ev Q) c p = wy ev Q (c + un p) := by unfold tm; rw [if_pos hlt]
        have hne : ¬ nI (dg c p) = nI (ev p) := fun e => hd ((nI_eq (by omega) (by omega)).mp e)
        rw [if_neg hne, pz_unit σ hp, pz_bi_some, nI_add, if_pos (pz_in hl (by decide)), nI_clamp (n := c + un p) (by omega), hw _ hl]
        rw [ht] at ha hb ⊢
        by_cases hlo : a < wy ev Q (c + un p)
        · rw [if_pos ((lg_cmp_lt _ _).mpr ((pk_lLT (by omega) (by omega)).mpr hlo)), if_pos hlo]
        · rw [if_neg (fun e => hlo ((pk_lLT (by omega) (by omega)).mp ((lg_cmp_lt _ _).mp e))), if_neg hlo]
          unfold b_X11_walk_54
          rw [pz_part σ (by omega) hp, pz_bi_some, if_pos (pz_in hp (by decide)), nI_clamp (n := p) (by omega), m5 p hp, if_neg hne, pz_unit σ hp, pz_bi_some, nI_add, if_pos (pz_in hl (by decide)), nI_clamp (n := c + un p) (by omega), hw _ hl]
          unfold b_X11_walk_90
          rw [lN_sb (by omega), nI_1]
          exact ih (p + 1) _ (by omega) (by omega) (by omega)
theorem walk_l {σ τ : pw_St} {np i : Nat} {ev : Nat → Nat} {P Q : Nat → Bool} (e11 : ∀ p, p < 4 → σ.1 11 p = nI (ev p)) (e23 : ∀ c, c < 2401 → σ.1 23 c = if P c then 1 else 0) (hQ : ∀ c, Q c = true → P c = true) (hP : ∀ c, P c = true → isC ev c) (hw : ∀ c, c < 2401 → P c = true → σ.2 32 c = lN (wy ev Q c)) (hM : CutM τ np ev) (hw2 : ∀ c, c < 2401 → τ.2 45 c = lN (wy ev Q c)) (hi : i < ev 0 + ev 1 + ev 2 + ev 3) : ∀ (d k n m c a : Nat) (x8 : Int32), k + d = i → d + 1 < n → d < m → Q c = true → sz c = k → a < wy ev Q c → ∃ q, q < 4 ∧ l_X9_processAt_12 n (nI i) (lN a) (nI c) x8 (nI k) σ = some (nI q, σ) ∧ l_X11_walk_9 m (nI i) (nI c) (lN a) (nI k) τ = some (nI q, τ) := by
  have h6 := hM.2.1
  have h0 := h6 0 (by omega)
  have h1' := h6 1 (by omega)
  have h2' := h6 2 (by omega)
  have h3' := h6 3 (by omega)
  intro d
  induction d with
  | zero =>
    intro k n m c a x8 e1 e2 e3 hq hs ha
    have hC := hP c (hQ c hq)
    have hc := hC.1
    obtain ⟨n, rfl⟩ : ∃ n', n = n' + 2 := ⟨n - 2, by omega⟩
    obtain ⟨m, rfl⟩ : ∃ m', m = m' + 1 := ⟨m - 1, by omega⟩
    have hne : c ≠ wh ev := fun e => by rw [e, wh_sz h6] at hs; omega
    rw [wy_eq h6 hq hne] at ha
    obtain ⟨s1, s2⟩ := sel_ok _ 4 a ha
    have a1 := pa_in h6 e11 e23 hQ hc hw (l_X9_processAt_12 (n + 1)) (nI i) (nI k) pw_FU 0 a (by omega) (by unfold pw_FU; omega) ha
    have a2 := wk_in hM hC hw2 (l_X11_walk_9 m) (nI i) (nI k) pw_FU 0 a (by omega) (by unfold pw_FU; omega) ha
    rw [show 4 - 0 = 4 from rfl] at a1 a2
    obtain ⟨q, eq⟩ : ∃ q, q = (sel (tm ev (wy ev Q) c) 4 a).1 := ⟨_, rfl⟩
    rw [← eq] at s1 a1 a2
    refine ⟨q, s1, ?_, ?_⟩
    · rw [show l_X9_processAt_12 (n + 2) (nI i) (lN a) (nI c) x8 (nI k) σ = b_X9_processAt_12 (l_X9_processAt_12 (n + 1)) (nI i) (lN a) (nI c) x8 (nI k) σ from rfl]
      unfold b_X9_processAt_12
      rw [if_neg (nI_nlt (by omega) (by omega)), if_neg (show ¬ (24 : Int32) ≤ nI k from nI_ge (b := 24) (by omega) (by decide)), pz_0, a1]
      unfold b_X9_processAt_70
      rw [if_neg (show ¬ nI q = (4 : Int32) from fun e => by have := (nI_eq (a := q) (b := 4) (by omega) (by decide)).mp e; omega), if_pos (pz_in s1 (by decide)), nI_1, show ∀ z y, l_X9_processAt_12 (n + 1) (nI i) z y (nI q) (nI (k + 1)) σ = b_X9_processAt_12 (l_X9_processAt_12 n) (nI i) z y (nI q) (nI (k + 1)) σ from fun _ _ => rfl]
      unfold b_X9_processAt_12
      rw [if_pos (nI_lt (by omega) (by omega))]
    · rw [show l_X11_walk_9 (m + 1) (nI i) (nI c) (lN a) (nI k) τ = b_X11_walk_9 (l_X11_walk_9 m) (nI i) (nI c) (lN a) (nI k) τ from rfl]
      unfold b_X11_walk_9
      rw [if_neg (nI_nlt (by omega) (by omega)), pz_0, a2]
      unfold b_X11_walk_99
      rw [pz_unit τ s1, pz_bi_some, if_pos (by rw [show k = i by omega])]
  | succ d ih =>
    intro k n m c a x8 e1 e2 e3 hq hs ha
    have hC := hP c (hQ c hq)
    have hc := hC.1
    obtain ⟨n, rfl⟩ : ∃ n', n = n' + 1 := ⟨n - 1, by omega⟩
    obtain ⟨m, rfl⟩ : ∃ m', m = m' + 1 := ⟨m - 1, by omega⟩
    have hne : c ≠ wh ev := fun e => by rw [e, wh_sz h6] at hs; omega
    rw [wy_eq h6 hq hne] at ha
    obtain ⟨s1, s2⟩ := sel_ok _ 4 a ha
    have a1 := pa_in h6 e11 e23 hQ hc hw (l_X9_processAt_12 n) (nI i) (nI k) pw_FU 0 a (by omega) (by unfold pw_FU; omega) ha
    have a2 := wk_in hM hC hw2 (l_X11_walk_9 m) (nI i) (nI k) pw_FU 0 a (by omega) (by unfold pw_FU; omega) ha
    rw [show 4 - 0 = 4 from rfl] at a1 a2
    obtain ⟨q, eq⟩ : ∃ q, q = (sel (tm ev (wy ev Q) c) 4 a).1 := ⟨_, rfl⟩
    obtain ⟨b, eb⟩ : ∃ b, b = (sel (tm ev (wy ev Q) c) 4 a).2 := ⟨_, rfl⟩
    rw [← eq] at s1 s2 a1 a2
    rw [← eb] at s2 a1 a2
    have hd : dg c q < ev q := by
      by_cases hd : dg c q < ev q
      · exact hd
      · rw [show tm ev (wy ev Q) c q = 0 from if_neg hd] at s2; omega
    rw [show tm ev (wy ev Q) c q = wy ev Q (c + un q) from if_pos hd] at s2
    have h6q := h6 q s1
    have hQn : Q (c + un q) = true := by
      cases hx : Q (c + un q)
      · rw [wy_no hx] at s2; omega
      · rfl
    obtain ⟨r, r1, r2, r3⟩ := ih (k + 1) n m (c + un q) b (nI q) (by omega) (by omega) (by omega) hQn (by rw [sz_up s1 (by omega), hs]) s2
    refine ⟨r, r1, ?_, ?_⟩
    · rw [show l_X9_processAt_12 (n + 1) (nI i) (lN a) (nI c) x8 (nI k) σ = b_X9_processAt_12 (l_X9_processAt_12 n) (nI i) (lN a) (nI c) x8 (nI k) σ from rfl]
      unfold b_X9_processAt_12
      rw [if_neg (nI_nlt (by omega) (by omega)), if_neg (show ¬ (24 : Int32) ≤ nI k from nI_ge (b := 24) (by omega) (by decide)), pz_0, a1]
      unfold b_X9_processAt_70
      rw [if_neg (show ¬ nI q = (4 : Int32) from fun e => by have := (nI_eq (a := q) (b := 4) (by omega) (by decide)).mp e; omega), if_pos (pz_in s1 (by decide)), nI_1, nI_clamp (n := q) (by omega), pz_wt s1, nI_add]
      exact r2
    · rw [show l_X11_walk_9 (m + 1) (nI i) (nI c) (lN a) (nI k) τ = b_X11_walk_9 (l_X11_walk_9 m) (nI i) (nI c) (lN a) (nI k) τ from rfl]
      unfold b_X11_walk_9
      rw [if_neg (nI_nlt (by omega) (by omega)), pz_0, a2]
      unfold b_X11_walk_99
      rw [pz_unit τ s1, pz_bi_some, if_neg (fun e => by have := (nI_eq (a := k) (b := i) (by omega) (by omega)).mp e; omega), nI_add, nI_1]
      exact r3
theorem sz_0 : sz 0 = 0 := by decide
theorem pz_order {σ : pw_St} {np nl tot n : Nat} {ev g : Nat → Nat} (hH : HInv σ np nl tot ev g) (hn : n < 2 ^ 31) (hN : NInv σ ev n) (x1 : Int64) (x3 : Int32) : Qr (f_X10_order x1 x3) (f_X11_order x1 x3) σ ev n := by
  have hq := QI_of hH
  have h6 := hq.1.2.1
  have h0 := h6 0 (by omega)
  have h1' := h6 1 (by omega)
  have h2' := h6 2 (by omega)
  have h3' := h6 3 (by omega)
  have ht := hH.1.2.1
  have e9 := hH.1.2.2.2.2.2.2.1
  have e8 := hH.1.2.2.2.2.2.2.2.1
  have nothing : (∀ τ : pw_St, f_X10_order x1 x3 σ = some (-1, σ)) → (∀ σ2, Keep σ σ2 → (∀ j, j < 2401 → σ2.2 45 j = lN (wy ev (pb ev (σ.1 16)) j)) → (if lg_cmp x1 0 < 0 then some (-1, σ2) else if pw_in (0 : Int32) 2401 = true then (if 0 ≤ (lg_cmp x1 (σ2.2 45 (0 : Int32).toNatClampNeg)) then (some ((-1 : Int32), σ2)) else (pw_bi (f_X11_in x3 (0 : Int32) ((σ2.1 10 8) - (1 : Int32)) σ2) fun r3 σ3 => (if r3 = 0 then (some ((-1 : Int32), σ3)) else (pw_bi (f_X11_walk x1 x3 σ3) fun r4 σ4 => (some (r4, σ4)))))) else none) = some (-1, σ2)) → Qr (f_X10_order x1 x3) (f_X11_order x1 x3) σ ev n := by
    intro a1 a2
    obtain ⟨τ, σ2, m1, m2, m3, m4⟩ := pz_mo hq
    refine ⟨-1, σ, σ2, a1 σ, ?_, NInv_E hN m3, Keep_E m3⟩
    unfold f_X11_order
    rw [m1, pz_bv_some, m2, pz_bv_some]
    exact a2 σ2 (Keep_E m3) m4
  by_cases hx : x1 < 0
  · refine nothing (fun _ => ?_) (fun σ2 _ _ => ?_)
    · unfold f_X10_order
      rw [if_pos ((lg_cmp_lt _ _).mpr hx)]
    · rw [if_pos ((lg_cmp_lt _ _).mpr hx)]
  · obtain ⟨a, ha, rfl⟩ := pk_lOf hx
    have hnx : ¬ lg_cmp (lN a) 0 < 0 := fun e => hx ((lg_cmp_lt _ _).mp e)
    rcases ix3 x3 (show tot < 2 ^ 31 by omega) with h3 | ⟨h3, h4⟩ | ⟨i, hi, rfl⟩
    · refine nothing (fun _ => ?_) (fun σ2 hK _ => ?_)
      · unfold f_X10_order
        rw [if_neg hnx, if_pos h3]
      · rw [if_neg hnx, if_pos (by decide), in_neg h3, pz_bi_some]
        split
        · rfl
        · rw [if_pos rfl]
    · refine nothing (fun _ => ?_) (fun σ2 hK _ => ?_)
      · unfold f_X10_order
        rw [if_neg hnx, if_neg h3, e9, if_pos h4]
      · rw [if_neg hnx, if_pos (by decide), hK 10 (by omega), e8, in_ge h3 h4 (by omega), pz_bi_some]
        split
        · rfl
        · rw [if_pos rfl]
    · obtain ⟨σ1, k1, k2, k3, k4, k5⟩ := pz_xo hq hn hN
      have hX : f_X10_order (lN a) (nI i) σ = (if (lg_cmp (lN a) (lN (wy ev (pb ev (σ.1 16)) 0))) < 0 then (pw_bv (f_X10_freshNet σ1) fun σ2 => (pw_bi (f_X9_processAt (lN a) (nI i) σ2) fun r3 σ3 => (some (r3, σ3)))) else (some ((-1 : Int32), σ1))) := by
        unfold f_X10_order
        rw [if_neg hnx, if_neg (nI_pos (by omega)), e9, if_neg (nI_ge hi (by omega)), k1, pz_bl_some]
      have hwl := wy_lt ev (pb ev (σ.1 16)) 0
      have hq1 := QI_keep hq k4
      by_cases hlt : a < wy ev (pb ev (σ.1 16)) 0
      · obtain ⟨σ2, u1, u2, u3, u4⟩ := pz_fresh h6 hq1.2.1 hn k3
        have hK2 := Keep_tr k4 (Keep_N u4)
        have hq2 := QI_keep hq hK2
        obtain ⟨τ, σ3, m1, m2, m3, m4⟩ := pz_mo hq2
        have hK3 := Keep_tr hK2 (Keep_E m3)
        obtain ⟨T, io, hS, f5, f6, f23, f24⟩ := id u2
        rw [pb_E hK2] at f23 m4
        obtain ⟨q, q1, q2, q3⟩ := walk_l (σ := σ2) (τ := σ3) (i := i) (P := pb ev (σ.1 16)) (Q := pb ev (σ.1 16)) hq2.2.1 f23 (fun c h => h) (fun c h => (pb_t.mp h).1) (fun c hc hp => by rw [u4.2]; exact k5 c hc hp) (QI_keep hq hK3).1 m4 (by omega) i 0 pw_FU pw_FU 0 a (-1) (by omega) (by unfold pw_FU; omega) (by unfold pw_FU; omega) (pb_0 _ _) sz_0 hlt
        refine ⟨nI q, σ2, σ3, ?_, ?_, NInv_E u3 m3, hK3⟩
        · rw [hX, if_pos ((lg_cmp_lt _ _).mpr ((pk_lLT (by omega) (by omega)).mpr hlt)), u1, pz_bv_some]
          unfold f_X9_processAt
          rw [show l_X9_processAt_12 pw_FU (nI i) (lN a) 0 (-1) 0 σ2 = some (nI q, σ2) from q2, pz_bi_some]
        · unfold f_X11_order
          rw [m1, pz_bv_some, m2, pz_bv_some, if_neg hnx, if_pos (by decide), show σ3.2 45 (0 : Int32).toNatClampNeg = _ from m4 0 (by omega), if_neg (fun e => by have := (pk_lLE (a := wy ev (pb ev (σ.1 16)) 0) (b := a) (by omega) (by omega)).mp ((lg_cmp_ge _ _).mp e); omega), hK3 10 (by omega), e8, in_ok hi (by omega), pz_bi_some, if_neg (by decide)]
          unfold f_X11_walk
          rw [show l_X11_walk_9 pw_FU (nI i) 0 (lN a) 0 σ3 = some (nI q, σ3) from q3, pz_bi_some]
      · obtain ⟨τ, σ3, m1, m2, m3, m4⟩ := pz_mo hq1
        refine ⟨-1, σ1, σ3, ?_, ?_, NInv_E k3 m3, Keep_tr k4 (Keep_E m3)⟩
        · rw [hX, if_neg (fun e => hlt ((pk_lLT (by omega) (by omega)).mp ((lg_cmp_lt _ _).mp e)))]
        · unfold f_X11_order
          rw [m1, pz_bv_some, m2, pz_bv_some, if_neg hnx, if_pos (by decide), show σ3.2 45 (0 : Int32).toNatClampNeg = _ from m4 0 (by omega), pb_E k4, if_pos ((lg_cmp_ge _ _).mpr ((pk_lLE (by omega) (by omega)).mpr (by omega)))]
-- avoids
theorem brs_l {σ : pw_St} : ∀ (n c : Nat) (τ : pw_St), c ≤ 2401 → 2401 - c < n → (∀ r, r ≠ 44 → τ.1 r = σ.1 r) → τ.2 = σ.2 → (∀ j, j < c → τ.1 44 j = vp_nar .boolean (σ.1 51 j)) → ∃ τ2, l_X11_bars_12 n (nI c) τ = b_X11_bars_37 τ2 ∧ (∀ r, r ≠ 44 → τ2.1 r = σ.1 r) ∧ τ2.2 = σ.2 ∧ ∀ j, j < 2401 → τ2.1 44 j = vp_nar .boolean (σ.1 51 j) := by
  intro n
  induction n with
  | zero => intro c τ _ h; omega
  | succ n ih =>
    intro c τ h1 h2 hr hr2 hj
    rw [show l_X11_bars_12 (n + 1) (nI c) τ = b_X11_bars_12 (l_X11_bars_12 n) (nI c) τ from rfl]
    unfold b_X11_bars_12
    by_cases h : c = 2401
    · subst h
      rw [if_pos (by decide)]
      exact ⟨τ, rfl, hr, hr2, hj⟩
    · have hc : c < 2401 := by omega
      rw [if_neg (show ¬ (2401 : Int32) ≤ nI c from nI_ge (b := 2401) hc (by decide)), if_pos (pz_in hc (by decide)), if_pos (pz_in hc (by decide)), pz_lt, nI_clamp (by omega), hr 51 (by omega), rw_sM, nI_1]
      refine ih (c + 1) _ (by omega) (by omega) (fun r hr4 => by rw [rw_ne hr4]; exact hr r hr4) hr2 (fun j hjc => ?_)
      rw [rw_get]
      by_cases hjc2 : j = c
      · subst hjc2; exact pk_us
      · rw [pk_un hjc2]; exact hj j (by omega)
/-- the reference's bars, behind a study -/
theorem brs {σ : pw_St} {x : Int32} {np : Nat} {ev : Nat → Nat} {M Q : Nat → Bool} {σ2 : pw_St} (hs : f_X11_study x σ = some (1, σ2)) (hq : QI σ2 np ev) (h51 : ∀ t, t < 2401 → σ2.1 51 t = if M t then 1 else 0) (hQ : ∀ c, Q c = (pb ev (σ2.1 16) c && !M c)) : ∃ σ3, f_X11_bars x σ = some (1, σ3) ∧ KeepE σ2 σ3 ∧ ∀ j, j < 2401 → σ3.2 45 j = lN (wy ev Q j) := by
  obtain ⟨τ, t1, t2, t3, t4⟩ := brs_l (σ := σ2) pw_FU 0 σ2 (by omega) (by unfold pw_FU; omega) (fun _ _ => rfl) rfl (fun j hj => by omega)
  have hE : KeepE σ2 τ := fun k hk => t2 k (by omega)
  obtain ⟨σ3, m1, m2, m3⟩ := pz_count (σ := τ) (B := M) (Q := Q) (QI_keep hq (Keep_E hE)) (fun t ht => by
    rw [t4 t ht, h51 t ht]
    cases M t
    · exact nar0
    · exact nar1) (fun c => by rw [pb_E (Keep_E hE)]; exact hQ c)
  refine ⟨σ3, ?_, fun k hk => by rw [m2]; exact hE k hk, m3⟩
  unfold f_X11_bars
  rw [hs, pz_bi_some, if_neg (by decide), pz_0, t1]
  unfold b_X11_bars_37
  rw [m1, pz_bv_some, if_pos pz_isb1]
/-- both sides' ways that avoid -/
theorem both2 {σ : pw_St} {np nl tot nc nt n c : Nat} {ev g : Nat → Nat} {Fc Fp : Nat → List Pt_} (hH : HInv σ np nl tot ev g) (hC : CInv σ nc nt Fc Fp) (hn : n < 2 ^ 31) (hN : NInv σ ev n) (hc : c < nc) : ∃ σ1 Q, f_X10_avoids (nI c) σ = some (lN (wy ev Q 0), σ1) ∧ Fresh σ1 ev ∧ NInv σ1 ev n ∧ Keep σ σ1 ∧ (∀ c, Q c = true → pb ev (σ.1 16) c = true) ∧ (∀ c, c < 2401 → pb ev (σ.1 16) c = true → σ1.2 32 c = lN (wy ev Q c)) ∧ ∀ σ1', NFr σ1 σ1' → ∃ σ2, f_X11_bars (nI c) σ1' = some (1, σ2) ∧ KeepE σ1' σ2 ∧ ∀ j, j < 2401 → σ2.2 45 j = lN (wy ev Q j) := by
  have hq := QI_of hH
  have h6 := hq.1.2.1
  obtain ⟨b1, b2, b3, b4, b5, b6, b7, b8⟩ := id hC
  obtain ⟨σ0, T, io, M, k1, k2, k3, k4, hS, f5, eM, h30, -⟩ := both hH hC hn hN hc
  obtain ⟨T', io', -, -, f6, f23, f24⟩ := id k2
  rw [pb_E k4] at f23
  obtain ⟨σ1, u1, u2, u3⟩ := pz_wfill (σ := σ0) (ev := ev) (P := pb ev (σ.1 16)) (B := M) (Q := fun c => pb ev (σ.1 16) c && !M c) (T := T) (io := io) h6 (QI_keep hq k4).2.1 hS f5 f6 f23 h30 (fun c => rfl) (pb_0 _ _)
  have hE : KeepE σ0 σ1 := fun k _ => by rw [u2]
  refine ⟨σ1, _, ?_, Fresh_E k2 hE, NInv_E k3 hE, Keep_tr k4 (Keep_E hE), fun c hc => (Bool.and_eq_true _ _ ▸ hc).1, u3, fun σ1' hE' => ?_⟩
  · unfold f_X10_avoids
    rw [ha_in b3 hc b1, pz_bi_some, if_neg (by decide), k1, pz_bv_some, u1, pz_bl_some]
  · have hK : Keep σ σ1' := Keep_tr (Keep_tr k4 (Keep_E hE)) (Keep_N hE')
    obtain ⟨σ2, m1, m2, m3, m4⟩ := pz_study (HInv_keep hH hK) (CInv_keep hC hK) hc
    have hE2 : KeepE σ1' σ2 := fun k hk => m2 k (by omega) (by omega)
    obtain ⟨σ3, n1, n2, n3⟩ := brs (M := M) (Q := fun c => pb ev (σ.1 16) c && !M c) m1 (QI_keep hq (Keep_tr hK (Keep_E hE2))) (fun t ht => by rw [m4 t ht, pb_E hK, wb_K hK, eM]) (fun c => by rw [pb_E (Keep_tr hK (Keep_E hE2))])
    exact ⟨σ3, n1, KeepE_tr hE2 n2, n3⟩
theorem bars_no {σ : pw_St} {nc : Nat} {x : Int32} (e : σ.1 10 20 = nI nc) (hn : nc ≤ 8) (h : x < 0 ∨ (¬ x < 0 ∧ nI nc ≤ x)) : f_X11_bars x σ = some (0, σ) := by
  unfold f_X11_bars
  rw [stu_no e hn h, pz_bi_some, if_pos rfl, if_pos pz_isb0]
theorem lzero {a : Nat} (h : a < 2 ^ 63) : lg_cmp (lN a) 0 = 0 ↔ a = 0 := by
  rw [lg_cmp_eq]
  exact pk_lEQ (b := 0) h (by decide)
theorem pz_avoids {σ : pw_St} {np nl tot nc nt n : Nat} {ev g : Nat → Nat} {Fc Fp : Nat → List Pt_} (hH : HInv σ np nl tot ev g) (hC : CInv σ nc nt Fc Fp) (hn : n < 2 ^ 31) (hN : NInv σ ev n) (x : Int32) : QrL (f_X10_avoids x) (f_X11_avoids x) σ ev n := by
  obtain ⟨b1, b2, b3, b4, b5, b6, b7, b8⟩ := id hC
  rcases cond3 x b1 with hx | ⟨c, hc, rfl⟩
  · refine ⟨-1, σ, σ, ?_, ?_, hN, Keep_rf σ⟩
    · unfold f_X10_avoids
      rw [has_no b3 hx, pz_bi_some, if_pos rfl]
    · unfold f_X11_avoids
      rw [bars_no b4 b1 hx, pz_bi_some, if_pos rfl]
  obtain ⟨σ1, Q, k1, k2, k3, k4, k5, k6, k7⟩ := both2 hH hC hn hN hc
  obtain ⟨σ2, m1, m2, m3⟩ := k7 σ1 (NFr_rf σ1)
  refine ⟨_, σ1, σ2, k1, ?_, NInv_E k3 m2, Keep_tr k4 (Keep_E m2)⟩
  unfold f_X11_avoids
  rw [m1, pz_bi_some, if_neg (by decide), if_pos (by decide), show σ2.2 45 (0 : Int32).toNatClampNeg = _ from m3 0 (by omega)]
theorem pz_sure {σ : pw_St} {np nl tot nc nt n : Nat} {ev g : Nat → Nat} {Fc Fp : Nat → List Pt_} (hH : HInv σ np nl tot ev g) (hC : CInv σ nc nt Fc Fp) (hn : n < 2 ^ 31) (hN : NInv σ ev n) (x : Int32) : Qr (f_X10_sure x) (f_X11_sure x) σ ev n := by
  obtain ⟨b1, b2, b3, b4, b5, b6, b7, b8⟩ := id hC
  rcases cond3 x b1 with hx | ⟨c, hc, rfl⟩
  · exact Qr_same hN (r := -1) (by unfold f_X10_sure; rw [has_no b3 hx, pz_bi_some, if_pos rfl]) (by unfold f_X11_sure; rw [bars_no b4 b1 hx, pz_bi_some, if_pos rfl])
  obtain ⟨σ1, Q, k1, k2, k3, k4, k5, k6, k7⟩ := both2 hH hC hn hN hc
  obtain ⟨σ2, m1, m2, m3⟩ := k7 σ1 (NFr_rf σ1)
  have hwl := wy_lt ev Q 0
  refine ⟨if wy ev Q 0 = 0 then 1 else 0, σ1, σ2, ?_, ?_, NInv_E k3 m2, Keep_tr k4 (Keep_E m2)⟩
  · unfold f_X10_sure
    rw [ha_in b3 hc b1, pz_bi_some, if_neg (by decide), k1, pz_bl_some]
    by_cases h : wy ev Q 0 = 0
    · rw [if_pos ((lzero (by omega)).mpr h), if_pos h]
    · rw [if_neg (fun e => h ((lzero (by omega)).mp e)), if_neg h]
  · unfold f_X11_sure
    rw [m1, pz_bi_some, if_neg (by decide), if_pos (by decide), show σ2.2 45 (0 : Int32).toNatClampNeg = _ from m3 0 (by omega)]
    by_cases h : wy ev Q 0 = 0
    · rw [if_pos ((lzero (by omega)).mpr h), if_pos h]
    · rw [if_neg (fun e => h ((lzero (by omega)).mp e)), if_neg h]
theorem pz_avoid {σ : pw_St} {np nl tot nc nt n : Nat} {ev g : Nat → Nat} {Fc Fp : Nat → List Pt_} (hH : HInv σ np nl tot ev g) (hC : CInv σ nc nt Fc Fp) (hn : n < 2 ^ 31) (hN : NInv σ ev n) (x y : Int32) : Qr (f_X10_avoid x y) (f_X11_avoid x y) σ ev n := by
  have hq := QI_of hH
  have h6 := hq.1.2.1
  have h0 := h6 0 (by omega)
  have h1' := h6 1 (by omega)
  have h2' := h6 2 (by omega)
  have h3' := h6 3 (by omega)
  have ht := hH.1.2.1
  have e9 := hH.1.2.2.2.2.2.2.1
  have e8 := hH.1.2.2.2.2.2.2.2.1
  obtain ⟨b1, b2, b3, b4, b5, b6, b7, b8⟩ := id hC
  rcases cond3 x b1 with hx | ⟨c, hc, rfl⟩
  · exact Qr_same hN (r := -1) (by unfold f_X10_avoid; rw [has_no b3 hx, pz_bi_some, if_pos rfl]) (by unfold f_X11_avoid; rw [bars_no b4 b1 hx, pz_bi_some, if_pos rfl])
  have bad : (y < 0 ∨ (¬ y < 0 ∧ nI tot ≤ y)) → Qr (f_X10_avoid (nI c) y) (f_X11_avoid (nI c) y) σ ev n := by
    intro hy
    obtain ⟨σ0, T, io, M, -, -, -, -, -, -, -, -, -⟩ := both hH hC hn hN hc
    obtain ⟨σ2, m1, m2, m3, m4⟩ := pz_study hH hC hc
    have hE2 : KeepE σ σ2 := fun k hk => m2 k (by omega) (by omega)
    obtain ⟨σ3, n1, n2, n3⟩ := brs (Q := fun t => pb ev (σ2.1 16) t && !(pb ev (σ.1 16) t && wb σ nl (Fc c) t)) m1 (QI_keep hq (Keep_E hE2)) m4 (fun c => rfl)
    have hE3 := KeepE_tr hE2 n2
    refine ⟨-1, σ, σ3, ?_, ?_, NInv_E hN hE3, Keep_E hE3⟩
    · unfold f_X10_avoid
      rw [ha_in b3 hc b1, pz_bi_some, if_neg (by decide)]
      rcases hy with hy | ⟨hy, hy2⟩
      · rw [if_pos hy]
      · rw [if_neg hy, e9, if_pos hy2]
    · unfold f_X11_avoid
      rw [n1, pz_bi_some, if_neg (by decide), if_pos (by decide)]
      split
      · rfl
      · rw [hE3 10 (by omega), e8]
        rcases hy with hy | ⟨hy, hy2⟩
        · rw [in_neg hy, pz_bi_some, if_pos rfl]
        · rw [in_ge hy hy2 (by omega), pz_bi_some, if_pos rfl]
  rcases ix3 y (show tot < 2 ^ 31 by omega) with h3 | h3 | ⟨i, hi, rfl⟩
  · exact bad (Or.inl h3)
  · exact bad (Or.inr h3)
  obtain ⟨σ1, Q, k1, k2, k3, k4, k5, k6, k7⟩ := both2 hH hC hn hN hc
  have hwl := wy_lt ev Q 0
  have hX : f_X10_avoid (nI c) (nI i) σ = (if (lg_cmp (lN (wy ev Q 0)) (0 : Int64)) = 0 then (some ((-1 : Int32), σ1)) else (pw_bv (f_X10_freshNet σ1) fun σ3 => (pw_bi (f_X9_processAt (0 : Int64) (nI i) σ3) fun r4 σ4 => (some (r4, σ4))))) := by
    unfold f_X10_avoid
    rw [ha_in b3 hc b1, pz_bi_some, if_neg (by decide), if_neg (nI_pos (by omega)), e9, if_neg (nI_ge hi (by omega)), k1, pz_bl_some]
  by_cases hz : wy ev Q 0 = 0
  · obtain ⟨σ2, m1, m2, m3⟩ := k7 σ1 (NFr_rf σ1)
    refine ⟨-1, σ1, σ2, ?_, ?_, NInv_E k3 m2, Keep_tr k4 (Keep_E m2)⟩
    · rw [hX, if_pos ((lzero (by omega)).mpr hz)]
    · unfold f_X11_avoid
      rw [m1, pz_bi_some, if_neg (by decide), if_pos (by decide), show σ2.2 45 (0 : Int32).toNatClampNeg = _ from m3 0 (by omega), if_pos ((lzero (by omega)).mpr hz)]
  · obtain ⟨σ2, u1, u2, u3, u4⟩ := pz_fresh h6 (QI_keep hq k4).2.1 hn k3
    have hK2 := Keep_tr k4 (Keep_N u4)
    have hq2 := QI_keep hq hK2
    obtain ⟨σ3, m1, m2, m3⟩ := k7 σ2 u4
    have hK3 := Keep_tr hK2 (Keep_E m2)
    obtain ⟨T, io, hS, f5, f6, f23, f24⟩ := id u2
    rw [pb_E hK2] at f23
    have hQ0 : Q 0 = true := by
      cases hx : Q 0
      · exact absurd (wy_no hx) hz
      · rfl
    obtain ⟨q, q1, q2, q3⟩ := walk_l (σ := σ2) (τ := σ3) (i := i) (P := pb ev (σ.1 16)) (Q := Q) hq2.2.1 f23 k5 (fun c h => (pb_t.mp h).1) (fun c hc hp => by rw [u4.2]; exact k6 c hc hp) (QI_keep hq hK3).1 m3 (by omega) i 0 pw_FU pw_FU 0 0 (-1) (by omega) (by unfold pw_FU; omega) (by unfold pw_FU; omega) hQ0 sz_0 (by omega)
    refine ⟨nI q, σ2, σ3, ?_, ?_, NInv_E u3 m2, hK3⟩
    · rw [hX, if_neg (fun e => hz ((lzero (by omega)).mp e)), u1, pz_bv_some]
      unfold f_X9_processAt
      rw [show l_X9_processAt_12 pw_FU (nI i) 0 0 (-1) 0 σ2 = some (nI q, σ2) from q2, pz_bi_some]
    · unfold f_X11_avoid
      rw [m1, pz_bi_some, if_neg (by decide), if_pos (by decide), show σ3.2 45 (0 : Int32).toNatClampNeg = _ from m3 0 (by omega), if_neg (fun e => hz ((lzero (by omega)).mp e)), hK3 10 (by omega), e8, in_ok hi (by omega), pz_bi_some, if_neg (by decide)]
      unfold f_X11_walk
      rw [show l_X11_walk_9 pw_FU (nI i) 0 0 0 σ3 = some (nI q, σ3) from q3, pz_bi_some]
