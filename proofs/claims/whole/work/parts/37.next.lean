-- PURE PART: next
/-- x is the least by key of those below n that are P, or -1 -/
def Bst (P : Nat → Bool) (n : Nat) (x : Int32) : Prop := (x = -1 ∧ ∀ c, c < n → P c = false) ∨ ∃ b, b < n ∧ x = nI b ∧ P b = true ∧ ∀ c, c < n → P c = true → key b ≤ key c
theorem key_inj {a b : Nat} (ha : a < 2401) (hb : b < 2401) (h : key a = key b) : a = b := by
  unfold key at h
  omega
theorem Bst_one {P : Nat → Bool} {x y : Int32} (h1 : Bst P 2401 x) (h2 : Bst P 2401 y) : x = y := by
  rcases h1 with ⟨rfl, a⟩ | ⟨b, b1, rfl, b2, b3⟩
  · rcases h2 with ⟨rfl, _⟩ | ⟨c, c1, rfl, c2, c3⟩
    · rfl
    · rw [a c c1] at c2; cases c2
  · rcases h2 with ⟨rfl, a⟩ | ⟨c, c1, rfl, c2, c3⟩
    · rw [a b b1] at b2; cases b2
    · rw [key_inj b1 c1 (Nat.le_antisymm (b3 c c1 c2) (c3 b b1 b2))]
theorem key_lt {c : Nat} (h : c < 2401) : key c < 60025 := by
  have := sz_le c
  unfold key
  omega
theorem ixk (c : Nat) : (2401 : Int32) * nI (sz c) + nI c = nI (key c) := by
  rw [show (2401 : Int32) = nI 2401 from rfl, pk_mul, nI_add]
  rfl
theorem nx_l {σ : pw_St} {np : Nat} {ev : Nat → Nat} (h : QI σ np ev) {x2 : Int32} {P : Nat → Bool} (hP : ∀ c, c < 2401 → (P c = true ↔ pb ev (σ.1 16) c = true ∧ ¬ nI (key c) ≤ x2)) : ∀ (n c : Nat) (x3 : Int32), c ≤ 2401 → 2401 - c < n → Bst P c x3 → ∃ r, Bst P 2401 r ∧ l_X11_next_40 n x2 x3 (nI c) σ = some (r, σ) := by
  intro n
  induction n with
  | zero => intro c x3 _ h; omega
  | succ n ih =>
    intro c x3 h1 h2 hB
    have hk : l_X11_next_40 (n + 1) x2 x3 (nI c) σ = b_X11_next_40 (l_X11_next_40 n) x2 x3 (nI c) σ := rfl
    rw [hk]
    unfold b_X11_next_40
    by_cases he : c = 2401
    · subst he
      rw [if_pos (by decide)]
      exact ⟨x3, hB, rfl⟩
    · have hc : c < 2401 := by omega
      have skip : P c = false → Bst P (c + 1) x3 := by
        intro hp
        rcases hB with ⟨a1, a2⟩ | ⟨b, b1, b2, b3, b4⟩
        · refine Or.inl ⟨a1, fun d hd => ?_⟩
          rcases Nat.lt_or_ge d c with h9 | h9
          · exact a2 d h9
          · rw [show d = c by omega]; exact hp
        · refine Or.inr ⟨b, by omega, b2, b3, fun d hd hpd => ?_⟩
          rcases Nat.lt_or_ge d c with h9 | h9
          · exact b4 d h9 hpd
          · rw [show d = c by omega] at hpd; rw [hp] at hpd; cases hpd
      rw [if_neg (show ¬ (2401 : Int32) ≤ nI c from nI_ge (b := 2401) hc (by decide)), pz_size11 σ (by omega), pz_bi_some, ixk, nI_1]
      cases hp : pb ev (σ.1 16) c
      · rw [ips_f h hc hp, pz_bi_some, if_pos rfl]
        exact ih (c + 1) x3 (by omega) (by omega) (skip (by
          cases hq : P c
          · rfl
          · have := ((hP c hc).mp hq).1; rw [hp] at this; cases this))
      · rw [ips_t h hp, pz_bi_some, if_neg (show ¬ (1 : Int32) = 0 by decide)]
        by_cases hl : nI (key c) ≤ x2
        · rw [if_pos hl]
          exact ih (c + 1) x3 (by omega) (by omega) (skip (by
            cases hq : P c
            · rfl
            · exact absurd hl ((hP c hc).mp hq).2))
        · rw [if_neg hl]
          have hPc : P c = true := (hP c hc).mpr ⟨hp, hl⟩
          unfold b_X11_next_97
          rw [nI_1]
          rcases hB with ⟨a1, a2⟩ | ⟨b, b1, b2, b3, b4⟩
          · rw [if_pos a1]
            refine ih (c + 1) (nI c) (by omega) (by omega) (Or.inr ⟨c, by omega, rfl, hPc, fun d hd hpd => ?_⟩)
            rcases Nat.lt_or_ge d c with h9 | h9
            · rw [a2 d h9] at hpd; cases hpd
            · rw [show d = c by omega]; exact Nat.le_refl _
          · have kb := key_lt (show b < 2401 by omega)
            have kc := key_lt hc
            rw [b2, if_neg (m1_ne (by omega)), pz_size11 σ (by omega), pz_bi_some, ixk]
            by_cases hkk : key b ≤ key c
            · rw [if_pos (nI_le hkk (by omega))]
              refine ih (c + 1) (nI b) (by omega) (by omega) (Or.inr ⟨b, by omega, rfl, b3, fun d hd hpd => ?_⟩)
              rcases Nat.lt_or_ge d c with h9 | h9
              · exact b4 d h9 hpd
              · rw [show d = c by omega]; exact hkk
            · rw [if_neg (nI_ge (by omega) (by omega))]
              refine ih (c + 1) (nI c) (by omega) (by omega) (Or.inr ⟨c, by omega, rfl, hPc, fun d hd hpd => ?_⟩)
              rcases Nat.lt_or_ge d c with h9 | h9
              · have := b4 d h9 hpd; omega
              · rw [show d = c by omega]; exact Nat.le_refl _
theorem dg_zero (p : Nat) : dg 0 p = 0 := by unfold dg; simp
theorem pos_0 (ev : Nat → Nat) (f : Nat → Int32) : pos ev f 0 := by
  refine ⟨⟨by omega, fun p _ => by rw [dg_zero]; omega⟩, fun p _ q _ h => ?_⟩
  rw [dg_zero] at h
  omega
/-- of the sorted row: from place k on, all before it have no greater key than m; then place k is the best behind m -/
theorem Sorted_best {P : Nat → Bool} {f : Nat → Int32} {T : Nat} {io en : Nat → Nat} (hS : Sorted P f T io en) {m k : Nat} {W : Nat → Bool} (hW : ∀ c, c < 2401 → (W c = true ↔ P c = true ∧ m < key c)) (hk : k < T) (hlo : ∀ j, j < k → key (io j) ≤ m) (hm : m < key (io k)) : Bst W 2401 (nI (io k)) := by
  obtain ⟨s1, s2, s3, s4, s5⟩ := hS
  obtain ⟨a1, a2, a3⟩ := s2 k hk
  refine Or.inr ⟨io k, a2, rfl, (hW _ a2).mpr ⟨a3, hm⟩, fun c hc hw => ?_⟩
  obtain ⟨w1, w2⟩ := (hW c hc).mp hw
  obtain ⟨j, j1, j2⟩ := s4 c hc w1
  rw [← j2]
  rcases Nat.lt_trichotomy j k with h9 | h9 | h9
  · have := hlo j h9
    rw [j2] at this
    omega
  · rw [h9]; exact Nat.le_refl _
  · exact Nat.le_of_lt (s3 k j h9 j1)
theorem fb_l {σ : pw_St} {P : Nat → Bool} {T : Nat} {io : Nat → Nat} {cut : Nat} (hc : cut < 2401) (hS : Sorted P (σ.1 22) T io (fun s => le_ P (s + 1))) (e5 : σ.1 3 5 = nI T) (hT : T ≤ 2401) (e24 : ∀ s, s ≤ 24 → σ.1 24 s = nI (le_ P (s + 1))) {W : Nat → Bool} (hW : ∀ c, c < 2401 → (W c = true ↔ P c = true ∧ key cut < key c)) : ∀ (n k : Nat), k ≤ T → T - k < n → le_ P (sz cut) ≤ k → (∀ j, j < k → key (io j) ≤ key cut) → ∃ r, Bst W 2401 r ∧ l_X6_firstBehind_22 n (nI cut) (nI (sz cut)) (nI k) σ = some (r, σ) := by
  intro n
  induction n with
  | zero => intro k _ h; omega
  | succ n ih =>
    intro k h1 h2 h3 hlo
    have hk : l_X6_firstBehind_22 (n + 1) (nI cut) (nI (sz cut)) (nI k) σ = b_X6_firstBehind_22 (l_X6_firstBehind_22 n) (nI cut) (nI (sz cut)) (nI k) σ := rfl
    rw [hk]
    unfold b_X6_firstBehind_22
    rw [e5]
    have hz := sz_le cut
    obtain ⟨s1, s2, s3, s4, s5⟩ := id hS
    by_cases he : k = T
    · subst he
      rw [if_pos (nI_le (Nat.le_refl _) (by omega))]
      refine ⟨-1, Or.inl ⟨rfl, fun c hc => ?_⟩, rfl⟩
      cases hw : W c
      · rfl
      · obtain ⟨w1, w2⟩ := (hW c hc).mp hw
        obtain ⟨j, j1, j2⟩ := s4 c hc w1
        have := hlo j j1
        rw [j2] at this
        omega
    · have hkT : k < T := by omega
      obtain ⟨a1, a2, a3⟩ := s2 k hkT
      have hge : sz cut ≤ sz (io k) := by
        rcases Nat.lt_or_ge (sz (io k)) (sz cut) with h9 | h9
        · have := ((s5 (sz cut - 1) (by omega)).2 k hkT).mpr (by omega)
          try dsimp only at this
          rw [show sz cut - 1 + 1 = sz cut by omega] at this
          omega
        · exact h9
      rw [if_neg (nI_ge hkT (by omega)), if_pos (pz_in (by omega) (by decide)), nI_clamp (n := k) (by omega), a1]
      have ret : b_X6_firstBehind_50 (nI k) σ = some (nI (io k), σ) := by
        unfold b_X6_firstBehind_50
        rw [if_pos (pz_in (by omega) (by decide)), nI_clamp (n := k) (by omega), a1]
      by_cases hlt : cut < io k
      · rw [if_pos (nI_lt hlt (by omega)), ret]
        exact ⟨_, Sorted_best hS hW hkT hlo (by unfold key; omega), rfl⟩
      · rw [if_neg (nI_nlt (by omega) (by omega)), if_pos (pz_in (by omega) (by decide)), nI_clamp (n := sz cut) (by omega), e24 _ hz, ret]
        have hle := le_2401 P (sz cut + 1)
        have hiff := (s5 (sz cut) hz).2 k hkT
        try dsimp only at hiff
        by_cases hb : k < le_ P (sz cut + 1)
        · rw [if_pos (nI_lt hb (by omega)), pz_1, nI_add]
          have hs : sz (io k) = sz cut := by have := hiff.mp hb; omega
          refine ih (k + 1) (by omega) (by omega) (by omega) (fun j hj => ?_)
          rcases Nat.lt_or_ge j k with h9 | h9
          · exact hlo j h9
          · rw [show j = k by omega]
            unfold key
            rw [hs]
            omega
        · rw [if_neg (nI_nlt (by omega) (by omega))]
          have hgt : sz cut < sz (io k) := by
            rcases Nat.lt_or_ge (sz cut) (sz (io k)) with h9 | h9
            · exact h9
            · exact absurd (hiff.mpr h9) hb
          exact ⟨_, Sorted_best hS hW hkT hlo (by unfold key; omega), rfl⟩
theorem pz_next {σ : pw_St} {np n : Nat} {ev : Nat → Nat} (h : QI σ np ev) (hn : n < 2 ^ 31) (hN : NInv σ ev n) (x : Int32) : Qry (f_X10_next x) (f_X11_next x) σ ev n := by
  obtain ⟨hM, q1, q2, q3⟩ := id h
  obtain ⟨σ2, k1, ⟨T, io, k2, k3, k4, k5, k6⟩, k7, k8⟩ := pz_fresh hM.2.1 q1 hn hN
  have h2 := QI_fr h k8
  have hT : T ≤ 2401 := by rw [k2.1]; exact ct_le _ _
  obtain ⟨j0, j1, j2⟩ := k2.2.2.2.1 0 (by omega) (pb_t.mpr (pos_0 ev (σ2.1 16)))
  by_cases hx : x = -1
  · subst hx
    obtain ⟨r, r1, r2⟩ := nx_l h2 (x2 := -1) (P := fun c => pb ev (σ2.1 16) c) (fun c hc => ⟨fun e => ⟨e, fun hle => by
      have kc := key_lt hc
      rw [Int32.le_iff_toInt_le, nI_toInt (by omega)] at hle
      have e1 : (-1 : Int32).toInt = -1 := by decide
      rw [e1] at hle; omega⟩, fun e => e.1⟩) pw_FU 0 (-1) (by omega) (by unfold pw_FU; omega) (Or.inl ⟨rfl, fun c hc => by omega⟩)
    have hb0 : Bst (fun c => pb ev (σ2.1 16) c) 2401 (nI (io 0)) := by
      obtain ⟨a1, a2, a3⟩ := k2.2.1 0 (by omega)
      refine Or.inr ⟨io 0, a2, rfl, a3, fun c hc hp => ?_⟩
      obtain ⟨j, b1, b2⟩ := k2.2.2.2.1 c hc hp
      rw [← b2]
      rcases Nat.lt_or_ge 0 j with h9 | h9
      · exact Nat.le_of_lt (k2.2.2.1 0 j h9 b1)
      · rw [show j = 0 by omega]; exact Nat.le_refl _
    refine ⟨nI (io 0), σ2, ?_, ?_, k7, k8⟩
    · unfold f_X10_next
      rw [if_pos rfl]
      unfold b_X10_next_18
      rw [if_pos rfl, k1, pz_bv_some, if_pos (by decide), show (0 : Int32).toNatClampNeg = 0 from rfl, (k2.2.1 0 (by omega)).1]
    · unfold f_X11_next
      rw [if_pos rfl]
      unfold b_X11_next_15
      rw [if_pos rfl]
      unfold b_X11_next_34
      rw [pz_0, r2, Bst_one r1 hb0]
  · rcases cut3 ev x with ⟨c, rfl, hC⟩ | hno
    · have hc := hC.1
      obtain ⟨W, hW⟩ : ∃ W : Nat → Bool, ∀ d, d < 2401 → (W d = true ↔ pb ev (σ2.1 16) d = true ∧ key c < key d) := ⟨fun d => pb ev (σ2.1 16) d && decide (key c < key d), fun d _ => by simp⟩
      obtain ⟨r, r1, r2⟩ := nx_l h2 (x2 := nI (key c)) (P := W) (fun d hd => by
        have kc := key_lt hc
        have kd := key_lt hd
        rw [hW d hd]
        refine ⟨fun e => ⟨e.1, nI_ge e.2 (by omega)⟩, fun e => ⟨e.1, ?_⟩⟩
        rcases Nat.lt_or_ge (key c) (key d) with h9 | h9
        · exact h9
        · exact absurd (nI_le h9 (by omega)) e.2) pw_FU 0 (-1) (by omega) (by unfold pw_FU; omega) (Or.inl ⟨rfl, fun d hd => by omega⟩)
      have hle := le_mono (pb ev (σ2.1 16)) (show sz c ≤ 25 by have := sz_le c; omega)
      have hall := le_all (pb ev (σ2.1 16))
      have hz := sz_le c
      obtain ⟨r0, t1, t2⟩ := fb_l hc k2 k3 hT k6 hW pw_FU (le_ (pb ev (σ2.1 16)) (sz c)) (by rw [k2.1]; omega) (by unfold pw_FU; omega) (Nat.le_refl _) (fun j hj => by
        have hjT : j < T := by rw [k2.1]; omega
        have hs : sz (io j) < sz c := by
          rcases Nat.lt_or_ge (sz (io j)) (sz c) with h9 | h9
          · exact h9
          · by_cases hz0 : sz c = 0
            · rw [hz0] at hj; exact absurd hj (Nat.not_lt_zero _)
            · have hh : j < le_ (pb ev (σ2.1 16)) (sz c - 1 + 1) := by rw [show sz c - 1 + 1 = sz c by omega]; exact hj
              have := ((k2.2.2.2.2 (sz c - 1) (by omega)).2 j hjT).mp hh
              omega
        obtain ⟨a1, a2, a3⟩ := k2.2.1 j hjT
        unfold key
        omega)
      refine ⟨r0, σ2, ?_, ?_, k7, k8⟩
      · unfold f_X10_next
        rw [if_neg hx, hc_yes hM.2.1 q1 hC, pz_bi_some, if_neg (by decide)]
        unfold b_X10_next_18
        rw [if_neg hx, k1, pz_bv_some]
        unfold f_X6_firstBehind
        rw [pz_size6 σ2 (by omega), pz_bi_some]
        by_cases hz0 : sz c = 0
        · rw [hz0] at t2 ⊢
          rw [if_pos (show nI 0 = 0 from rfl), pz_0]
          rw [show le_ (pb ev (σ2.1 16)) 0 = 0 from rfl] at t2
          rw [t2, pz_bi_some]
        · rw [if_neg (nI_ne0 (by omega) (by omega)), pz_m1 (by omega), if_pos (pz_in (by omega) (by decide)), nI_clamp (by omega), k6 (sz c - 1) (by omega), show sz c - 1 + 1 = sz c by omega, t2, pz_bi_some]
      · unfold f_X11_next
        rw [if_neg hx, ic_yes h2.1 hC, pz_bi_some, if_neg (by decide)]
        unfold b_X11_next_15
        rw [if_neg hx, pz_size11 σ2 (by omega), pz_bi_some, ixk]
        unfold b_X11_next_34
        rw [pz_0, r2, Bst_one r1 t1]
    · refine ⟨-1, σ, ?_, ?_, hN, NFr_rf σ⟩
      · unfold f_X10_next
        rw [if_neg hx, hc_no hM.2.1 q1 hno, pz_bi_some, if_pos rfl]
      · unfold f_X11_next
        rw [if_neg hx, ic_no hM hno, pz_bi_some, if_pos rfl]
