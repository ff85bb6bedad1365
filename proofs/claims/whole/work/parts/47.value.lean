-- PURE PART: value; may, last, many
theorem mk0 : (if false = true then (1 : Int32) else 0) = 0 := rfl
theorem mk1 : (if true = true then (1 : Int32) else 0) = 1 := rfl
def Vop (fx fm : pw_St → Option (Int32 × pw_St)) (σ : pw_St) : Prop := ∃ r σ1 σ2, fx σ = some (r, σ1) ∧ fm σ1 = some (r, σ2) ∧ (∀ k, k ≠ 0 → k ≠ 10 → k ≠ 28 → k ≠ 29 → k ≠ 50 → σ2.1 k = σ.1 k) ∧ (∀ j, j ≠ 22 → σ2.1 10 j = σ.1 10 j) ∧ σ2.1 0 8 = σ2.1 10 22
theorem pz_value {σ : pw_St} {np nl tot nc nt : Nat} {ev g : Nat → Nat} {Fc Fp : Nat → List Pt_} (hH : HInv σ np nl tot ev g) (hC : CInv σ nc nt Fc Fp) (x1 x2 : Int32) : Vop (f_X10_value x1 x2) (f_X11_value x1 x2) σ := by
  have hq := QI_of hH
  obtain ⟨b1, b2, b3, b4, b5, b6, b7, b8⟩ := id hC
  have hbad : (∃ σ1, σ1 = pw_rw σ 0 (upd (σ.1 0) 8 (-1)) ∧ f_X10_value x1 x2 σ = b_X10_value_22 σ ∧ f_X11_value x1 x2 σ1 = b_X11_value_27 x1 x2 σ1) → Vop (f_X10_value x1 x2) (f_X11_value x1 x2) σ := by
    rintro ⟨σ1, e1, h1, h2⟩
    obtain ⟨σ2, e2⟩ : ∃ σ2, σ2 = pw_rw σ1 10 (upd (σ1.1 10) 22 (-1)) := ⟨_, rfl⟩
    have r22 : σ2.1 10 22 = -1 := by rw [e2, rw_get]; exact pk_us
    refine ⟨0, σ1, σ2, ?_, ?_, fun k a b _ _ _ => ?_, fun j hj => ?_, ?_⟩
    · rw [h1]; unfold b_X10_value_22; rw [pz_lt, rw_sM, ← e1]
    · rw [h2]; unfold b_X11_value_27 b_X11_value_28; rw [pz_lt, rw_sM, ← e2, r22, if_neg (by decide)]
    · rw [e2, rw_ne b, e1, rw_ne a]
    · rw [e2, rw_get, pk_un hj, e1, rw_ne (by omega)]
    · rw [r22, e2, rw_ne (by omega), e1, rw_get]; exact pk_us
  have hq1 : ∀ v, QI (pw_rw σ 0 v) np ev := fun v => hq
  rcases cond3 x1 b1 with hx | ⟨c, hc, rfl⟩
  · refine hbad ⟨_, rfl, ?_, ?_⟩
    · unfold f_X10_value; rw [has_no b3 hx, pz_bi_some, if_pos rfl]
    · unfold f_X11_value; rw [st_no (σ := pw_rw σ 0 (upd (σ.1 0) 8 (-1))) b4 b1 hx, pz_bi_some, if_pos rfl]
  rcases cut3 ev x2 with ⟨t, rfl, hCt⟩ | hno
  · obtain ⟨σ1, e1⟩ : ∃ σ1, σ1 = pw_rw σ 0 (upd (σ.1 0) 8 0) := ⟨_, rfl⟩
    obtain ⟨q1, q2, q3⟩ := b7 c hc
    have hnl := nl_24 hH
    have hH1 : HInv σ1 np nl tot ev g := by rw [e1]; exact hH
    obtain ⟨rr, hh, kw⟩ := wx (σ := σ1) (m := c + 6) (c := t) (nl := nl) (F := Fc c) hCt.1 hH1.1.2.2.2.2.2.2.2.2.1 hnl.1 (RepX_same q1 (by rw [e1, rw_ne (by omega)]) (by rw [e1, rw_ne (by omega)]) (by rw [e1, rw_ne (by omega)]) (by rw [e1, rw_ne (by omega)])) q3
    obtain ⟨σ2, e2⟩ : ∃ σ2, σ2 = pw_rw (pw_rw σ1 28 rr) 29 hh := ⟨_, rfl⟩
    obtain ⟨σ3, e3⟩ : ∃ σ3, σ3 = pw_rw σ2 10 (upd (σ2.1 10) 22 0) := ⟨_, rfl⟩
    have hK2 : ∀ k, k ≠ 0 → k ≠ 28 → k ≠ 29 → σ2.1 k = σ.1 k := fun k a b c => by rw [e2, rw_ne c, rw_ne b, e1, rw_ne a]
    have hH2 : HInv σ2 np nl tot ev g := HInv_rows hH (fun k hk => hK2 k (by omega) (by omega) (by omega)) (by rw [hK2 1 (by omega) (by omega) (by omega)]) (by rw [hK2 1 (by omega) (by omega) (by omega)]) (by rw [hK2 10 (by omega) (by omega) (by omega)]) (by rw [hK2 10 (by omega) (by omega) (by omega)]) (by rw [hK2 10 (by omega) (by omega) (by omega)])
    have hH3 : HInv σ3 np nl tot ev g := HInv_rows hH2 (fun k hk => by rw [e3, rw_ne (by omega)]) (by rw [e3, rw_ne (by omega)]) (by rw [e3, rw_ne (by omega)]) (by rw [e3, rw_get, pk_un (by omega)]) (by rw [e3, rw_get, pk_un (by omega)]) (by rw [e3, rw_get, pk_un (by omega)])
    have hK3 : ∀ k, k ≠ 0 → k ≠ 10 → k ≠ 28 → k ≠ 29 → σ3.1 k = σ.1 k := fun k a b c d => by rw [e3, rw_ne b]; exact hK2 k a c d
    obtain ⟨h4, km⟩ := wm (d := c) (F := Fc c) hH3 hCt (by omega) (RepM_same q2 (hK3 _ (by omega) (by omega) (by omega) (by omega)) (hK3 _ (by omega) (by omega) (by omega) (by omega)) (hK3 _ (by omega) (by omega) (by omega) (by omega)) (hK3 _ (by omega) (by omega) (by omega) (by omega))) q3
    have ew1 : wv σ1 nl (Fc c) t = wv σ nl (Fc c) t := by rw [e1]; rfl
    have ew3 : wv σ3 nl (Fc c) t = wv σ nl (Fc c) t := wv_cong (hK3 _ (by omega) (by omega) (by omega) (by omega)) (hK3 _ (by omega) (by omega) (by omega) (by omega)) (hK3 _ (by omega) (by omega) (by omega) (by omega)) (hK3 _ (by omega) (by omega) (by omega) (by omega)) (hK3 _ (by omega) (by omega) (by omega) (by omega))
    have r22 : σ3.1 10 22 = 0 := by rw [e3, rw_get]; exact pk_us
    refine ⟨wv σ nl (Fc c) t, σ2, pw_rw σ3 50 h4, ?_, ?_, fun k a b c d e => ?_, fun j hj => ?_, ?_⟩
    · unfold f_X10_value
      rw [ha_in b3 hc b1, pz_bi_some, if_neg (by decide), hc_yes hq.1.2.1 hq.2.1 hCt, pz_bi_some, if_neg (by decide), pz_lt, if_pos (pz_in (by omega) (by decide)), nI_clamp (by omega), rw_sM, ← e1, kw, pz_bi_some, ← e2, ew1]
    · unfold f_X11_value
      have b4' : σ2.1 10 20 = nI nc := by rw [hK2 10 (by omega) (by omega) (by omega)]; exact b4
      rw [st_yes b4' b1 hc, pz_bi_some, if_neg (by decide), ic_yes (QI_of hH2).1 hCt, pz_bi_some, if_neg (by decide)]
      unfold b_X11_value_28
      rw [pz_lt, rw_sM, ← e3, r22, if_pos rfl, km, pz_bi_some, ew3]
    · rw [rw_ne e]; exact hK3 k a b c d
    · rw [rw_ne (by omega), e3, rw_get, pk_un hj, hK2 10 (by omega) (by omega) (by omega)]
    · rw [rw_ne (by omega), rw_ne (by omega), r22, e3, rw_ne (by omega), e2, rw_ne (by omega), rw_ne (by omega), e1, rw_get]; exact pk_us
  · refine hbad ⟨_, rfl, ?_, ?_⟩
    · unfold f_X10_value
      rw [ha_in b3 hc b1, pz_bi_some, if_neg (by decide), hc_no hq.1.2.1 hq.2.1 hno, pz_bi_some, if_pos rfl]
    · unfold f_X11_value
      rw [st_yes (σ := pw_rw σ 0 (upd (σ.1 0) 8 (-1))) b4 b1 hc, pz_bi_some, if_neg (by decide), ic_no (hq1 _).1 hno, pz_bi_some, if_pos rfl]
/-- the greatest -/
def Wst (P : Nat → Bool) (n : Nat) (x : Int32) : Prop := (x = -1 ∧ ∀ c, c < n → P c = false) ∨ ∃ b, b < n ∧ x = nI b ∧ P b = true ∧ ∀ c, c < n → P c = true → key c ≤ key b
theorem Wst_one {P : Nat → Bool} {x y : Int32} (h1 : Wst P 2401 x) (h2 : Wst P 2401 y) : x = y := by
  rcases h1 with ⟨e1, h1⟩ | ⟨b, hb, e1, hP, h1⟩
  · rcases h2 with ⟨e2, h2⟩ | ⟨d, hd, e2, hP2, h2⟩
    · rw [e1, e2]
    · have := h1 d hd; rw [hP2] at this; cases this
  · rcases h2 with ⟨e2, h2⟩ | ⟨d, hd, e2, hP2, h2⟩
    · have := h2 b hb; rw [hP] at this; cases this
    · have k1 := h1 d hd hP2
      have k2 := h2 b hb hP
      have := key_inj hb hd (by omega)
      rw [e1, e2, this]
theorem nm1 {b : Nat} (h : b < 2 ^ 31) : ¬ nI b = -1 := fun e => absurd (show nI b < 0 by rw [e]; decide) (nI_pos h)
theorem fo_l {σ : pw_St} {P M : Nat → Bool} {T : Nat} {io en : Nat → Nat} (hS : Sorted P (σ.1 22) T io en) (e5 : σ.1 3 5 = nI T) (hM : ∀ c, M c = true → P c = true) (h30 : ∀ t, t < 2401 → P t = true → σ.1 30 t = if M t then 1 else 0) : ∀ (n k : Nat), k ≤ T → T - k < n → (∀ j, j < k → M (io j) = false) → ∃ r, Bst M 2401 r ∧ l_X6_firstOf_2 n (nI k) σ = some (r, σ) := by
  have hT := Sorted_T hS
  intro n
  induction n with
  | zero => intro k _ h; omega
  | succ n ih =>
    intro k h1 h2 hj
    rw [show l_X6_firstOf_2 (n + 1) (nI k) σ = b_X6_firstOf_2 (l_X6_firstOf_2 n) (nI k) σ from rfl]
    unfold b_X6_firstOf_2
    rw [e5]
    by_cases h : k = T
    · subst h
      rw [if_pos (nI_le (Nat.le_refl _) (by omega))]
      refine ⟨-1, Or.inl ⟨rfl, fun c hc => ?_⟩, rfl⟩
      by_cases hm : M c = true
      · obtain ⟨j, hj1, hj2⟩ := hS.2.2.2.1 c hc (hM c hm)
        rw [← hj2]; exact hj j hj1
      · simpa using hm
    · have hk : k < T := by omega
      obtain ⟨s1, s2, s3⟩ := hS.2.1 k hk
      rw [if_neg (nI_ge hk (by omega)), if_pos (pz_in (by omega) (by decide)), nI_clamp (by omega), s1, if_pos (pz_in s2 (by decide)), nI_clamp (by omega), h30 _ s2 s3]
      by_cases hm : M (io k) = true
      · rw [hm, if_pos rfl, if_neg (by decide)]
        unfold b_X6_firstOf_21
        rw [if_pos (pz_in (by omega) (by decide)), nI_clamp (by omega), s1]
        refine ⟨nI (io k), Or.inr ⟨io k, s2, rfl, hm, fun c hc hMc => ?_⟩, rfl⟩
        obtain ⟨j, hj1, hj2⟩ := hS.2.2.2.1 c hc (hM c hMc)
        rcases Nat.lt_trichotomy j k with hl | hl | hl
        · have := hj j hl; rw [hj2, hMc] at this; cases this
        · rw [← hj2, hl]; exact Nat.le_refl _
        · have := hS.2.2.1 k j hl hj1; rw [hj2] at this; omega
      · have hmf : M (io k) = false := by simpa using hm
        rw [hmf, mk0, if_pos rfl, nI_1]
        refine ih (k + 1) (by omega) (by omega) (fun j hjk => ?_)
        by_cases hjk2 : j = k
        · rw [hjk2]; exact hmf
        · exact hj j (by omega)
theorem la_l {σ : pw_St} {P M : Nat → Bool} {T : Nat} {io en : Nat → Nat} (hS : Sorted P (σ.1 22) T io en) (hM : ∀ c, M c = true → P c = true) (h30 : ∀ t, t < 2401 → P t = true → σ.1 30 t = if M t then 1 else 0) : ∀ (n k : Nat), k ≤ T → k < n → (∀ j, k ≤ j → j < T → M (io j) = false) → ∃ r, Wst M 2401 r ∧ l_X6_lastOf_7 n (nI k - 1) σ = some (r, σ) := by
  have hT := Sorted_T hS
  intro n
  induction n with
  | zero => intro k _ h; omega
  | succ n ih =>
    intro k h1 h2 hj
    rw [show l_X6_lastOf_7 (n + 1) (nI k - 1) σ = b_X6_lastOf_7 (l_X6_lastOf_7 n) (nI k - 1) σ from rfl]
    unfold b_X6_lastOf_7
    by_cases h : k = 0
    · subst h
      rw [if_pos (by decide)]
      refine ⟨-1, Or.inl ⟨rfl, fun c hc => ?_⟩, rfl⟩
      by_cases hm : M c = true
      · obtain ⟨j, hj1, hj2⟩ := hS.2.2.2.1 c hc (hM c hm)
        rw [← hj2]; exact hj j (by omega) hj1
      · simpa using hm
    · have hk : k - 1 < T := by omega
      obtain ⟨s1, s2, s3⟩ := hS.2.1 (k - 1) hk
      rw [pz_m1 (by omega), if_neg (nI_pos (by omega)), if_pos (pz_in (by omega) (by decide)), nI_clamp (by omega), s1, if_pos (pz_in s2 (by decide)), nI_clamp (by omega), h30 _ s2 s3]
      by_cases hm : M (io (k - 1)) = true
      · rw [hm, if_pos rfl, if_neg (by decide)]
        unfold b_X6_lastOf_22
        rw [if_pos (pz_in (by omega) (by decide)), nI_clamp (by omega), s1]
        refine ⟨nI (io (k - 1)), Or.inr ⟨io (k - 1), s2, rfl, hm, fun c hc hMc => ?_⟩, rfl⟩
        obtain ⟨j, hj1, hj2⟩ := hS.2.2.2.1 c hc (hM c hMc)
        rcases Nat.lt_trichotomy j (k - 1) with hl | hl | hl
        · have := hS.2.2.1 j (k - 1) hl hk; rw [hj2] at this; omega
        · rw [← hj2, hl]; exact Nat.le_refl _
        · have := hj j (by omega) hj1; rw [hj2, hMc] at this; cases this
      · have hmf : M (io (k - 1)) = false := by simpa using hm
        rw [hmf, mk0, if_pos rfl, ← Int32.sub_eq_add_neg]
        refine ih (k - 1) (by omega) (by omega) (fun j hjk hjT => ?_)
        by_cases hjk2 : j = k - 1
        · rw [hjk2]; exact hmf
        · exact hj j (by omega) hjT
theorem hm_l {σ : pw_St} {P M : Nat → Bool} {T : Nat} {io en : Nat → Nat} (hS : Sorted P (σ.1 22) T io en) (e5 : σ.1 3 5 = nI T) (h30 : ∀ t, t < 2401 → P t = true → σ.1 30 t = if M t then 1 else 0) : ∀ (n k : Nat), k ≤ T → T - k < n → l_X6_howManyIn_4 n (nI (ct (fun j => M (io j)) k)) (nI k) σ = some (nI (ct (fun j => M (io j)) T), σ) := by
  have hT := Sorted_T hS
  intro n
  induction n with
  | zero => intro k _ h; omega
  | succ n ih =>
    intro k h1 h2
    rw [show l_X6_howManyIn_4 (n + 1) (nI (ct (fun j => M (io j)) k)) (nI k) σ = b_X6_howManyIn_4 (l_X6_howManyIn_4 n) (nI (ct (fun j => M (io j)) k)) (nI k) σ from rfl]
    unfold b_X6_howManyIn_4
    rw [e5]
    by_cases h : k = T
    · subst h
      rw [if_pos (nI_le (Nat.le_refl _) (by omega))]
    · have hk : k < T := by omega
      obtain ⟨s1, s2, s3⟩ := hS.2.1 k hk
      rw [if_neg (nI_ge hk (by omega)), if_pos (pz_in (by omega) (by decide)), nI_clamp (by omega), s1, if_pos (pz_in s2 (by decide)), nI_clamp (by omega), h30 _ s2 s3]
      have hI := ih (k + 1) (by omega) (by omega)
      have hct : ct (fun j => M (io j)) (k + 1) = ct (fun j => M (io j)) k + (if M (io k) then 1 else 0) := rfl
      by_cases hm : M (io k) = true
      · rw [hm, if_pos rfl] at hct
        rw [hm, if_pos rfl, if_neg (by decide), nI_1, nI_1, ← hct]; exact hI
      · have hmf : M (io k) = false := by simpa using hm
        rw [hmf, if_neg (by decide)] at hct
        rw [hmf, mk0, if_pos rfl, nI_1]
        rw [hct] at hI; exact hI
theorem ct_one {A B : Nat → Bool} {k0 : Nat} (hA : A k0 = false) (hB0 : B k0 = true) (hB : ∀ k, k ≠ k0 → B k = A k) : ∀ {T : Nat}, (k0 < T → ct B T = ct A T + 1) ∧ (T ≤ k0 → ct B T = ct A T)
  | 0 => ⟨fun h => by omega, fun _ => rfl⟩
  | T + 1 => by
    obtain ⟨i1, i2⟩ := ct_one hA hB0 hB (T := T)
    have e1 : ct B (T + 1) = ct B T + (if B T then 1 else 0) := rfl
    have e2 : ct A (T + 1) = ct A T + (if A T then 1 else 0) := rfl
    refine ⟨fun h => ?_, fun h => ?_⟩
    · by_cases hT : T = k0
      · subst hT
        rw [e1, e2, i2 (Nat.le_refl _), hA, hB0]; rfl
      · rw [e1, e2, i1 (by omega), hB T hT]; omega
    · rw [e1, e2, i2 (by omega), hB T (by omega)]
theorem ct_zero : ∀ {T : Nat} {A : Nat → Bool}, (∀ k, k < T → A k = false) → ct A T = 0
  | 0, _, _ => rfl
  | T + 1, A, h => by
    show ct A T + (if A T then 1 else 0) = 0
    rw [ct_zero (fun k hk => h k (by omega)), h T (by omega)]; rfl
theorem Sorted_ct {P M : Nat → Bool} {f : Nat → Int32} {T : Nat} {io en : Nat → Nat} (hS : Sorted P f T io en) (hM : ∀ c, M c = true → P c = true) : ∀ N, N ≤ 2401 → ct (fun k => decide (k < T) && (M (io k) && decide (io k < N))) T = ct M N := by
  intro N
  induction N with
  | zero => intro _; exact ct_zero (fun k _ => by simp)
  | succ N ih =>
    intro hN
    have e : ct M (N + 1) = ct M N + (if M N then 1 else 0) := rfl
    by_cases hm : M N = true
    · obtain ⟨k0, hk, hk2⟩ := hS.2.2.2.1 N (by omega) (hM N hm)
      rw [e, hm, if_pos rfl, ← ih (by omega)]
      refine (ct_one (k0 := k0) ?_ ?_ (fun k hkk => ?_)).1 hk
      · rw [hk2]; simp
      · show (decide (k0 < T) && (M (io k0) && decide (io k0 < N + 1))) = true
        rw [hk2, hm, decide_eq_true hk, decide_eq_true (show N < N + 1 by omega)]; rfl
      · show (decide (k < T) && (M (io k) && decide (io k < N + 1))) = (decide (k < T) && (M (io k) && decide (io k < N)))
        by_cases hkT : k < T
        · have : io k ≠ N := fun hh => hkk (Sorted_inj hS hkT hk (hh.trans hk2.symm))
          congr 2
          exact decide_eq_decide.mpr (by omega)
        · rw [decide_eq_false hkT]; rfl
    · have hmf : M N = false := by simpa using hm
      rw [e, hmf, ← ih (by omega)]
      refine ct_cong (fun k hkT => ?_)
      show (decide (k < T) && (M (io k) && decide (io k < N + 1))) = (decide (k < T) && (M (io k) && decide (io k < N)))
      by_cases hkN : io k = N
      · rw [hkN, hmf]; simp
      · congr 2
        exact decide_eq_decide.mpr (by omega)
theorem Sorted_count {P M : Nat → Bool} {f : Nat → Int32} {T : Nat} {io en : Nat → Nat} (hS : Sorted P f T io en) (hM : ∀ c, M c = true → P c = true) : ct (fun k => M (io k)) T = ct M 2401 := by
  rw [← Sorted_ct hS hM 2401 (Nat.le_refl _)]
  refine (ct_cong (fun k hkT => ?_)).symm
  show (decide (k < T) && (M (io k) && decide (io k < 2401))) = M (io k)
  rw [decide_eq_true hkT, decide_eq_true (hS.2.1 k hkT).2.1, Bool.true_and, Bool.and_true]
