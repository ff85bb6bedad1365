-- PURE PART: may, last, many
theorem ex_may {σ : pw_St} {M : Nat → Bool} (h51 : ∀ t, t < 2401 → σ.1 51 t = if M t then 1 else 0) : ∀ (n c : Nat) (x : Int32), c ≤ 2401 → 2401 - c < n → Bst M c x → ∃ r, Bst M 2401 r ∧ l_X11_extreme_15 n 0 x (nI c) σ = some (r, σ) := by
  intro n
  induction n with
  | zero => intro c x _ h; omega
  | succ n ih =>
    intro c x h1 h2 hB
    rw [show l_X11_extreme_15 (n + 1) 0 x (nI c) σ = b_X11_extreme_15 (l_X11_extreme_15 n) 0 x (nI c) σ from rfl]
    unfold b_X11_extreme_15
    by_cases h : c = 2401
    · subst h
      rw [if_pos (by decide)]
      exact ⟨x, hB, rfl⟩
    · have hc : c < 2401 := by omega
      rw [if_neg (show ¬ (2401 : Int32) ≤ nI c from nI_ge (b := 2401) hc (by decide)), if_pos (pz_in hc (by decide)), nI_clamp (by omega), h51 c hc]
      have hstay : M c = false → Bst M (c + 1) x := by
        intro hm
        rcases hB with ⟨e, hB⟩ | ⟨b, hb, e, hP, hB⟩
        · refine Or.inl ⟨e, fun t ht => ?_⟩
          by_cases htc : t = c
          · rw [htc]; exact hm
          · exact hB t (by omega)
        · refine Or.inr ⟨b, by omega, e, hP, fun t ht hPt => ?_⟩
          by_cases htc : t = c
          · rw [htc, hm] at hPt; cases hPt
          · exact hB t (by omega) hPt
      by_cases hm : M c = true
      · rw [hm, mk1, if_neg (by decide), pz_size11 σ (by omega), pz_bi_some]
        rcases hB with ⟨e, hB⟩ | ⟨b, hb, e, hP, hB⟩
        · rw [if_pos e]
          unfold b_X11_extreme_79
          rw [nI_1]
          refine ih (c + 1) _ (by omega) (by omega) (Or.inr ⟨c, by omega, rfl, hm, fun t ht hPt => ?_⟩)
          by_cases htc : t = c
          · rw [htc]; exact Nat.le_refl _
          · have := hB t (by omega); rw [hPt] at this; cases this
        · subst e
          rw [if_neg (nm1 (by omega)), pz_size11 σ (by omega), pz_bi_some, ixk, ixk]
          have kb := key_lt (show b < 2401 by omega)
          have kc := key_lt hc
          by_cases hk : key c ≤ key b
          · rw [if_pos (nI_le hk (by omega))]
            unfold b_X11_extreme_75
            rw [if_pos rfl]
            unfold b_X11_extreme_79
            rw [nI_1]
            refine ih (c + 1) _ (by omega) (by omega) (Or.inr ⟨c, by omega, rfl, hm, fun t ht hPt => ?_⟩)
            by_cases htc : t = c
            · rw [htc]; exact Nat.le_refl _
            · have := hB t (by omega) hPt; omega
          · rw [if_neg (nI_ge (by omega) (by omega))]
            unfold b_X11_extreme_75
            rw [if_neg (by decide), nI_1]
            refine ih (c + 1) _ (by omega) (by omega) (Or.inr ⟨b, by omega, rfl, hP, fun t ht hPt => ?_⟩)
            by_cases htc : t = c
            · rw [htc]; omega
            · exact hB t (by omega) hPt
      · have hmf : M c = false := by simpa using hm
        rw [hmf, mk0, if_pos rfl, nI_1]
        exact ih (c + 1) _ (by omega) (by omega) (hstay hmf)
theorem ex_last {σ : pw_St} {M : Nat → Bool} (h51 : ∀ t, t < 2401 → σ.1 51 t = if M t then 1 else 0) : ∀ (n c : Nat) (x : Int32), c ≤ 2401 → 2401 - c < n → Wst M c x → ∃ r, Wst M 2401 r ∧ l_X11_extreme_15 n 1 x (nI c) σ = some (r, σ) := by
  intro n
  induction n with
  | zero => intro c x _ h; omega
  | succ n ih =>
    intro c x h1 h2 hB
    rw [show l_X11_extreme_15 (n + 1) 1 x (nI c) σ = b_X11_extreme_15 (l_X11_extreme_15 n) 1 x (nI c) σ from rfl]
    unfold b_X11_extreme_15
    by_cases h : c = 2401
    · subst h
      rw [if_pos (by decide)]
      exact ⟨x, hB, rfl⟩
    · have hc : c < 2401 := by omega
      rw [if_neg (show ¬ (2401 : Int32) ≤ nI c from nI_ge (b := 2401) hc (by decide)), if_pos (pz_in hc (by decide)), nI_clamp (by omega), h51 c hc]
      have hstay : M c = false → Wst M (c + 1) x := by
        intro hm
        rcases hB with ⟨e, hB⟩ | ⟨b, hb, e, hP, hB⟩
        · refine Or.inl ⟨e, fun t ht => ?_⟩
          by_cases htc : t = c
          · rw [htc]; exact hm
          · exact hB t (by omega)
        · refine Or.inr ⟨b, by omega, e, hP, fun t ht hPt => ?_⟩
          by_cases htc : t = c
          · rw [htc, hm] at hPt; cases hPt
          · exact hB t (by omega) hPt
      by_cases hm : M c = true
      · rw [hm, mk1, if_neg (by decide), pz_size11 σ (by omega), pz_bi_some]
        rcases hB with ⟨e, hB⟩ | ⟨b, hb, e, hP, hB⟩
        · rw [if_pos e]
          unfold b_X11_extreme_79
          rw [nI_1]
          refine ih (c + 1) _ (by omega) (by omega) (Or.inr ⟨c, by omega, rfl, hm, fun t ht hPt => ?_⟩)
          by_cases htc : t = c
          · rw [htc]; exact Nat.le_refl _
          · have := hB t (by omega); rw [hPt] at this; cases this
        · subst e
          rw [if_neg (nm1 (by omega)), pz_size11 σ (by omega), pz_bi_some, ixk, ixk]
          have kb := key_lt (show b < 2401 by omega)
          have kc := key_lt hc
          by_cases hk : key c ≤ key b
          · rw [if_pos (nI_le hk (by omega))]
            unfold b_X11_extreme_75
            rw [if_neg (by decide), nI_1]
            refine ih (c + 1) _ (by omega) (by omega) (Or.inr ⟨b, by omega, rfl, hP, fun t ht hPt => ?_⟩)
            by_cases htc : t = c
            · rw [htc]; exact hk
            · exact hB t (by omega) hPt
          · rw [if_neg (nI_ge (by omega) (by omega))]
            unfold b_X11_extreme_75
            rw [if_pos rfl]
            unfold b_X11_extreme_79
            rw [nI_1]
            refine ih (c + 1) _ (by omega) (by omega) (Or.inr ⟨c, by omega, rfl, hm, fun t ht hPt => ?_⟩)
            by_cases htc : t = c
            · rw [htc]; exact Nat.le_refl _
            · have := hB t (by omega) hPt; omega
      · have hmf : M c = false := by simpa using hm
        rw [hmf, mk0, if_pos rfl, nI_1]
        exact ih (c + 1) _ (by omega) (by omega) (hstay hmf)
theorem mn_l {σ : pw_St} {M : Nat → Bool} (h51 : ∀ t, t < 2401 → σ.1 51 t = if M t then 1 else 0) : ∀ (n c : Nat), c ≤ 2401 → 2401 - c < n → l_X11_many_14 n (nI (ct M c)) (nI c) σ = some (nI (ct M 2401), σ) := by
  intro n
  induction n with
  | zero => intro c _ h; omega
  | succ n ih =>
    intro c h1 h2
    rw [show l_X11_many_14 (n + 1) (nI (ct M c)) (nI c) σ = b_X11_many_14 (l_X11_many_14 n) (nI (ct M c)) (nI c) σ from rfl]
    unfold b_X11_many_14
    by_cases h : c = 2401
    · subst h
      rw [if_pos (by decide)]
    · have hc : c < 2401 := by omega
      rw [if_neg (show ¬ (2401 : Int32) ≤ nI c from nI_ge (b := 2401) hc (by decide)), if_pos (pz_in hc (by decide)), nI_clamp (by omega), h51 c hc]
      have hI := ih (c + 1) (by omega) (by omega)
      rw [ct_s] at hI
      by_cases hm : M c = true
      · rw [hm, mk1, if_neg (by decide)]
        rw [hm, if_pos rfl] at hI
        unfold b_X11_many_36
        rw [nI_1, nI_1]; exact hI
      · have hmf : M c = false := by simpa using hm
        rw [hmf, mk0, if_pos rfl]
        rw [hmf, if_neg (by decide)] at hI
        unfold b_X11_many_36
        rw [Int32.add_zero, nI_1]; exact hI
/-- both sides' marks -/
theorem both {σ : pw_St} {np nl tot nc nt n c : Nat} {ev g : Nat → Nat} {Fc Fp : Nat → List Pt_} (hH : HInv σ np nl tot ev g) (hC : CInv σ nc nt Fc Fp) (hn : n < 2 ^ 31) (hN : NInv σ ev n) (hc : c < nc) : ∃ σ1 T io M, f_X10_markedNet (nI c) σ = some σ1 ∧ Fresh σ1 ev ∧ NInv σ1 ev n ∧ Keep σ σ1 ∧ Sorted (pb ev (σ.1 16)) (σ1.1 22) T io (fun s => le_ (pb ev (σ.1 16)) (s + 1)) ∧ σ1.1 3 5 = nI T ∧ (M = fun t => pb ev (σ.1 16) t && wb σ nl (Fc c) t) ∧ (∀ t, t < 2401 → pb ev (σ.1 16) t = true → σ1.1 30 t = if M t then 1 else 0) ∧ ∀ σ1', KeepE σ1 σ1' → ∃ σ2, f_X11_study (nI c) σ1' = some (1, σ2) ∧ (∀ r, r ≠ 50 → r ≠ 51 → σ2.1 r = σ1'.1 r) ∧ σ2.2 = σ1'.2 ∧ KeepE σ1 σ2 ∧ ∀ t, t < 2401 → σ2.1 51 t = if M t then 1 else 0 := by
  obtain ⟨σ1, k1, k2, k3, k4, k5⟩ := pz_marked hH hC hn hN hc
  obtain ⟨T, io, hS, f5, f6, f23, f24⟩ := id k2
  rw [pb_E k4] at hS
  refine ⟨σ1, T, io, _, k1, k2, k3, k4, hS, f5, rfl, fun t ht hp => ?_, fun σ1' hE => ?_⟩
  · rw [k5 t ht hp, hp]; rfl
  · have hK : Keep σ σ1' := Keep_tr k4 (Keep_E hE)
    obtain ⟨σ2, m1, m2, m3, m4⟩ := pz_study (HInv_keep hH hK) (CInv_keep hC hK) hc
    refine ⟨σ2, m1, m2, m3, KeepE_tr hE (fun k hk => m2 k (by omega) (by omega)), fun t ht => ?_⟩
    rw [m4 t ht, pb_E hK, wb_K hK]
theorem pz_may {σ : pw_St} {np nl tot nc nt n : Nat} {ev g : Nat → Nat} {Fc Fp : Nat → List Pt_} (hH : HInv σ np nl tot ev g) (hC : CInv σ nc nt Fc Fp) (hn : n < 2 ^ 31) (hN : NInv σ ev n) (x : Int32) : Qr (f_X10_may x) (f_X11_may x) σ ev n := by
  obtain ⟨b1, b2, b3, b4, b5, b6, b7, b8⟩ := id hC
  rcases cond3 x b1 with hx | ⟨c, hc, rfl⟩
  · exact Qr_same hN (r := -1) (by unfold f_X10_may; rw [has_no b3 hx, pz_bi_some, if_pos rfl]) (by unfold f_X11_may f_X11_extreme; rw [stu_no b4 b1 hx, pz_bi_some, if_pos rfl]; rfl)
  obtain ⟨σ1, T, io, M, k1, k2, k3, k4, hS, f5, eM, h30, hst⟩ := both hH hC hn hN hc
  have hM : ∀ t, M t = true → pb ev (σ.1 16) t = true := fun t ht => by rw [eM] at ht; exact (Bool.and_eq_true _ _ ▸ ht).1
  obtain ⟨r, hr, l1⟩ := fo_l hS f5 hM h30 pw_FU 0 (by omega) (by have := Sorted_T hS; unfold pw_FU; omega) (fun j hj => by omega)
  obtain ⟨σ2, m1, m2, m3, m4, m5⟩ := hst σ1 (KeepE_rf _)
  obtain ⟨r2, hr2, l2⟩ := ex_may m5 pw_FU 0 (-1) (by omega) (by unfold pw_FU; omega) (Or.inl ⟨rfl, fun c hc => by omega⟩)
  have e := Bst_one hr hr2
  subst e
  refine ⟨r, σ1, σ2, ?_, ?_, NInv_E k3 m4, Keep_tr k4 (Keep_E m4)⟩
  · unfold f_X10_may
    rw [ha_in b3 hc b1, pz_bi_some, if_neg (by decide), k1, pz_bv_some]
    unfold f_X6_firstOf
    rw [pz_0, l1]; rfl
  · unfold f_X11_may f_X11_extreme
    rw [m1, pz_bi_some, if_neg (by decide)]
    rw [show l_X11_extreme_15 pw_FU 0 (-1) 0 σ2 = some (r, σ2) from l2]; rfl
theorem pz_last {σ : pw_St} {np nl tot nc nt n : Nat} {ev g : Nat → Nat} {Fc Fp : Nat → List Pt_} (hH : HInv σ np nl tot ev g) (hC : CInv σ nc nt Fc Fp) (hn : n < 2 ^ 31) (hN : NInv σ ev n) (x : Int32) : Qr (f_X10_last x) (f_X11_last x) σ ev n := by
  obtain ⟨b1, b2, b3, b4, b5, b6, b7, b8⟩ := id hC
  rcases cond3 x b1 with hx | ⟨c, hc, rfl⟩
  · exact Qr_same hN (r := -1) (by unfold f_X10_last; rw [has_no b3 hx, pz_bi_some, if_pos rfl]) (by unfold f_X11_last f_X11_extreme; rw [stu_no b4 b1 hx, pz_bi_some, if_pos rfl]; rfl)
  obtain ⟨σ1, T, io, M, k1, k2, k3, k4, hS, f5, eM, h30, hst⟩ := both hH hC hn hN hc
  have hM : ∀ t, M t = true → pb ev (σ.1 16) t = true := fun t ht => by rw [eM] at ht; exact (Bool.and_eq_true _ _ ▸ ht).1
  obtain ⟨r, hr, l1⟩ := la_l hS hM h30 pw_FU T (Nat.le_refl _) (by have := Sorted_T hS; unfold pw_FU; omega) (fun j hj hj2 => by omega)
  obtain ⟨σ2, m1, m2, m3, m4, m5⟩ := hst σ1 (KeepE_rf _)
  obtain ⟨r2, hr2, l2⟩ := ex_last m5 pw_FU 0 (-1) (by omega) (by unfold pw_FU; omega) (Or.inl ⟨rfl, fun c hc => by omega⟩)
  have e := Wst_one hr hr2
  subst e
  refine ⟨r, σ1, σ2, ?_, ?_, NInv_E k3 m4, Keep_tr k4 (Keep_E m4)⟩
  · unfold f_X10_last
    rw [ha_in b3 hc b1, pz_bi_some, if_neg (by decide), k1, pz_bv_some]
    unfold f_X6_lastOf
    rw [f5, l1]; rfl
  · unfold f_X11_last f_X11_extreme
    rw [m1, pz_bi_some, if_neg (by decide)]
    rw [show l_X11_extreme_15 pw_FU 1 (-1) 0 σ2 = some (r, σ2) from l2]; rfl
theorem pz_many {σ : pw_St} {np nl tot nc nt n : Nat} {ev g : Nat → Nat} {Fc Fp : Nat → List Pt_} (hH : HInv σ np nl tot ev g) (hC : CInv σ nc nt Fc Fp) (hn : n < 2 ^ 31) (hN : NInv σ ev n) (x : Int32) : Qr (f_X10_many x) (f_X11_many x) σ ev n := by
  obtain ⟨b1, b2, b3, b4, b5, b6, b7, b8⟩ := id hC
  rcases cond3 x b1 with hx | ⟨c, hc, rfl⟩
  · exact Qr_same hN (r := -1) (by unfold f_X10_many; rw [has_no b3 hx, pz_bi_some, if_pos rfl]) (by unfold f_X11_many; rw [stu_no b4 b1 hx, pz_bi_some, if_pos rfl])
  obtain ⟨σ1, T, io, M, k1, k2, k3, k4, hS, f5, eM, h30, hst⟩ := both hH hC hn hN hc
  have hM : ∀ t, M t = true → pb ev (σ.1 16) t = true := fun t ht => by rw [eM] at ht; exact (Bool.and_eq_true _ _ ▸ ht).1
  have l1 := hm_l hS f5 h30 pw_FU 0 (by omega) (by have := Sorted_T hS; unfold pw_FU; omega)
  obtain ⟨σ2, m1, m2, m3, m4, m5⟩ := hst σ1 (KeepE_rf _)
  have l2 := mn_l m5 pw_FU 0 (by omega) (by unfold pw_FU; omega)
  rw [Sorted_count hS hM] at l1
  refine ⟨nI (ct M 2401), σ1, σ2, ?_, ?_, NInv_E k3 m4, Keep_tr k4 (Keep_E m4)⟩
  · unfold f_X10_many
    rw [ha_in b3 hc b1, pz_bi_some, if_neg (by decide), k1, pz_bv_some]
    unfold f_X6_howManyIn
    rw [show l_X6_howManyIn_4 pw_FU 0 0 σ1 = some (nI (ct M 2401), σ1) from l1]; rfl
  · unfold f_X11_many
    rw [m1, pz_bi_some, if_neg (by decide)]
    exact l2
