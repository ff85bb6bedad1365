-- PURE PART: frames; marks on both sides
def KeepE (σ σ2 : pw_St) : Prop := ∀ k, ¬ ((28 ≤ k ∧ k ≤ 31) ∨ k = 44 ∨ (50 ≤ k ∧ k ≤ 52)) → σ2.1 k = σ.1 k
def Keep (σ σ2 : pw_St) : Prop := ∀ k, ¬ (k = 3 ∨ (22 ≤ k ∧ k ≤ 25) ∨ (28 ≤ k ∧ k ≤ 31) ∨ k = 44 ∨ (50 ≤ k ∧ k ≤ 52)) → σ2.1 k = σ.1 k
theorem Keep_tr {σ σ1 σ2 : pw_St} (h1 : Keep σ σ1) (h2 : Keep σ1 σ2) : Keep σ σ2 := fun k hk => (h2 k hk).trans (h1 k hk)
theorem KeepE_tr {σ σ1 σ2 : pw_St} (h1 : KeepE σ σ1) (h2 : KeepE σ1 σ2) : KeepE σ σ2 := fun k hk => (h2 k hk).trans (h1 k hk)
theorem Keep_E {σ σ2 : pw_St} (h : KeepE σ σ2) : Keep σ σ2 := fun k hk => h k (by omega)
theorem Keep_N {σ σ2 : pw_St} (h : NFr σ σ2) : Keep σ σ2 := fun k hk => h.1 k (by omega) (by omega) (by omega) (by omega) (by omega)
theorem Keep_rf (σ : pw_St) : Keep σ σ := fun _ _ => rfl
theorem KeepE_rf (σ : pw_St) : KeepE σ σ := fun _ _ => rfl
theorem HInv_rows {σ σ2 : pw_St} {np nl tot : Nat} {ev g : Nat → Nat} (h : HInv σ np nl tot ev g) (hr : ∀ k, k = 2 ∨ (11 ≤ k ∧ k ≤ 21) ∨ (34 ≤ k ∧ k ≤ 43) → σ2.1 k = σ.1 k) (e1 : σ2.1 1 8 = σ.1 1 8) (e2 : σ2.1 1 9 = σ.1 1 9) (e3 : σ2.1 10 1 = σ.1 10 1) (e4 : σ2.1 10 8 = σ.1 10 8) (e5 : σ2.1 10 9 = σ.1 10 9) : HInv σ2 np nl tot ev g := by
  unfold HInv HA HR at h ⊢
  rw [e1, e2, e3, e4, e5, hr 2 (by omega), hr 11 (by omega), hr 12 (by omega), hr 13 (by omega), hr 14 (by omega), hr 15 (by omega), hr 16 (by omega), hr 17 (by omega), hr 18 (by omega), hr 19 (by omega), hr 20 (by omega), hr 21 (by omega), hr 34 (by omega), hr 35 (by omega), hr 36 (by omega), hr 37 (by omega), hr 38 (by omega), hr 39 (by omega), hr 40 (by omega), hr 41 (by omega), hr 42 (by omega), hr 43 (by omega)]
  exact h
theorem HInv_keep {σ σ2 : pw_St} {np nl tot : Nat} {ev g : Nat → Nat} (h : HInv σ np nl tot ev g) (hK : Keep σ σ2) : HInv σ2 np nl tot ev g :=
  HInv_rows h (fun k hk => hK k (by omega)) (by rw [hK 1 (by omega)]) (by rw [hK 1 (by omega)]) (by rw [hK 10 (by omega)]) (by rw [hK 10 (by omega)]) (by rw [hK 10 (by omega)])
theorem CInv_rows {σ σ2 : pw_St} {nc nt : Nat} {Fc Fp : Nat → List Pt_} (h : CInv σ nc nt Fc Fp) (hr : ∀ k, k = 4 ∨ k = 5 ∨ (46 ≤ k ∧ k ≤ 49) ∨ 54 ≤ k → σ2.1 k = σ.1 k) (e1 : σ2.1 10 20 = σ.1 10 20) (e2 : σ2.1 10 21 = σ.1 10 21) : CInv σ2 nc nt Fc Fp := by
  obtain ⟨b1, b2, b3, b4, b5, b6, b7, b8⟩ := h
  refine ⟨b1, b2, by rw [hr 5 (by omega)]; exact b3, by rw [e1]; exact b4, by rw [hr 4 (by omega)]; exact b5, by rw [e2]; exact b6, fun c hc => ?_, fun i hi => ?_⟩
  · obtain ⟨q1, q2, q3⟩ := b7 c hc
    exact ⟨RepX_same q1 (by rw [hr _ (by omega)]) (hr _ (by omega)) (hr _ (by omega)) (hr _ (by omega)), RepM_same q2 (hr _ (by omega)) (hr _ (by omega)) (hr _ (by omega)) (hr _ (by omega)), q3⟩
  · obtain ⟨q1, q2, q3⟩ := b8 i hi
    exact ⟨RepX_same q1 (by rw [hr _ (by omega)]) (hr _ (by omega)) (hr _ (by omega)) (hr _ (by omega)), RepM_same q2 (hr _ (by omega)) (hr _ (by omega)) (hr _ (by omega)) (hr _ (by omega)), q3⟩
theorem CInv_keep {σ σ2 : pw_St} {nc nt : Nat} {Fc Fp : Nat → List Pt_} (h : CInv σ nc nt Fc Fp) (hK : Keep σ σ2) : CInv σ2 nc nt Fc Fp :=
  CInv_rows h (fun k hk => hK k (by omega)) (by rw [hK 10 (by omega)]) (by rw [hK 10 (by omega)])
theorem Fresh_rows {σ σ2 : pw_St} {ev : Nat → Nat} (h : Fresh σ ev) (hr : ∀ k, k = 3 ∨ k = 16 ∨ (22 ≤ k ∧ k ≤ 24) → σ2.1 k = σ.1 k) : Fresh σ2 ev := by
  unfold Fresh at h ⊢
  rw [hr 3 (by omega), hr 16 (by omega), hr 22 (by omega), hr 23 (by omega), hr 24 (by omega)]
  exact h
theorem NInv_rows {σ σ2 : pw_St} {ev : Nat → Nat} {n : Nat} (h : NInv σ ev n) (hr : ∀ k, k = 3 ∨ k = 16 ∨ (22 ≤ k ∧ k ≤ 24) → σ2.1 k = σ.1 k) (e1 : σ2.1 1 10 = σ.1 1 10) : NInv σ2 ev n := by
  obtain ⟨ch, h1, h2, h3⟩ := h
  refine ⟨ch, h1, e1.trans h2, ?_⟩
  rw [hr 3 (by omega)]
  rcases h3 with h3 | ⟨h3, h4⟩
  · exact Or.inl h3
  · exact Or.inr ⟨h3, Fresh_rows h4 hr⟩
theorem Fresh_E {σ σ2 : pw_St} {ev : Nat → Nat} (h : Fresh σ ev) (hK : KeepE σ σ2) : Fresh σ2 ev := Fresh_rows h (fun k hk => hK k (by omega))
theorem NInv_E {σ σ2 : pw_St} {ev : Nat → Nat} {n : Nat} (h : NInv σ ev n) (hK : KeepE σ σ2) : NInv σ2 ev n := NInv_rows h (fun k hk => hK k (by omega)) (by rw [hK 1 (by omega)])
theorem pb_E {σ σ2 : pw_St} {ev : Nat → Nat} (hK : Keep σ σ2) : pb ev (σ2.1 16) = pb ev (σ.1 16) := by rw [hK 16 (by omega)]
/-- whether a formula holds at a cut -/
def wb (σ : pw_St) (nl : Nat) (F : List Pt_) (c : Nat) : Bool := !decide (wv σ nl F c = 0)
theorem wv_K {σ σ2 : pw_St} {nl c : Nat} {F : List Pt_} (hK : Keep σ σ2) : wv σ2 nl F c = wv σ nl F c := wv_cong (hK 17 (by omega)) (hK 18 (by omega)) (hK 19 (by omega)) (hK 20 (by omega)) (hK 21 (by omega))
theorem wb_K {σ σ2 : pw_St} {nl : Nat} {F : List Pt_} (hK : Keep σ σ2) : wb σ2 nl F = wb σ nl F := by
  funext c; unfold wb; rw [wv_K hK]
/-- the form of a query -/
def Qr (fx fm : pw_St → Option (Int32 × pw_St)) (σ : pw_St) (ev : Nat → Nat) (n : Nat) : Prop := ∃ r σ1 σ2, fx σ = some (r, σ1) ∧ fm σ1 = some (r, σ2) ∧ NInv σ2 ev n ∧ Keep σ σ2
theorem Qr_same {fx fm : pw_St → Option (Int32 × pw_St)} {σ : pw_St} {ev : Nat → Nat} {n : Nat} (hN : NInv σ ev n) {r : Int32} (h1 : fx σ = some (r, σ)) (h2 : fm σ = some (r, σ)) : Qr fx fm σ ev n := ⟨r, σ, σ, h1, h2, hN, Keep_rf σ⟩
theorem ha_neg {x : Int32} {σ : pw_St} (h : x < 0) : f_X0_has x σ = some (0, σ) := by
  unfold f_X0_has
  rw [if_pos h, if_pos pz_isb0]
theorem ha_ge {x : Int32} {σ : pw_St} {nc : Nat} (e : σ.1 5 1 = nI nc) (h0 : ¬ x < 0) (h : nI nc ≤ x) : f_X0_has x σ = some (0, σ) := by
  unfold f_X0_has
  rw [if_neg h0, e, if_pos h, if_pos pz_isb0]
theorem ha_in {p : Nat} {σ : pw_St} {nc : Nat} (e : σ.1 5 1 = nI nc) (hp : p < nc) (hn : nc ≤ 8) : f_X0_has (nI p) σ = some (1, σ) := by
  unfold f_X0_has
  rw [if_neg (nI_pos (by omega)), e, if_neg (nI_ge hp (by omega)), if_pos pz_isb1]
theorem st_no {x : Int32} {σ : pw_St} {nc : Nat} (e : σ.1 10 20 = nI nc) (hn : nc ≤ 8) (h : x < 0 ∨ (¬ x < 0 ∧ nI nc ≤ x)) : f_X11_in x 0 (σ.1 10 20 - 1) σ = some (0, σ) := by
  rw [e]
  rcases h with h | ⟨h1, h2⟩
  · exact in_neg h
  · exact in_ge h1 h2 (by omega)
theorem st_yes {c : Nat} {σ : pw_St} {nc : Nat} (e : σ.1 10 20 = nI nc) (hn : nc ≤ 8) (h : c < nc) : f_X11_in (nI c) 0 (σ.1 10 20 - 1) σ = some (1, σ) := by
  rw [e]; exact in_ok h (by omega)
theorem has_no {x : Int32} {σ : pw_St} {nc : Nat} (e : σ.1 5 1 = nI nc) (h : x < 0 ∨ (¬ x < 0 ∧ nI nc ≤ x)) : f_X0_has x σ = some (0, σ) := by
  rcases h with h | ⟨h1, h2⟩
  · exact ha_neg h
  · exact ha_ge e h1 h2
theorem cond3 (x : Int32) {nc : Nat} (hn : nc ≤ 8) : (x < 0 ∨ (¬ x < 0 ∧ nI nc ≤ x)) ∨ ∃ c, c < nc ∧ x = nI c := by
  rcases ix3 x (show nc < 2 ^ 31 by omega) with h | h | h
  · exact Or.inl (Or.inl h)
  · exact Or.inl (Or.inr h)
  · exact Or.inr h
theorem Sorted_T {P : Nat → Bool} {f : Nat → Int32} {T : Nat} {io en : Nat → Nat} (h : Sorted P f T io en) : T ≤ 2401 := by rw [h.1]; exact ct_le _ _
theorem Sorted_inj {P : Nat → Bool} {f : Nat → Int32} {T : Nat} {io en : Nat → Nat} (h : Sorted P f T io en) {j k : Nat} (hj : j < T) (hk : k < T) (e : io j = io k) : j = k := by
  rcases Nat.lt_trichotomy j k with hl | hl | hl
  · have := h.2.2.1 j k hl hk; rw [e] at this; omega
  · exact hl
  · have := h.2.2.1 k j hl hj; rw [e] at this; omega
theorem set_l {σ : pw_St} {ev : Nat → Nat} {m nl T : Nat} {io en : Nat → Nat} {F : List Pt_} (hS : Sorted (pb ev (σ.1 16)) (σ.1 22) T io en) (e5 : σ.1 3 5 = nI T) (e4 : σ.1 2 4 = nI nl) (hnl : nl ≤ 24) (hF : RepX σ m F) (hw : wfF F 6) : ∀ (n k : Nat) (τ : pw_St), k ≤ T → T - k < n → (∀ r, r ≠ 28 → r ≠ 29 → r ≠ 30 → τ.1 r = σ.1 r) → τ.2 = σ.2 → (∀ j, j < k → τ.1 30 (io j) = if wb σ nl F (io j) then 1 else 0) → ∃ τ2, l_X4_set_2 n m (nI k) τ = some τ2 ∧ (∀ r, r ≠ 28 → r ≠ 29 → r ≠ 30 → τ2.1 r = σ.1 r) ∧ τ2.2 = σ.2 ∧ ∀ j, j < T → τ2.1 30 (io j) = if wb σ nl F (io j) then 1 else 0 := by
  have hT := Sorted_T hS
  intro n
  induction n with
  | zero => intro k τ _ h; omega
  | succ n ih =>
    intro k τ h1 h2 hr hr2 hj
    rw [show l_X4_set_2 (n + 1) m (nI k) τ = b_X4_set_2 (l_X4_set_2 n) m (nI k) τ from rfl]
    unfold b_X4_set_2
    rw [hr 3 (by omega) (by omega) (by omega), e5]
    by_cases h : k = T
    · subst h
      rw [if_pos (nI_le (Nat.le_refl _) (by omega))]
      exact ⟨τ, rfl, hr, hr2, hj⟩
    · have hk : k < T := by omega
      obtain ⟨s1, s2, s3⟩ := hS.2.1 k hk
      rw [if_neg (nI_ge hk (by omega)), if_pos (pz_in (by omega) (by decide)), nI_clamp (by omega), hr 22 (by omega) (by omega) (by omega), s1]
      have hF' : RepX τ m F := RepX_same hF (by rw [hr _ (by omega) (by omega) (by omega)]) (hr _ (by omega) (by omega) (by omega)) (hr _ (by omega) (by omega) (by omega)) (hr _ (by omega) (by omega) (by omega))
      obtain ⟨rr, hh, kw⟩ := wx (σ := τ) (m := m) (c := io k) (nl := nl) s2 (by rw [hr 2 (by omega) (by omega) (by omega)]; exact e4) hnl hF' hw
      have ew : wv τ nl F (io k) = wv σ nl F (io k) := wv_cong (hr _ (by omega) (by omega) (by omega)) (hr _ (by omega) (by omega) (by omega)) (hr _ (by omega) (by omega) (by omega)) (hr _ (by omega) (by omega) (by omega)) (hr _ (by omega) (by omega) (by omega))
      rw [kw, pz_bi_some, ew]
      have key42 : ∀ v : Int32, vp_nar .boolean v = (if wb σ nl F (io k) then 1 else 0) → ∃ τ2, b_X4_set_42 (l_X4_set_2 n) m (nI k) v (nI (io k)) (pw_rw (pw_rw τ 28 rr) 29 hh) = some τ2 ∧ (∀ r, r ≠ 28 → r ≠ 29 → r ≠ 30 → τ2.1 r = σ.1 r) ∧ τ2.2 = σ.2 ∧ ∀ j, j < T → τ2.1 30 (io j) = if wb σ nl F (io j) then 1 else 0 := by
        intro v hv
        unfold b_X4_set_42
        rw [if_pos (pz_in s2 (by decide)), pz_lt, nI_clamp (by omega), hv, rw_sM, nI_1]
        refine ih (k + 1) _ (by omega) (by omega) (fun r a b c => ?_) hr2 (fun j hjk => ?_)
        · rw [rw_ne c, rw_ne b, rw_ne a]; exact hr r a b c
        · rw [rw_get]
          by_cases hjk2 : j = k
          · subst hjk2; exact pk_us
          · rw [pk_un (fun e => hjk2 (Sorted_inj hS (by omega) hk e)), rw_ne (by omega), rw_ne (by omega)]
            exact hj j (by omega)
      by_cases hz : wv σ nl F (io k) = 0
      · rw [if_pos hz]
        exact key42 0 (by rw [nar0]; unfold wb; rw [hz]; rfl)
      · rw [if_neg hz]
        refine key42 1 ?_
        rw [nar1, show wb σ nl F (io k) = true by unfold wb; rw [decide_eq_false hz]; rfl]
        rfl
/-- the class's marks -/
theorem pz_marked {σ : pw_St} {np nl tot nc nt n c : Nat} {ev g : Nat → Nat} {Fc Fp : Nat → List Pt_} (hH : HInv σ np nl tot ev g) (hC : CInv σ nc nt Fc Fp) (hn : n < 2 ^ 31) (hN : NInv σ ev n) (hc : c < nc) : ∃ σ2, f_X10_markedNet (nI c) σ = some σ2 ∧ Fresh σ2 ev ∧ NInv σ2 ev n ∧ Keep σ σ2 ∧ ∀ t, t < 2401 → pb ev (σ.1 16) t = true → σ2.1 30 t = if wb σ nl (Fc c) t then 1 else 0 := by
  have hq := QI_of hH
  obtain ⟨σ1, k1, k2, k3, k4⟩ := pz_fresh hq.1.2.1 hq.2.1 hn hN
  have hK1 := Keep_N k4
  have hH1 := HInv_keep hH hK1
  have hC1 := CInv_keep hC hK1
  obtain ⟨q1, q2, q3⟩ := hC1.2.2.2.2.2.2.1 c hc
  have hnl := nl_24 hH1
  obtain ⟨T, io, hS, f5, f6, f23, f24⟩ := id k2
  obtain ⟨τ, t1, t2, t3, t4⟩ := set_l hS f5 hH1.1.2.2.2.2.2.2.2.2.1 hnl.1 q1 q3 pw_FU 0 σ1 (by omega) (by have := Sorted_T hS; unfold pw_FU; omega) (fun _ _ _ _ => rfl) rfl (fun j hj => by omega)
  have hE : KeepE σ1 τ := fun k hk => t2 k (by omega) (by omega) (by omega)
  refine ⟨τ, ?_, Fresh_E k2 hE, NInv_E k3 hE, Keep_tr hK1 (Keep_E hE), fun t ht hp => ?_⟩
  · unfold f_X10_markedNet
    have hc8 := hC.1
    rw [k1, pz_bv_some, if_pos (pz_in (show c < 8 by omega) (by decide)), nI_clamp (by omega)]
    unfold f_X4_set
    rw [pz_0, t1]
    rfl
  · rw [← pb_E hK1] at hp
    obtain ⟨k, hk, hik⟩ := hS.2.2.2.1 t ht hp
    have := t4 k hk
    rw [hik, wb_K hK1] at this
    exact this
theorem stu_l {σ : pw_St} {np nl tot d : Nat} {ev g : Nat → Nat} {F : List Pt_} (hH : HInv σ np nl tot ev g) (hd : d < 16) (hF : RepM σ d F) (hw : wfF F 6) : ∀ (n c : Nat) (τ : pw_St), c ≤ 2401 → 2401 - c < n → (∀ r, r ≠ 50 → r ≠ 51 → τ.1 r = σ.1 r) → τ.2 = σ.2 → (∀ t, t < c → τ.1 51 t = if pb ev (σ.1 16) t && wb σ nl F t then 1 else 0) → ∃ τ2, l_X11_study_18 n (nI d) (nI c) τ = some (1, τ2) ∧ (∀ r, r ≠ 50 → r ≠ 51 → τ2.1 r = σ.1 r) ∧ τ2.2 = σ.2 ∧ ∀ t, t < 2401 → τ2.1 51 t = if pb ev (σ.1 16) t && wb σ nl F t then 1 else 0 := by
  intro n
  induction n with
  | zero => intro c τ _ h; omega
  | succ n ih =>
    intro c τ h1 h2 hr hr2 hj
    rw [show l_X11_study_18 (n + 1) (nI d) (nI c) τ = b_X11_study_18 (l_X11_study_18 n) (nI d) (nI c) τ from rfl]
    unfold b_X11_study_18
    by_cases h : c = 2401
    · subst h
      rw [if_pos (by decide), if_pos pz_isb1]
      exact ⟨τ, rfl, hr, hr2, hj⟩
    · have hc : c < 2401 := by omega
      have hK : Keep σ τ := fun k hk => hr k (by omega) (by omega)
      have hHt := HInv_keep hH hK
      have hq := QI_of hHt
      rw [if_neg (show ¬ (2401 : Int32) ≤ nI c from nI_ge (b := 2401) hc (by decide))]
      have key52 : ∀ (v : Int32) (h : Nat → Int32), vp_nar .boolean v = (if pb ev (σ.1 16) c && wb σ nl F c then 1 else 0) → ∃ τ2, b_X11_study_52 (l_X11_study_18 n) (nI d) (nI c) v (nI c) (pw_rw τ 50 h) = some (1, τ2) ∧ (∀ r, r ≠ 50 → r ≠ 51 → τ2.1 r = σ.1 r) ∧ τ2.2 = σ.2 ∧ ∀ t, t < 2401 → τ2.1 51 t = if pb ev (σ.1 16) t && wb σ nl F t then 1 else 0 := by
        intro v h hv
        unfold b_X11_study_52
        rw [if_pos (pz_in hc (by decide)), pz_lt, nI_clamp (by omega), hv, rw_sM, nI_1]
        refine ih (c + 1) _ (by omega) (by omega) (fun r a b => ?_) hr2 (fun t ht => ?_)
        · rw [rw_ne b, rw_ne a]; exact hr r a b
        · rw [rw_get]
          by_cases htc : t = c
          · subst htc; exact pk_us
          · rw [pk_un htc, rw_ne (by omega)]
            exact hj t (by omega)
      by_cases hp : pb ev (σ.1 16) c = true
      · rw [ips_t hq (by rw [pb_E hK]; exact hp), pz_bi_some, if_neg (by decide)]
        obtain ⟨hh, kw⟩ := wm hHt (pb_t.mp hp).1 hd (RepM_same hF (hr _ (by omega) (by omega)) (hr _ (by omega) (by omega)) (hr _ (by omega) (by omega)) (hr _ (by omega) (by omega))) hw
        rw [kw, pz_bi_some, wv_K hK]
        by_cases hz : wv σ nl F c = 0
        · rw [if_pos hz]
          unfold b_X11_study_51
          exact key52 0 hh (by rw [nar0, hp]; unfold wb; rw [hz]; rfl)
        · rw [if_neg hz]
          refine key52 1 hh ?_
          rw [nar1, hp, show wb σ nl F c = true by unfold wb; rw [decide_eq_false hz]; rfl]
          rfl
      · have hpf : pb ev (σ.1 16) c = false := by simpa using hp
        rw [ips_f hq hc (by rw [pb_E hK]; exact hpf), pz_bi_some, if_pos rfl]
        unfold b_X11_study_51
        have := key52 0 (τ.1 50) (by rw [nar0, hpf]; rfl)
        rw [rw_id] at this
        exact this
/-- the reference's marks -/
theorem pz_study {σ : pw_St} {np nl tot nc nt c : Nat} {ev g : Nat → Nat} {Fc Fp : Nat → List Pt_} (hH : HInv σ np nl tot ev g) (hC : CInv σ nc nt Fc Fp) (hc : c < nc) : ∃ σ2, f_X11_study (nI c) σ = some (1, σ2) ∧ (∀ r, r ≠ 50 → r ≠ 51 → σ2.1 r = σ.1 r) ∧ σ2.2 = σ.2 ∧ ∀ t, t < 2401 → σ2.1 51 t = if pb ev (σ.1 16) t && wb σ nl (Fc c) t then 1 else 0 := by
  obtain ⟨b1, b2, b3, b4, b5, b6, b7, b8⟩ := id hC
  obtain ⟨q1, q2, q3⟩ := b7 c hc
  obtain ⟨τ, t1, t2, t3, t4⟩ := stu_l hH (show c < 16 by omega) q2 q3 pw_FU 0 σ (by omega) (by unfold pw_FU; omega) (fun _ _ _ => rfl) rfl (fun t ht => by omega)
  refine ⟨τ, ?_, t2, t3, t4⟩
  unfold f_X11_study
  rw [st_yes b4 b1 hc, pz_bi_some, if_neg (by decide), pz_0]
  exact t1
theorem stu_no {σ : pw_St} {nc : Nat} {x : Int32} (e : σ.1 10 20 = nI nc) (hn : nc ≤ 8) (h : x < 0 ∨ (¬ x < 0 ∧ nI nc ≤ x)) : f_X11_study x σ = some (0, σ) := by
  unfold f_X11_study
  rw [st_no e hn h, pz_bi_some, if_pos rfl, if_pos pz_isb0]
