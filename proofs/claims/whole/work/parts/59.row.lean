-- PURE PART: say, check, passes
def WInv (σ : pw_St) (ns : Nat) (s : Nat → Nat) : Prop := ns ≤ 24 ∧ σ.1 9 1 = nI ns ∧ σ.1 10 27 = nI ns ∧ ∀ k, k < ns → s k < 4 ∧ σ.1 33 k = nI (s k) ∧ σ.1 53 k = nI (s k)
theorem WInv_rows {σ σ2 : pw_St} {ns : Nat} {s : Nat → Nat} (h : WInv σ ns s) (e1 : σ2.1 9 = σ.1 9) (e2 : σ2.1 10 27 = σ.1 10 27) (e3 : σ2.1 33 = σ.1 33) (e4 : σ2.1 53 = σ.1 53) : WInv σ2 ns s := by
  unfold WInv at h ⊢
  rw [e1, e2, e3, e4]; exact h
theorem WInv_keep {σ σ2 : pw_St} {ns : Nat} {s : Nat → Nat} (h : WInv σ ns s) (hK : Keep σ σ2) : WInv σ2 ns s := WInv_rows h (hK 9 (by omega)) (by rw [hK 10 (by omega)]) (hK 33 (by omega)) (hK 53 (by omega))
def rp (P : Nat → Bool) (ev s : Nat → Nat) : Nat → Nat → Nat → Nat
  | 0, k, _ => k
  | d + 1, k, c => if dg c (s k) < ev (s k) ∧ P (c + un (s k)) = true then rp P ev s d (k + 1) (c + un (s k)) else k
theorem rp_s (P : Nat → Bool) (ev s : Nat → Nat) (d k c : Nat) : rp P ev s (d + 1) k c = if dg c (s k) < ev (s k) ∧ P (c + un (s k)) = true then rp P ev s d (k + 1) (c + un (s k)) else k := rfl
theorem rp_le (P : Nat → Bool) (ev s : Nat → Nat) : ∀ d k c, rp P ev s d k c ≤ k + d
  | 0, k, c => Nat.le_refl _
  | d + 1, k, c => by
    rw [rp_s]
    split
    · have := rp_le P ev s d (k + 1) (c + un (s k)); omega
    · omega
def pok (P : Nat → Bool) (s : Nat → Nat) : Nat → Nat → Nat → Prop
  | 0, _, c => P c = true
  | d + 1, k, c => P c = true ∧ pok P s d (k + 1) (c + un (s k))
theorem rp_pok {P : Nat → Bool} {ev s : Nat → Nat} : ∀ d k c, P c = true → rp P ev s d k c = k + d → pok P s d k c
  | 0, k, c, h, _ => h
  | d + 1, k, c, h, e => by
    rw [rp_s] at e
    by_cases hu : dg c (s k) < ev (s k) ∧ P (c + un (s k)) = true
    · rw [if_pos hu] at e
      exact ⟨h, rp_pok d (k + 1) (c + un (s k)) hu.2 (by rw [e]; omega)⟩
    · rw [if_neg hu] at e; omega
theorem rpl_l {σ : pw_St} {ev s : Nat → Nat} {P : Nat → Bool} {ns : Nat} (h6 : ∀ p, p < 4 → ev p ≤ 6) (e11 : ∀ p, p < 4 → σ.1 11 p = nI (ev p)) (e23 : ∀ c, c < 2401 → σ.1 23 c = if P c then 1 else 0) (hW : WInv σ ns s) : ∀ (d k c n : Nat), k + d = ns → d < n → c < 2401 → l_X8_rightPlaces_4 n (nI c) (nI k) σ = some (nI (rp P ev s d k c), σ) := by
  obtain ⟨w1, w2, w3, w4⟩ := hW
  intro d
  induction d with
  | zero =>
    intro k c n e hn hc
    obtain ⟨n, rfl⟩ : ∃ n', n = n' + 1 := ⟨n - 1, by omega⟩
    rw [show l_X8_rightPlaces_4 (n + 1) (nI c) (nI k) σ = b_X8_rightPlaces_4 (l_X8_rightPlaces_4 n) (nI c) (nI k) σ from rfl]
    unfold b_X8_rightPlaces_4
    rw [w2, if_pos (nI_le (by omega) (by omega)), show ns = k by omega]
    rfl
  | succ d ih =>
    intro k c n e hn hc
    obtain ⟨n, rfl⟩ : ∃ n', n = n' + 1 := ⟨n - 1, by omega⟩
    obtain ⟨a1, a2, a3⟩ := w4 k (by omega)
    rw [show l_X8_rightPlaces_4 (n + 1) (nI c) (nI k) σ = b_X8_rightPlaces_4 (l_X8_rightPlaces_4 n) (nI c) (nI k) σ from rfl]
    unfold b_X8_rightPlaces_4
    rw [w2, if_neg (nI_ge (by omega) (by omega)), if_pos (pz_in (show k < 24 by omega) (by decide)), nI_clamp (n := k) (by omega), a2, pz_up h6 e11 e23 hc a1, rp_s]
    by_cases hu : dg c (s k) < ev (s k) ∧ P (c + un (s k)) = true
    · have hl := up_lt hc a1 (show dg c (s k) < 6 by have := h6 _ a1; omega)
      rw [if_pos hu, pz_bi_some, if_neg (nm1 (by omega)), nI_1, if_pos hu]
      exact ih (k + 1) _ n (by omega) (by omega) hl
    · rw [if_neg hu, pz_bi_some, if_pos rfl, if_neg hu]
theorem fw_l {σ : pw_St} {np ns : Nat} {ev s : Nat → Nat} (hq : QI σ np ev) (hW : WInv σ ns s) : ∀ (d k c n : Nat), k + d = ns → d < n → isC ev c → l_X11_firstWrong_4 n (nI c) (nI k) σ = some (nI (rp (pb ev (σ.1 16)) ev s d k c), σ) := by
  obtain ⟨w1, w2, w3, w4⟩ := hW
  obtain ⟨m1, m2, m3, m4, m5⟩ := id hq.1
  intro d
  induction d with
  | zero =>
    intro k c n e hn hc
    obtain ⟨n, rfl⟩ : ∃ n', n = n' + 1 := ⟨n - 1, by omega⟩
    rw [show l_X11_firstWrong_4 (n + 1) (nI c) (nI k) σ = b_X11_firstWrong_4 (l_X11_firstWrong_4 n) (nI c) (nI k) σ from rfl]
    unfold b_X11_firstWrong_4
    rw [w3, if_pos (nI_le (by omega) (by omega)), show ns = k by omega]
    rfl
  | succ d ih =>
    intro k c n e hn hC
    have hc := hC.1
    obtain ⟨n, rfl⟩ : ∃ n', n = n' + 1 := ⟨n - 1, by omega⟩
    obtain ⟨a1, a2, a3⟩ := w4 k (by omega)
    have h6p := m2 (s k) a1
    have hdl := hC.2 (s k) a1
    rw [show l_X11_firstWrong_4 (n + 1) (nI c) (nI k) σ = b_X11_firstWrong_4 (l_X11_firstWrong_4 n) (nI c) (nI k) σ from rfl]
    unfold b_X11_firstWrong_4
    rw [w3, if_neg (nI_ge (by omega) (by omega)), if_pos (pz_in (show k < 24 by omega) (by decide)), nI_clamp (n := k) (by omega), a3, m4, rp_s]
    by_cases hnp : np ≤ s k
    · rw [if_pos (nI_le hnp (by omega)), if_neg (fun hh => by have := m3 (s k) hnp a1; omega)]
    · rw [if_neg (nI_ge (by omega) (by omega)), pz_part σ (by omega) a1, pz_bi_some, if_pos (pz_in a1 (by decide)), nI_clamp (n := s k) (by omega), m5 _ a1]
      by_cases hd : dg c (s k) = ev (s k)
      · rw [if_pos (by rw [hd]), if_neg (fun hh => by omega)]
      · have hl := up_lt hc a1 (show dg c (s k) < 6 by omega)
        rw [if_neg (fun e => hd ((nI_eq (by omega) (by omega)).mp e)), pz_unit σ a1, pz_bi_some, nI_add]
        by_cases hP : pb ev (σ.1 16) (c + un (s k)) = true
        · rw [ips_t hq hP, pz_bi_some, if_neg (by decide), pz_unit σ a1, pz_bi_some, nI_add, nI_1, if_pos ⟨by omega, hP⟩]
          exact ih (k + 1) _ n (by omega) (by omega) (pb_t.mp hP).1
        · have hPf : pb ev (σ.1 16) (c + un (s k)) = false := by simpa using hP
          rw [ips_f hq hl hPf, pz_bi_some, if_pos rfl, if_neg (fun hh => hP hh.2)]
theorem pz_rp {σ : pw_St} {np ns : Nat} {ev s : Nat → Nat} (hq : QI σ np ev) (hF : Fresh σ ev) (hW : WInv σ ns s) : f_X8_rightPlaces σ = some (nI (rp (pb ev (σ.1 16)) ev s ns 0 0), σ) := by
  obtain ⟨T, io, hS, f5, f6, f23, f24⟩ := hF
  unfold f_X8_rightPlaces
  exact rpl_l hq.1.2.1 hq.2.1 f23 hW ns 0 0 pw_FU (by omega) (by have := hW.1; unfold pw_FU; omega) (by omega)
theorem pz_fw {σ : pw_St} {np ns : Nat} {ev s : Nat → Nat} (hq : QI σ np ev) (hW : WInv σ ns s) : f_X11_firstWrong σ = some (nI (rp (pb ev (σ.1 16)) ev s ns 0 0), σ) := by
  unfold f_X11_firstWrong
  exact fw_l hq hW ns 0 0 pw_FU (by omega) (by have := hW.1; unfold pw_FU; omega) (pb_t.mp (pb_0 ev (σ.1 16))).1
def fa (W : Nat → Bool) (s : Nat → Nat) : Nat → Nat → Nat → Int32
  | 0, k, c => if W c then nI k else -1
  | d + 1, k, c => if W c then nI k else fa W s d (k + 1) (c + un (s k))
theorem wb_0 {σ : pw_St} {nl c : Nat} {F : List Pt_} (h : wv σ nl F c = 0) : wb σ nl F c = false := by unfold wb; rw [h]; rfl
theorem wb_1 {σ : pw_St} {nl c : Nat} {F : List Pt_} (h : ¬ wv σ nl F c = 0) : wb σ nl F c = true := by unfold wb; rw [decide_eq_false h]; rfl
theorem fa_x {σ : pw_St} {ns nl m : Nat} {s : Nat → Nat} {P : Nat → Bool} {F : List Pt_} (hW : WInv σ ns s) (hPl : ∀ c, P c = true → c < 2401) (e4 : σ.1 2 4 = nI nl) (hnl : nl ≤ 24) (hF : RepX σ m F) (hw : wfF F 6) : ∀ (d k c n : Nat) (τ : pw_St), k + d = ns → d < n → pok P s d k c → (∀ r, r ≠ 28 → r ≠ 29 → τ.1 r = σ.1 r) → ∃ τ2, l_X8_firstAt_5 n m (nI c) (nI k) τ = some (fa (wb σ nl F) s d k c, τ2) ∧ (∀ r, r ≠ 28 → r ≠ 29 → τ2.1 r = σ.1 r) := by
  obtain ⟨w1, w2, w3, w4⟩ := hW
  have wor : ∀ (c : Nat) (τ : pw_St), c < 2401 → (∀ r, r ≠ 28 → r ≠ 29 → τ.1 r = σ.1 r) → ∃ τ2, f_X5_worth m (nI c) τ = some (wv σ nl F c, τ2) ∧ (∀ r, r ≠ 28 → r ≠ 29 → τ2.1 r = σ.1 r) := by
    intro c τ hc hr
    have hF' : RepX τ m F := RepX_same hF (by rw [hr _ (by omega) (by omega)]) (hr _ (by omega) (by omega)) (hr _ (by omega) (by omega)) (hr _ (by omega) (by omega))
    obtain ⟨rr, hh, kw⟩ := wx (σ := τ) (m := m) (c := c) (nl := nl) hc (by rw [hr 2 (by omega) (by omega)]; exact e4) hnl hF' hw
    have ew : wv τ nl F c = wv σ nl F c := wv_cong (hr _ (by omega) (by omega)) (hr _ (by omega) (by omega)) (hr _ (by omega) (by omega)) (hr _ (by omega) (by omega)) (hr _ (by omega) (by omega))
    rw [ew] at kw
    exact ⟨_, kw, fun r a b => by rw [rw_ne b, rw_ne a]; exact hr r a b⟩
  intro d
  induction d with
  | zero =>
    intro k c n τ e hn hp hr
    obtain ⟨n, rfl⟩ : ∃ n', n = n' + 1 := ⟨n - 1, by omega⟩
    obtain ⟨τ2, k1, k2⟩ := wor c τ (hPl c hp) hr
    rw [show l_X8_firstAt_5 (n + 1) m (nI c) (nI k) τ = b_X8_firstAt_5 (l_X8_firstAt_5 n) m (nI c) (nI k) τ from rfl]
    unfold b_X8_firstAt_5
    rw [hr 9 (by omega) (by omega), w2, if_pos (nI_le (by omega) (by omega))]
    unfold b_X8_firstAt_46
    rw [k1, pz_bi_some]
    refine ⟨τ2, ?_, k2⟩
    rw [show fa (wb σ nl F) s 0 k c = if wb σ nl F c then nI k else -1 from rfl]
    by_cases hz : wv σ nl F c = 0
    · rw [if_pos hz, wb_0 hz, if_neg (by decide)]
    · rw [if_neg hz, wb_1 hz, if_pos rfl, k2 9 (by omega) (by omega), w2, show ns = k by omega]
  | succ d ih =>
    intro k c n τ e hn hp hr
    obtain ⟨n, rfl⟩ : ∃ n', n = n' + 1 := ⟨n - 1, by omega⟩
    obtain ⟨τ2, k1, k2⟩ := wor c τ (hPl c hp.1) hr
    obtain ⟨a1, a2, a3⟩ := w4 k (by omega)
    rw [show l_X8_firstAt_5 (n + 1) m (nI c) (nI k) τ = b_X8_firstAt_5 (l_X8_firstAt_5 n) m (nI c) (nI k) τ from rfl]
    unfold b_X8_firstAt_5
    rw [hr 9 (by omega) (by omega), w2, if_neg (nI_ge (by omega) (by omega)), k1, pz_bi_some, show fa (wb σ nl F) s (d + 1) k c = if wb σ nl F c then nI k else fa (wb σ nl F) s d (k + 1) (c + un (s k)) from rfl]
    by_cases hz : wv σ nl F c = 0
    · rw [if_pos hz, wb_0 hz, if_neg (show ¬ false = true by decide), if_pos (pz_in (show k < 24 by omega) (by decide)), nI_clamp (n := k) (by omega), k2 33 (by omega) (by omega), a2, if_pos (pz_in a1 (by decide)), nI_clamp (n := s k) (by omega), pz_wt a1, nI_add, nI_1]
      exact ih (k + 1) _ n τ2 (by omega) (by omega) hp.2 k2
    · rw [if_neg hz, wb_1 hz, if_pos (show true = true from rfl)]
      exact ⟨τ2, rfl, k2⟩
theorem fa_m {σ : pw_St} {np nl tot ns d0 : Nat} {ev g s : Nat → Nat} {F : List Pt_} (hH : HInv σ np nl tot ev g) (hW : WInv σ ns s) (hd : d0 < 16) (hF : RepM σ d0 F) (hw : wfF F 6) : ∀ (d k c n : Nat) (τ : pw_St), k + d = ns → d + 1 < n → pok (pb ev (σ.1 16)) s d k c → (∀ r, r ≠ 50 → τ.1 r = σ.1 r) → ∃ τ2, l_X11_passes_34 n (nI d0) (nI c) (nI k) τ = some (fa (wb σ nl F) s d k c, τ2) ∧ (∀ r, r ≠ 50 → τ2.1 r = σ.1 r) := by
  obtain ⟨w1, w2, w3, w4⟩ := hW
  have wor : ∀ (c : Nat) (τ : pw_St), pb ev (σ.1 16) c = true → (∀ r, r ≠ 50 → τ.1 r = σ.1 r) → ∃ τ2, f_X11_worthOf (nI d0) (nI c) τ = some (wv σ nl F c, τ2) ∧ (∀ r, r ≠ 50 → τ2.1 r = σ.1 r) := by
    intro c τ hc hr
    have hK : Keep σ τ := fun k hk => hr k (by omega)
    obtain ⟨hh, kw⟩ := wm (HInv_keep hH hK) (pb_t.mp hc).1 hd (RepM_same hF (hr _ (by omega)) (hr _ (by omega)) (hr _ (by omega)) (hr _ (by omega))) hw
    rw [wv_K hK] at kw
    exact ⟨_, kw, fun r a => by rw [rw_ne a]; exact hr r a⟩
  intro d
  induction d with
  | zero =>
    intro k c n τ e hn hp hr
    obtain ⟨n, rfl⟩ : ∃ n', n = n' + 2 := ⟨n - 2, by omega⟩
    obtain ⟨τ2, k1, k2⟩ := wor c τ hp hr
    rw [show l_X11_passes_34 (n + 2) (nI d0) (nI c) (nI k) τ = b_X11_passes_34 (l_X11_passes_34 (n + 1)) (nI d0) (nI c) (nI k) τ from rfl]
    unfold b_X11_passes_34
    rw [hr 10 (by omega), w3, if_neg (nI_nlt (by omega) (by omega)), k1, pz_bi_some, show fa (wb σ nl F) s 0 k c = if wb σ nl F c then nI k else -1 from rfl]
    refine ⟨τ2, ?_, k2⟩
    by_cases hz : wv σ nl F c = 0
    · rw [if_pos hz, wb_0 hz, if_neg (show ¬ false = true by decide), k2 10 (by omega), w3, if_pos (nI_le (by omega) (by omega)), nI_1, show l_X11_passes_34 (n + 1) (nI d0) (nI c) (nI (k + 1)) τ2 = b_X11_passes_34 (l_X11_passes_34 n) (nI d0) (nI c) (nI (k + 1)) τ2 from rfl]
      unfold b_X11_passes_34
      rw [k2 10 (by omega), w3, if_pos (nI_lt (by omega) (by omega))]
    · rw [if_neg hz, wb_1 hz, if_pos (show true = true from rfl)]
  | succ d ih =>
    intro k c n τ e hn hp hr
    obtain ⟨n, rfl⟩ : ∃ n', n = n' + 1 := ⟨n - 1, by omega⟩
    obtain ⟨τ2, k1, k2⟩ := wor c τ hp.1 hr
    obtain ⟨a1, a2, a3⟩ := w4 k (by omega)
    rw [show l_X11_passes_34 (n + 1) (nI d0) (nI c) (nI k) τ = b_X11_passes_34 (l_X11_passes_34 n) (nI d0) (nI c) (nI k) τ from rfl]
    unfold b_X11_passes_34
    rw [hr 10 (by omega), w3, if_neg (nI_nlt (by omega) (by omega)), k1, pz_bi_some, show fa (wb σ nl F) s (d + 1) k c = if wb σ nl F c then nI k else fa (wb σ nl F) s d (k + 1) (c + un (s k)) from rfl]
    by_cases hz : wv σ nl F c = 0
    · rw [if_pos hz, wb_0 hz, if_neg (show ¬ false = true by decide), k2 10 (by omega), w3, if_neg (nI_ge (by omega) (by omega)), if_pos (pz_in (show k < 24 by omega) (by decide)), nI_clamp (n := k) (by omega), k2 53 (by omega), a3, pz_unit τ2 a1, pz_bi_some, nI_add, nI_1]
      exact ih (k + 1) _ n τ2 (by omega) (by omega) hp.2 k2
    · rw [if_neg hz, wb_1 hz, if_pos (show true = true from rfl)]
      exact ⟨τ2, rfl, k2⟩
theorem pz_passes {σ : pw_St} {np nl tot nc nt n ns : Nat} {ev g s : Nat → Nat} {Fc Fp : Nat → List Pt_} (hH : HInv σ np nl tot ev g) (hC : CInv σ nc nt Fc Fp) (hW : WInv σ ns s) (hn : n < 2 ^ 31) (hN : NInv σ ev n) (x : Int32) : Qr (f_X10_passes x) (f_X11_passes x) σ ev n := by
  obtain ⟨b1, b2, b3, b4, b5, b6, b7, b8⟩ := id hC
  have hq := QI_of hH
  rcases cond3 x b1 with hx | ⟨c, hc, rfl⟩
  · refine Qr_same hN (r := -1) ?_ ?_
    · unfold f_X10_passes
      rw [has_no b3 hx, pz_bi_some, if_pos rfl]
    · unfold f_X11_passes
      rw [st_no b4 b1 hx, pz_bi_some, if_pos rfl]
  obtain ⟨σ1, k1, k2, k3, k4⟩ := pz_fresh hq.1.2.1 hq.2.1 hn hN
  have hK1 := Keep_N k4
  have hH1 := HInv_keep hH hK1
  have hC1 := CInv_keep hC hK1
  have hW1 := WInv_keep hW hK1
  have hq1 := QI_keep hq hK1
  have w1 := hW1.1
  obtain ⟨q1, q2, q3⟩ := hC1.2.2.2.2.2.2.1 c hc
  have hnl := nl_24 hH1
  have hrl := rp_le (pb ev (σ1.1 16)) ev s ns 0 0
  have hX : f_X10_passes (nI c) σ = (if nI ns ≤ nI (rp (pb ev (σ1.1 16)) ev s ns 0 0) then (pw_bi (f_X8_firstAt (c + 6) σ1) fun r5 σ5 => (some (r5, σ5))) else (some ((-3 : Int32), σ1))) := by
    unfold f_X10_passes
    rw [ha_in b3 hc b1, pz_bi_some, if_neg (by decide), k1, pz_bv_some, pz_rp hq1 k2 hW1, pz_bi_some, hW1.2.1, if_pos (pz_in (show c < 8 by omega) (by decide)), nI_clamp (n := c) (by omega)]
  have hM : ∀ τ, Keep σ1 τ → pb ev (τ.1 16) = pb ev (σ1.1 16) → f_X11_passes (nI c) τ = (if nI ns ≤ nI (rp (pb ev (σ1.1 16)) ev s ns 0 0) then (l_X11_passes_34 pw_FU (nI c) (0 : Int32) (0 : Int32) τ) else (some ((-3 : Int32), τ))) := by
    intro τ hK he
    unfold f_X11_passes
    rw [st_yes (by rw [hK 10 (by omega), hK1 10 (by omega)]; exact b4) b1 hc, pz_bi_some, if_neg (by decide), pz_fw (QI_keep hq1 hK) (WInv_keep hW1 hK), pz_bi_some, (WInv_keep hW1 hK).2.2.1, he]
  by_cases hr : rp (pb ev (σ1.1 16)) ev s ns 0 0 = ns
  · have hp := rp_pok (P := pb ev (σ1.1 16)) (ev := ev) (s := s) ns 0 0 (pb_0 _ _) (by omega)
    obtain ⟨τ, t1, t2⟩ := fa_x (P := pb ev (σ1.1 16)) hW1 (fun c h => (pb_t.mp h).1.1) hH1.1.2.2.2.2.2.2.2.2.1 hnl.1 q1 q3 ns 0 0 pw_FU σ1 (by omega) (by unfold pw_FU; omega) hp (fun _ _ _ => rfl)
    have hE : KeepE σ1 τ := fun k hk => t2 k (by omega) (by omega)
    have hC2 := CInv_keep hC1 (Keep_E hE)
    obtain ⟨u1, u2, u3⟩ := hC2.2.2.2.2.2.2.1 c hc
    obtain ⟨σ2, v1, v2⟩ := fa_m (HInv_keep hH1 (Keep_E hE)) (WInv_keep hW1 (Keep_E hE)) (show c < 16 by omega) u2 u3 ns 0 0 pw_FU τ (by omega) (by unfold pw_FU; omega) (by rw [pb_E (Keep_E hE)]; exact hp) (fun _ _ => rfl)
    rw [wb_K (Keep_E hE)] at v1
    have hE2 : KeepE σ1 σ2 := KeepE_tr hE (fun k hk => v2 k (by omega))
    refine ⟨fa (wb σ1 nl (Fc c)) s ns 0 0, τ, σ2, ?_, ?_, NInv_E k3 hE2, Keep_tr hK1 (Keep_E hE2)⟩
    · rw [hX, if_pos (nI_le (by omega) (by omega))]
      unfold f_X8_firstAt
      rw [pz_0, t1, pz_bi_some]
    · rw [hM τ (Keep_E hE) (pb_E (Keep_E hE)), if_pos (nI_le (by omega) (by omega)), pz_0, v1]
  · refine ⟨-3, σ1, σ1, ?_, ?_, k3, hK1⟩
    · rw [hX, if_neg (nI_ge (by omega) (by omega))]
    · rw [hM σ1 (Keep_rf σ1) rfl, if_neg (nI_ge (by omega) (by omega))]
