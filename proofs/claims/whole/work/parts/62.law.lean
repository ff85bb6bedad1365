-- PURE PART: the law's loop
set_option maxHeartbeats 4000000 in
theorem law_s {xs : Nat → Int32} {L : Nat} {σ : pw_St} {n i : Nat} {k18 : Int32 → pw_St → Option Unit} (hL : L ≤ 2560) (hi : 5 * i + 5 ≤ L) (hn : n < 2 ^ 30) (hI : Inv σ n) (hk : ∀ σ2, Inv σ2 (n + 1) → k18 (nI (5 * i) + 5) σ2 = some ()) : b_L_law_18 xs L k18 (nI (5 * i)) σ = some () := by
  obtain ⟨np, nl, tot, ev, g, nc, nt, Fc, Fp, ns, s, hH, hN, hC, hW, h0⟩ := id hI
  have hn1 : n < 2 ^ 31 := by omega
  have hq := QI_of hH
  have st_r : ∀ {fx fm : pw_St → Option (Int32 × pw_St)}, Qr fx fm σ ev n → PStep fx fm σ n := by
    rintro fx fm ⟨r, σ1, σ2, h1, h2, h3, h4⟩
    exact ⟨r, σ1, σ2, h1, h2, Inv_keep hH hC hW h0 h3 h4⟩
  have st_rl : ∀ {fx fm : pw_St → Option (Int64 × pw_St)}, QrL fx fm σ ev n → PStepL fx fm σ n := by
    rintro fx fm ⟨r, σ1, σ2, h1, h2, h3, h4⟩
    exact ⟨r, σ1, σ2, h1, h2, Inv_keep hH hC hW h0 h3 h4⟩
  have st_q : ∀ {fx fm : pw_St → Option (Int32 × pw_St)}, Qry fx fm σ ev n → PStep fx fm σ n := by
    rintro fx fm ⟨r, σ1, h1, h2, h3, h4⟩
    exact ⟨r, σ1, σ1, h1, h2, Inv_keep hH hC hW h0 h3 (Keep_N h4)⟩
  have p0 : pw_in (nI (5 * i)) L = true := pz_in (by omega) (by omega)
  have p1 : pw_in (nI (5 * i) + 1) L = true := by rw [nI_1]; exact pz_in (by omega) (by omega)
  have p2 : pw_in (nI (5 * i) + 2) L = true := by rw [show (2 : Int32) = nI 2 from rfl, nI_add]; exact pz_in (by omega) (by omega)
  have p3 : pw_in (nI (5 * i) + 3) L = true := by rw [show (3 : Int32) = nI 3 from rfl, nI_add]; exact pz_in (by omega) (by omega)
  have p4 : pw_in (nI (5 * i) + 4) L = true := by rw [show (4 : Int32) = nI 4 from rfl, nI_add]; exact pz_in (by omega) (by omega)
  have hlt : ¬ (Int32.ofNat L - 5) < nI (5 * i) := by
    rw [show Int32.ofNat L - 5 = nI L - nI 5 from rfl, Int32.lt_iff_toInt_lt, pk_sub_toInt (by omega) (by decide), nI_toInt (by omega)]
    omega
  unfold b_L_law_18
  simp only [p0, p1, p2, p3, p4, if_neg hlt, eq_self, if_true]
  refine ite_s (run_i (st_process hI) hk) ?_
  refine ite_s (run_i (st_hop hI hn (pz_own hH _ _ _ _)) hk) ?_
  refine ite_s (run_i (st_hop hI hn (pz_send hH _ _)) hk) ?_
  refine ite_s (run_i (st_hop hI hn (pz_take hH _)) hk) ?_
  refine ite_s (run_i (st_hop hI hn (pz_wait hH _ _)) hk) ?_
  refine ite_s (run_i (st_hop hI hn (pz_undo hH)) hk) ?_
  refine ite_s (run_i (st_same hI (pz_event hH _ _ _)) hk) ?_
  refine ite_s (run_i (st_same hI (pz_letter hH _ _)) hk) ?_
  refine ite_s (run_i (st_same hI (pz_ahead hH _ _ _ _)) hk) ?_
  refine ite_s (run_i (st_same hI (pz_clock hH _ _ _)) hk) ?_
  refine ite_s (run_i (st_q (pz_possible hq hn1 hN _)) hk) ?_
  refine ite_s (run_i (st_q (pz_cuts hq hn1 hN _)) hk) ?_
  refine ite_s (run_i (st_q (pz_next hq hn1 hN _)) hk) ?_
  refine ite_s (run_i (st_same hI (pz_join hq _ _ _)) hk) ?_
  refine ite_s (run_i (st_same hI (pz_least hH _ _)) hk) ?_
  refine ite_s (run_l (st_rl (pz_orders hq hn1 hN)) hk) ?_
  refine ite_s (run_i (st_r (pz_order hH hn1 hN _ _)) hk) ?_
  refine ite_s (run_i (st_cop hI (pz_number hC _)) hk) ?_
  refine ite_s (run_i (st_cop hI (pz_partc hC _ _ _)) hk) ?_
  refine ite_s (run_i (st_cop hI (pz_op hC _)) hk) ?_
  refine ite_s (run_i (st_cop hI (pz_condition hC)) hk) ?_
  refine ite_s (run_i (st_cop hI (pz_clear hC _)) hk) ?_
  refine ite_s (run_i (st_vop hI (pz_value hH hC _ _)) hk) ?_
  refine ite_s (run_i (st_same hI (pz_status h0)) hk) ?_
  refine ite_s (run_i (st_r (pz_may hH hC hn1 hN _)) hk) ?_
  refine ite_s (run_i (st_r (pz_last hH hC hn1 hN _)) hk) ?_
  refine ite_s (run_i (st_r (pz_many hH hC hn1 hN _)) hk) ?_
  refine ite_s (run_i (st_r (pz_sure hH hC hn1 hN _)) hk) ?_
  refine ite_s (run_i (st_r (pz_avoid hH hC hn1 hN _ _)) hk) ?_
  refine ite_s (run_l (st_rl (pz_avoids hH hC hn1 hN _)) hk) ?_
  refine ite_s (run_i (st_r (pz_is hH hC hn1 hN _ _)) hk) ?_
  refine ite_s (run_i (st_r (pz_before hH hC hn1 hN _ _)) hk) ?_
  refine ite_s (run_i (st_sop hI (pz_say hW _)) hk) ?_
  refine ite_s (run_i (st_kop hH hC h0 (pz_check hH hW hn1 hN)) hk) ?_
  refine ite_s (run_i (st_r (pz_passes hH hC hW hn1 hN _)) hk) ?_
  refine ite_s (run_i (st_same hI (pz_counts hH hC hW _)) hk) ?_
  exact hk σ (Inv_up hI)
theorem law_l {xs : Nat → Int32} {L : Nat} (hL : L ≤ 2560) : ∀ (m i : Nat) (σ : pw_St), Inv σ i → (5 * i ≤ L ∨ i = 0) → L < 5 * (i + m) → 0 < m → l_L_law_18 xs L m (nI (5 * i)) σ = some () := by
  intro m
  induction m with
  | zero => intro i σ _ _ _ h; omega
  | succ m ih =>
    intro i σ hI h1 h2 _
    rw [show l_L_law_18 xs L (m + 1) (nI (5 * i)) σ = b_L_law_18 xs L (l_L_law_18 xs L m) (nI (5 * i)) σ from rfl]
    by_cases hi : 5 * i + 5 ≤ L
    · refine law_s hL hi (by omega) hI (fun σ2 hI2 => ?_)
      rw [show (5 : Int32) = nI 5 from rfl, nI_add, show 5 * i + 5 = 5 * (i + 1) by omega]
      exact ih (i + 1) σ2 hI2 (by omega) (by omega) (by omega)
    · unfold b_L_law_18
      rw [if_pos]
      rw [show Int32.ofNat L - 5 = nI L - nI 5 from rfl, Int32.lt_iff_toInt_lt, pk_sub_toInt (by omega) (by decide), nI_toInt (by omega)]
      omega
theorem pw_pure (xs : Nat → Int32) (L : Nat) (hL : L ≤ 2560) : f_L_law xs L pw_s0 = some () := by
  unfold f_L_law
  exact law_l hL pw_FU 0 pw_s0 Inv_0 (Or.inr rfl) (by unfold pw_FU; omega) (by unfold pw_FU; omega)
