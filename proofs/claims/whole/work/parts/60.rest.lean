-- PURE PART: say, check, count, status
theorem hu_x {σ : pw_St} {nl : Nat} (e4 : σ.1 2 4 = nI nl) (hnl : nl ≤ 24) : ∀ (n l : Nat), l ≤ nl → nl - l < n → l_X3_howManyUntaken_4 n (nI (ct (fun t => decide (σ.1 21 t = -1)) l)) (nI l) σ = some (nI (ct (fun t => decide (σ.1 21 t = -1)) nl), σ) := by
  intro n
  induction n with
  | zero => intro l _ h; omega
  | succ n ih =>
    intro l h1 h2
    rw [show ∀ x, l_X3_howManyUntaken_4 (n + 1) x (nI l) σ = b_X3_howManyUntaken_4 (l_X3_howManyUntaken_4 n) x (nI l) σ from fun _ => rfl]
    unfold b_X3_howManyUntaken_4
    rw [e4]
    by_cases h : l = nl
    · subst h
      rw [if_pos (nI_le (Nat.le_refl _) (by omega))]
    · have hl : l < nl := by omega
      have hI := ih (l + 1) (by omega) (by omega)
      rw [ct_s] at hI
      rw [if_neg (nI_ge hl (by omega)), if_pos (pz_in (show l < 24 by omega) (by decide)), nI_clamp (n := l) (by omega)]
      by_cases hm : σ.1 21 l = -1
      · rw [if_pos hm, nI_1, nI_1]
        rw [decide_eq_true hm, if_pos rfl] at hI
        exact hI
      · rw [if_neg hm, nI_1]
        rw [decide_eq_false hm, if_neg (by decide)] at hI
        exact hI
theorem hu_m {σ : pw_St} {nl : Nat} (e4 : σ.1 10 9 = nI nl) (hnl : nl ≤ 24) : ∀ (n l : Nat), l ≤ nl → nl - l < n → l_X11_count__61 n (nI (ct (fun t => decide (σ.1 43 t = -1)) l)) (nI l) σ = some (nI (ct (fun t => decide (σ.1 43 t = -1)) nl), σ) := by
  intro n
  induction n with
  | zero => intro l _ h; omega
  | succ n ih =>
    intro l h1 h2
    rw [show ∀ x, l_X11_count__61 (n + 1) x (nI l) σ = b_X11_count__61 (l_X11_count__61 n) x (nI l) σ from fun _ => rfl]
    unfold b_X11_count__61 b_X11_count__85
    rw [e4]
    by_cases h : l = nl
    · subst h
      rw [if_pos (nI_le (Nat.le_refl _) (by omega))]
    · have hl : l < nl := by omega
      have hI := ih (l + 1) (by omega) (by omega)
      rw [ct_s] at hI
      rw [if_neg (nI_ge hl (by omega)), if_pos (pz_in (show l < 24 by omega) (by decide)), nI_clamp (n := l) (by omega)]
      by_cases hm : σ.1 43 l = -1
      · rw [if_pos hm, nI_1, nI_1]
        rw [decide_eq_true hm, if_pos rfl] at hI
        exact hI
      · rw [if_neg hm, Int32.add_zero, nI_1]
        rw [decide_eq_false hm, if_neg (by decide)] at hI
        exact hI
theorem pz_counts {σ : pw_St} {np nl tot nc nt ns : Nat} {ev g s : Nat → Nat} {Fc Fp : Nat → List Pt_} (hH : HInv σ np nl tot ev g) (hC : CInv σ nc nt Fc Fp) (hW : WInv σ ns s) (x : Int32) : Same (f_X10_count x) (f_X11_count_ x) σ := by
  have hnl := nl_24 hH
  obtain ⟨⟨b1, b2, b3, b4, b5, b6, b7, b8, b9, b10, b11⟩, hR, hO, hV⟩ := hH
  obtain ⟨c1, c2, c3, c4, c5, c6, c7, c8⟩ := hC
  obtain ⟨w1, w2, w3, w4⟩ := hW
  unfold Same f_X10_count f_X11_count_
  rw [b5, b6, b7, b8, b9, b10, c3, c4, c5, c6, w2, w3]
  by_cases h0 : x = 0
  · rw [if_pos h0, if_pos h0]; exact ⟨_, rfl, rfl⟩
  rw [if_neg h0, if_neg h0]
  by_cases h1 : x = 1
  · rw [if_pos h1, if_pos h1]; exact ⟨_, rfl, rfl⟩
  rw [if_neg h1, if_neg h1]
  by_cases h2 : x = 2
  · rw [if_pos h2, if_pos h2]; exact ⟨_, rfl, rfl⟩
  rw [if_neg h2, if_neg h2]
  by_cases h3 : x = 3
  · rw [if_pos h3, if_pos h3]
    have k1 := hu_x b9 hnl.1 pw_FU 0 (by omega) (by unfold pw_FU; omega)
    have k2 := hu_m b10 hnl.1 pw_FU 0 (by omega) (by unfold pw_FU; omega)
    rw [hR.2.2.2.2.2.2.2.2] at k2
    unfold f_X3_howManyUntaken
    exact ⟨_, by rw [show l_X3_howManyUntaken_4 pw_FU 0 0 σ = _ from k1, pz_bi_some], k2⟩
  rw [if_neg h3, if_neg h3]
  by_cases h4 : x = 4
  · rw [if_pos h4]; exact ⟨_, rfl, rfl⟩
  rw [if_neg h4]
  by_cases h5 : x = 5
  · rw [if_pos h5]; exact ⟨_, rfl, rfl⟩
  rw [if_neg h5]
  by_cases h6 : x = 6
  · rw [if_pos h6]; exact ⟨_, rfl, rfl⟩
  rw [if_neg h6]
  exact ⟨_, rfl, rfl⟩
theorem pz_status {σ : pw_St} (h : σ.1 0 8 = σ.1 10 22) : Same f_X10_status f_X11_status σ := by
  unfold Same f_X10_status f_X11_status
  rw [h]; exact ⟨_, rfl, rfl⟩
/-- what a call on the told row leaves as it was -/
def Sop (fx fm : pw_St → Option (Int32 × pw_St)) (σ : pw_St) : Prop := ∃ r σ1 σ2, fx σ = some (r, σ1) ∧ fm σ1 = some (r, σ2) ∧ (∀ k, k ≠ 9 → k ≠ 10 → k ≠ 33 → k ≠ 53 → σ2.1 k = σ.1 k) ∧ (∀ j, j ≠ 27 → σ2.1 10 j = σ.1 10 j) ∧ ∃ ns s, WInv σ2 ns s
theorem pz_say {σ : pw_St} {ns : Nat} {s : Nat → Nat} (hW : WInv σ ns s) (x : Int32) : Sop (f_X10_say x) (f_X11_say x) σ := by
  obtain ⟨w1, w2, w3, w4⟩ := id hW
  have e3 : (3 : Int32) = nI 4 - 1 := by decide
  rcases ix3 x (show 4 < 2 ^ 31 by decide) with h | ⟨h, h2⟩ | ⟨p, hp, rfl⟩
  · refine ⟨-2, σ, σ, ?_, ?_, fun _ _ _ _ _ => rfl, fun _ _ => rfl, ns, s, hW⟩
    · unfold f_X10_say f_X10_mayBeProcess
      rw [if_pos h, if_pos pz_isb0, pz_bi_some, if_pos rfl]
    · unfold f_X11_say
      rw [in_neg h, pz_bi_some, if_pos rfl]
  · refine ⟨-2, σ, σ, ?_, ?_, fun _ _ _ _ _ => rfl, fun _ _ => rfl, ns, s, hW⟩
    · unfold f_X10_say f_X10_mayBeProcess
      rw [if_neg h, if_pos (show (4 : Int32) ≤ x from h2), if_pos pz_isb0, pz_bi_some, if_pos rfl]
    · unfold f_X11_say
      rw [e3, in_ge h h2 (by decide), pz_bi_some, if_pos rfl]
  · have hX : f_X10_say (nI p) σ = (if nI ns < (24 : Int32) then (pw_bi (f_X8_append (nI p) σ) fun r2 σ2 => (some (r2, σ2))) else (some ((-4 : Int32), σ))) := by
      unfold f_X10_say f_X10_mayBeProcess
      rw [if_neg (nI_pos (by omega)), if_neg (show ¬ (4 : Int32) ≤ nI p from nI_ge (b := 4) hp (by decide)), if_pos pz_isb1, pz_bi_some, if_neg (by decide), w2]
    by_cases hf : ns = 24
    · refine ⟨-4, σ, σ, ?_, ?_, fun _ _ _ _ _ => rfl, fun _ _ => rfl, ns, s, hW⟩
      · rw [hX, hf, if_neg (by decide)]
      · unfold f_X11_say
        rw [e3, in_ok hp (by decide), pz_bi_some, if_neg (by decide), w3, hf, if_pos (show nI 24 = 24 from rfl)]
    · have hl : ns < 24 := by omega
      obtain ⟨σ1, es⟩ : ∃ σ1, σ1 = pw_rw (pw_rw σ 33 (upd (σ.1 33) ns (nI p))) 9 (upd (σ.1 9) 1 (nI (ns + 1))) := ⟨_, rfl⟩
      obtain ⟨σ2, es2⟩ : ∃ σ2, σ2 = pw_rw (pw_rw σ1 53 (upd (σ1.1 53) ns (nI p))) 10 (upd (σ1.1 10) 27 (nI (ns + 1))) := ⟨_, rfl⟩
      have q3 : σ1.1 10 27 = nI ns := by rw [es]; exact w3
      have hx1 : f_X10_say (nI p) σ = some (nI (ns + 1), σ1) := by
        rw [hX, if_pos (show nI ns < (24 : Int32) from nI_lt (b := 24) hl (by decide))]
        unfold f_X8_append
        rw [w2, if_pos (pz_in hl (by decide)), pz_lt, pz_lt, nI_clamp (n := ns) (by omega), rw_sM, rw_sM]
        rw [show (pw_rw σ 33 (upd (σ.1 33) ns (nI p))).1 9 1 = nI ns from w2, nI_1, show (pw_rw σ 33 (upd (σ.1 33) ns (nI p))).1 9 = σ.1 9 from rfl, ← es, pz_bi_some]
        rw [show σ1.1 9 1 = nI (ns + 1) by rw [es, rw_get]; exact pk_us]
      have hx2 : f_X11_say (nI p) σ1 = some (nI (ns + 1), σ2) := by
        unfold f_X11_say
        rw [e3, in_ok hp (by decide), pz_bi_some, if_neg (by decide), q3, if_neg (show ¬ nI ns = 24 from fun e => by have := (nI_eq (a := ns) (b := 24) (by omega) (by decide)).mp e; omega), if_pos (pz_in hl (by decide)), pz_lt, pz_lt, nI_clamp (n := ns) (by omega), rw_sM, rw_sM]
        rw [show (pw_rw σ1 53 (upd (σ1.1 53) ns (nI p))).1 10 27 = nI ns from q3, nI_1, show (pw_rw σ1 53 (upd (σ1.1 53) ns (nI p))).1 10 = σ1.1 10 from rfl, ← es2]
        rw [show σ2.1 10 27 = nI (ns + 1) by rw [es2, rw_get]; exact pk_us]
      obtain ⟨s2, n1, n2⟩ : ∃ s2 : Nat → Nat, s2 ns = p ∧ ∀ k, k ≠ ns → s2 k = s k := ⟨fun k => if k = ns then p else s k, if_pos rfl, fun k h => if_neg h⟩
      have r33 : σ2.1 33 = upd (σ.1 33) ns (nI p) := by rw [es2, rw_ne (by decide), rw_ne (by decide), es, rw_ne (by decide), rw_get]
      have r53 : σ2.1 53 = upd (σ.1 53) ns (nI p) := by rw [es2, rw_ne (by decide), rw_get, es]; rfl
      refine ⟨nI (ns + 1), σ1, σ2, hx1, hx2, fun k a b c d => ?_, fun j a => ?_, ns + 1, s2, by omega, ?_, ?_, fun k hk => ?_⟩
      · rw [es2, rw_ne b, rw_ne d, es, rw_ne a, rw_ne c]
      · rw [es2, rw_get, pk_un a, es]; rfl
      · rw [es2, rw_ne (by decide), rw_ne (by decide), es, rw_get]; exact pk_us
      · rw [es2, rw_get]; exact pk_us
      · rw [r33, r53]
        by_cases e : k = ns
        · rw [e, n1]
          exact ⟨hp, pk_us, pk_us⟩
        · obtain ⟨a1, a2, a3⟩ := w4 k (by omega)
          rw [n2 k e]
          exact ⟨a1, (pk_un e).trans a2, (pk_un e).trans a3⟩
/-- check -/
def Kop (fx fm : pw_St → Option (Int32 × pw_St)) (σ : pw_St) (ev : Nat → Nat) (n : Nat) : Prop := ∃ r σ0 σ1 σ2, fx σ = some (r, σ1) ∧ fm σ1 = some (r, σ2) ∧ NInv σ0 ev n ∧ NFr σ σ0 ∧ (∀ k, k ≠ 9 → k ≠ 10 → σ2.1 k = σ0.1 k) ∧ (∀ j, j ≠ 27 → σ2.1 10 j = σ0.1 10 j) ∧ ∃ ns s, WInv σ2 ns s
theorem pz_check {σ : pw_St} {np nl tot n ns : Nat} {ev g s : Nat → Nat} (hH : HInv σ np nl tot ev g) (hW : WInv σ ns s) (hn : n < 2 ^ 31) (hN : NInv σ ev n) : Kop f_X10_check f_X11_check σ ev n := by
  have hq := QI_of hH
  have ht := (nl_24 hH).2
  obtain ⟨σ0, k1, k2, k3, k4⟩ := pz_fresh hq.1.2.1 hq.2.1 hn hN
  have hK := Keep_N k4
  have hq0 := QI_keep hq hK
  have hW0 := WInv_keep hW hK
  have hH0 := HInv_keep hH hK
  obtain ⟨w1, w2, w3, w4⟩ := id hW0
  have hrl := rp_le (pb ev (σ0.1 16)) ev s ns 0 0
  obtain ⟨σ1, es⟩ : ∃ σ1, σ1 = pw_rw σ0 9 (upd (σ0.1 9) 1 0) := ⟨_, rfl⟩
  obtain ⟨σ2, es2⟩ : ∃ σ2, σ2 = pw_rw σ1 10 (upd (σ1.1 10) 27 0) := ⟨_, rfl⟩
  have e19 : σ1.1 1 9 = nI tot := by rw [es]; exact hH0.1.2.2.2.2.2.2.1
  have e27 : σ1.1 10 27 = nI ns := by rw [es]; exact w3
  have e108 : σ1.1 10 8 = nI tot := by rw [es]; exact hH0.1.2.2.2.2.2.2.2.1
  have hq1 : QI σ1 np ev := by unfold QI CutM at hq0 ⊢; rw [es]; exact hq0
  have hfw : f_X11_firstWrong σ1 = some (nI (rp (pb ev (σ0.1 16)) ev s ns 0 0), σ1) := by
    unfold f_X11_firstWrong
    have gen : ∀ (d k c m : Nat), k + d = ns → d < m → isC ev c → l_X11_firstWrong_4 m (nI c) (nI k) σ1 = some (nI (rp (pb ev (σ0.1 16)) ev s d k c), σ1) := by
      have := fw_l (σ := pw_rw σ1 9 (upd (σ1.1 9) 1 (nI ns))) (np := np) (ns := ns) (ev := ev) (s := s) (by unfold QI CutM at hq1 ⊢; exact hq1) ⟨w1, by rw [rw_get]; exact pk_us, e27, fun k hk => by rw [es]; exact w4 k hk⟩
      intro d
      induction d with
      | zero =>
        intro k c m e hm hc
        obtain ⟨m, rfl⟩ : ∃ m', m = m' + 1 := ⟨m - 1, by omega⟩
        rw [show l_X11_firstWrong_4 (m + 1) (nI c) (nI k) σ1 = b_X11_firstWrong_4 (l_X11_firstWrong_4 m) (nI c) (nI k) σ1 from rfl]
        unfold b_X11_firstWrong_4
        rw [e27, if_pos (nI_le (by omega) (by omega)), show ns = k by omega]
        rfl
      | succ d ih =>
        obtain ⟨m1, m2, m3, m4, m5⟩ := id hq1.1
        intro k c m e hn hC
        have hc := hC.1
        obtain ⟨m, rfl⟩ : ∃ m', m = m' + 1 := ⟨m - 1, by omega⟩
        obtain ⟨a1, a2, a3⟩ := w4 k (by omega)
        have a3' : σ1.1 53 k = nI (s k) := by rw [es]; exact a3
        have e16 : σ1.1 16 = σ0.1 16 := by rw [es]; rfl
        have h6p := m2 (s k) a1
        have hdl := hC.2 (s k) a1
        rw [show l_X11_firstWrong_4 (m + 1) (nI c) (nI k) σ1 = b_X11_firstWrong_4 (l_X11_firstWrong_4 m) (nI c) (nI k) σ1 from rfl]
        unfold b_X11_firstWrong_4
        rw [e27, if_neg (nI_ge (by omega) (by omega)), if_pos (pz_in (show k < 24 by omega) (by decide)), nI_clamp (n := k) (by omega), a3', m4, rp_s]
        by_cases hnp : np ≤ s k
        · rw [if_pos (nI_le hnp (by omega)), if_neg (fun hh => by have := m3 (s k) hnp a1; omega)]
        · rw [if_neg (nI_ge (by omega) (by omega)), pz_part σ1 (by omega) a1, pz_bi_some, if_pos (pz_in a1 (by decide)), nI_clamp (n := s k) (by omega), m5 _ a1]
          by_cases hd : dg c (s k) = ev (s k)
          · rw [if_pos (by rw [hd]), if_neg (fun hh => by omega)]
          · have hl := up_lt hc a1 (show dg c (s k) < 6 by omega)
            rw [if_neg (fun e => hd ((nI_eq (by omega) (by omega)).mp e)), pz_unit σ1 a1, pz_bi_some, nI_add]
            by_cases hP : pb ev (σ0.1 16) (c + un (s k)) = true
            · rw [ips_t hq1 (by rw [e16]; exact hP), pz_bi_some, if_neg (by decide), pz_unit σ1 a1, pz_bi_some, nI_add, nI_1, if_pos ⟨by omega, hP⟩]
              exact ih (k + 1) _ m (by omega) (by omega) (pb_t.mp hP).1
            · have hPf : pb ev (σ0.1 16) (c + un (s k)) = false := by simpa using hP
              rw [ips_f hq1 hl (by rw [e16]; exact hPf), pz_bi_some, if_pos rfl, if_neg (fun hh => hP hh.2)]
    exact gen ns 0 0 pw_FU (by omega) (by unfold pw_FU; omega) (pb_t.mp (pb_0 ev (σ0.1 16))).1
  obtain ⟨R, eR⟩ : ∃ R, R = rp (pb ev (σ0.1 16)) ev s ns 0 0 := ⟨_, rfl⟩
  rw [← eR] at hfw hrl
  refine ⟨if R = ns ∧ ns = tot then 100 else nI R, σ0, σ1, σ2, ?_, ?_, k3, k4, fun k a b => by rw [es2, rw_ne b, es, rw_ne a], fun j a => by rw [es2, rw_get, pk_un a, es]; rfl, 0, s, by omega, by rw [es2, rw_ne (by decide), es, rw_get]; exact pk_us, by rw [es2, rw_get]; exact pk_us, fun k hk => by omega⟩
  · unfold f_X10_check
    rw [k1, pz_bv_some, pz_rp hq0 k2 hW0, pz_bi_some, pz_lt, rw_sM, ← es, hW.2.1, e19, ← eR]
    by_cases h1 : R = ns
    · by_cases h2 : ns = tot
      · rw [if_pos (by rw [h1]), if_pos (by rw [h2]), if_pos ⟨h1, h2⟩]
      · rw [if_pos (by rw [h1]), if_neg (fun e => h2 ((nI_eq (by omega) (by omega)).mp e)), if_neg (fun hh => h2 hh.2)]
    · rw [if_neg (fun e => h1 ((nI_eq (by omega) (by omega)).mp e)), if_neg (fun hh => h1 hh.1)]
  · unfold f_X11_check
    rw [hfw, pz_bi_some, e27, e108]
    have fin : ∀ y : Int32, b_X11_check_29 (nI R) y σ1 = if y = 0 then some (nI R, σ2) else some (100, σ2) := fun y => by
      unfold b_X11_check_29
      rw [pz_lt, rw_sM, ← es2]
    unfold b_X11_check_28
    rw [fin, fin]
    by_cases h1 : R = ns
    · by_cases h2 : ns = tot
      · rw [if_pos (by rw [h1]), if_pos (by rw [h2]), if_neg (by decide), if_pos ⟨h1, h2⟩]
      · rw [if_pos (by rw [h1]), if_neg (fun e => h2 ((nI_eq (by omega) (by omega)).mp e)), if_pos rfl, if_neg (fun hh => h2 hh.2)]
    · rw [if_neg (fun e => h1 ((nI_eq (by omega) (by omega)).mp e)), if_pos rfl, if_neg (fun hh => h1 hh.1)]
