-- PURE PART: part, op, condition, clear
theorem n00 : nI 0 = (0 : Int32) := rfl
theorem n11 : nI 1 = (1 : Int32) := rfl
theorem in_ge2 {x : Int32} {σ : pw_St} (h0 : ¬ x < 0) (h : nI 3 ≤ x) : f_X11_in x 0 2 σ = some (0, σ) := in_ge (n := 3) h0 h (by decide)
theorem in_ge3 {x : Int32} {σ : pw_St} (h0 : ¬ x < 0) (h : nI 4 ≤ x) : f_X11_in x 0 3 σ = some (0, σ) := in_ge (n := 4) h0 h (by decide)
theorem in_ge7 {x : Int32} {σ : pw_St} (h0 : ¬ x < 0) (h : nI 8 ≤ x) : f_X11_in x 0 7 σ = some (0, σ) := in_ge (n := 8) h0 h (by decide)
theorem in_ge1 {x : Int32} {σ : pw_St} (h0 : ¬ x < 0) (h : nI 2 ≤ x) : f_X11_in x 0 1 σ = some (0, σ) := in_ge (n := 2) h0 h (by decide)
theorem in_ok2 {j : Nat} {σ : pw_St} (h : j < 3) : f_X11_in (nI j) 0 2 σ = some (1, σ) := in_ok (n := 3) h (by decide)
theorem in_ok3 {j : Nat} {σ : pw_St} (h : j < 4) : f_X11_in (nI j) 0 3 σ = some (1, σ) := in_ok (n := 4) h (by decide)
theorem in_ok7 {j : Nat} {σ : pw_St} (h : j < 8) : f_X11_in (nI j) 0 7 σ = some (1, σ) := in_ok (n := 8) h (by decide)
theorem in_ok1 {j : Nat} {σ : pw_St} (h : j < 2) : f_X11_in (nI j) 0 1 σ = some (1, σ) := in_ok (n := 2) h (by decide)
theorem lt_of_ge {x : Int32} {n : Nat} (h : nI (n + 1) ≤ x) (hn : n + 1 < 2 ^ 31) : nI n < x := Int32.lt_of_lt_of_le (nI_lt (by omega) (by omega)) h
theorem pr_push {σ : pw_St} {nc nt w a b : Nat} {Fc Fp : Nat → List Pt_} (h : CInv σ nc nt Fc Fp) (hw : w < 3) (ha : a < 4) (hb : b < 4) (hb0 : w = 0 → b < 3) : Cop (b_X10_part_56 (nI w) (nI a) (nI b)) (b_X11_part__59 (nI w) (nI a) (nI b)) σ := by
  obtain ⟨b1, b2, b3, b4, b5, b6, b7, b8⟩ := id h
  have e1 : (8 : Int32) + nI w = nI (8 + w) := by rw [show (8 : Int32) = nI 8 from rfl, nI_add]
  have e2 : (11 : Int32) + nI w = nI (enc (8 + w)) := by
    rw [show (11 : Int32) = nI 11 from rfl, nI_add]
    rcases (show w = 0 ∨ w = 1 ∨ w = 2 by omega) with rfl | rfl | rfl <;> rfl
  by_cases ht : nt < 6
  · have hg : gdp (8 + w, nI a, nI b) := by
      refine Or.inr (Or.inr ⟨a, b, rfl, rfl, ha, ?_⟩)
      show (8 + w = 8 ∧ b < 3) ∨ (8 + w = 9 ∧ b < 4) ∨ (8 + w = 10 ∧ b < 4)
      by_cases h0 : w = 0
      · exact Or.inl ⟨by omega, hb0 h0⟩
      · omega
    obtain ⟨r, σ1, σ2, k1, k2, k3, k4⟩ := C_push h (8 + w, nI a, nI b) (show 8 ≤ 8 + w by omega) hg ht
    refine ⟨r, σ1, σ2, ?_, ?_, k3, k4⟩
    · unfold b_X10_part_56
      rw [b5, if_pos (show nI nt < 6 from nI_lt (b := 6) ht (by decide)), e1, show f_X7_push (nI (8 + w)) (nI a) (nI b) σ = some (r, σ1) from k1]
      rfl
    · unfold b_X11_part__59
      rw [e2, show f_X11_push (nI (enc (8 + w))) (nI a) (nI b) σ1 = some (r, σ2) from k2]
      rfl
  · have h6 : nt = 6 := by omega
    subst h6
    refine Cop_same h (r := -4) ?_ ?_
    · unfold b_X10_part_56
      rw [b5, if_neg (by decide)]
    · unfold b_X11_part__59 f_X11_push
      rw [b6, if_pos (show nI 6 = (6 : Int32) from rfl)]
      rfl
theorem pz_partc {σ : pw_St} {nc nt : Nat} {Fc Fp : Nat → List Pt_} (h : CInv σ nc nt Fc Fp) (x1 x2 x3 : Int32) : Cop (f_X10_part x1 x2 x3) (f_X11_part_ x1 x2 x3) σ := by
  rcases ix3 x1 (show 3 < 2 ^ 31 by decide) with h1 | ⟨h1, h2⟩ | ⟨w, hw, rfl⟩
  · exact Cop_same h (r := -1) (by unfold f_X10_part; rw [if_pos h1]) (by unfold f_X11_part_; rw [in_neg h1, pz_bi_some, if_pos rfl])
  · exact Cop_same h (r := -1) (by unfold f_X10_part; rw [if_neg h1, if_pos (show 2 < x1 from lt_of_ge (n := 2) h2 (by decide))]) (by unfold f_X11_part_; rw [in_ge2 h1 h2, pz_bi_some, if_pos rfl])
  have hX : f_X10_part (nI w) x2 x3 σ = (pw_bi (f_X10_mayBeProcess x2 σ) fun r1 σ1 => (if r1 = 0 then (some ((-1 : Int32), σ1)) else (pw_bi (f_X10_mayBeProcess x3 σ1) fun r2 σ2 => (if r2 = 0 then (some ((-1 : Int32), σ2)) else (if nI w = 0 then (if x3 < (3 : Int32) then (b_X10_part_34 (nI w) x2 x3 σ2) else (some ((-1 : Int32), σ2))) else (b_X10_part_34 (nI w) x2 x3 σ2)))))) := by
    unfold f_X10_part
    rw [if_neg (nI_pos (by omega)), if_neg (show ¬ 2 < nI w from fun hh => by have := nI_le (a := w) (b := 2) (by omega) (by decide); exact absurd (Int32.lt_of_lt_of_le hh this) (by decide))]
  have hM : f_X11_part_ (nI w) x2 x3 σ = (pw_bi (f_X11_in x2 (0 : Int32) (3 : Int32) σ) fun r2 σ2 => (if r2 = 0 then (some ((-1 : Int32), σ2)) else (if nI w = 0 then (b_X11_part__29 (nI w) x2 x3 (2 : Int32) (0 : Int32) x3 σ2) else (b_X11_part__29 (nI w) x2 x3 (3 : Int32) (0 : Int32) x3 σ2)))) := by
    unfold f_X11_part_
    rw [in_ok2 hw, pz_bi_some, if_neg (by decide)]
  rcases ix3 x2 (show 4 < 2 ^ 31 by decide) with h1 | ⟨h1, h2⟩ | ⟨a, ha, rfl⟩
  · exact Cop_same h (r := -1) (by rw [hX, mp_neg h1, pz_bi_some, if_pos rfl]) (by rw [hM, in_neg h1, pz_bi_some, if_pos rfl])
  · exact Cop_same h (r := -1) (by rw [hX, mp_ge h1 h2, pz_bi_some, if_pos rfl]) (by rw [hM, in_ge3 h1 h2, pz_bi_some, if_pos rfl])
  have hX2 : f_X10_part (nI w) (nI a) x3 σ = (pw_bi (f_X10_mayBeProcess x3 σ) fun r2 σ2 => (if r2 = 0 then (some ((-1 : Int32), σ2)) else (if nI w = 0 then (if x3 < (3 : Int32) then (b_X10_part_34 (nI w) (nI a) x3 σ2) else (some ((-1 : Int32), σ2))) else (b_X10_part_34 (nI w) (nI a) x3 σ2)))) := by
    rw [hX, mp_in ha, pz_bi_some, if_neg (by decide)]
  have hM2 : f_X11_part_ (nI w) (nI a) x3 σ = (if nI w = 0 then (b_X11_part__29 (nI w) (nI a) x3 (2 : Int32) (0 : Int32) x3 σ) else (b_X11_part__29 (nI w) (nI a) x3 (3 : Int32) (0 : Int32) x3 σ)) := by
    rw [hM, in_ok3 ha, pz_bi_some, if_neg (by decide)]
  have hw0 : nI w = 0 ↔ w = 0 := nI_eq (a := w) (b := 0) (by omega) (by decide)
  rcases ix3 x3 (show 4 < 2 ^ 31 by decide) with h1 | ⟨h1, h2⟩ | ⟨b, hb, rfl⟩
  · refine Cop_same h (r := -1) (by rw [hX2, mp_neg h1, pz_bi_some, if_pos rfl]) ?_
    rw [hM2]
    split <;> (unfold b_X11_part__29; rw [in_neg h1, pz_bi_some, if_pos rfl])
  · refine Cop_same h (r := -1) (by rw [hX2, mp_ge h1 h2, pz_bi_some, if_pos rfl]) ?_
    rw [hM2]
    split
    · unfold b_X11_part__29; rw [in_ge2 h1 (Int32.le_trans (by decide) h2), pz_bi_some, if_pos rfl]
    · unfold b_X11_part__29; rw [in_ge3 h1 h2, pz_bi_some, if_pos rfl]
  by_cases hbad : w = 0 ∧ b = 3
  · obtain ⟨rfl, rfl⟩ := hbad
    refine Cop_same h (r := -1) (by rw [hX2, mp_in hb, pz_bi_some, if_neg (by decide), if_pos n00, if_neg (by decide)]) ?_
    rw [hM2, if_pos n00]
    unfold b_X11_part__29
    rw [in_ge2 (by decide) (by decide), pz_bi_some, if_pos rfl]
  have hX3 : f_X10_part (nI w) (nI a) (nI b) σ = b_X10_part_34 (nI w) (nI a) (nI b) σ := by
    rw [hX2, mp_in hb, pz_bi_some, if_neg (by decide)]
    by_cases h0 : w = 0
    · rw [if_pos (hw0.mpr h0), if_pos (show nI b < 3 from nI_lt (b := 3) (by omega) (by decide))]
    · rw [if_neg (fun e => h0 (hw0.mp e))]
  have hM3 : ∀ τ, f_X11_part_ (nI w) (nI a) (nI b) τ = (if nI w = (1 : Int32) then (if nI a = nI b then (some ((-2 : Int32), τ)) else (b_X11_part__47 (nI w) (nI a) (nI b) τ)) else (b_X11_part__47 (nI w) (nI a) (nI b) τ)) := by
    intro τ
    unfold f_X11_part_
    rw [in_ok2 hw, pz_bi_some, if_neg (by decide), in_ok3 ha, pz_bi_some, if_neg (by decide)]
    by_cases h0 : w = 0
    · rw [if_pos (hw0.mpr h0)]
      unfold b_X11_part__29
      rw [in_ok2 (by omega), pz_bi_some, if_neg (by decide)]
    · rw [if_neg (fun e => h0 (hw0.mp e))]
      unfold b_X11_part__29
      rw [in_ok3 (by omega), pz_bi_some, if_neg (by decide)]
  have hw1 : nI w = 1 ↔ w = 1 := nI_eq (a := w) (b := 1) (by omega) (by decide)
  have hw2 : nI w = 2 ↔ w = 2 := nI_eq (a := w) (b := 2) (by omega) (by decide)
  have hab : nI a = nI b ↔ a = b := nI_eq (by omega) (by omega)
  have hb0 : nI b = 0 ↔ b = 0 := nI_eq (a := b) (b := 0) (by omega) (by decide)
  by_cases c1 : w = 1 ∧ a = b
  · refine Cop_same h (r := -2) ?_ ?_
    · rw [hX3]; unfold b_X10_part_34; rw [if_pos (hw1.mpr c1.1), if_pos (hab.mpr c1.2)]
    · rw [hM3, if_pos (hw1.mpr c1.1), if_pos (hab.mpr c1.2)]
  have hX4 : f_X10_part (nI w) (nI a) (nI b) σ = b_X10_part_44 (nI w) (nI a) (nI b) σ := by
    rw [hX3]; unfold b_X10_part_34
    by_cases h1 : w = 1
    · rw [if_pos (hw1.mpr h1), if_neg (fun e => c1 ⟨h1, hab.mp e⟩)]
    · rw [if_neg (fun e => h1 (hw1.mp e))]
  have hM4 : ∀ τ, f_X11_part_ (nI w) (nI a) (nI b) τ = b_X11_part__47 (nI w) (nI a) (nI b) τ := by
    intro τ
    rw [hM3]
    by_cases h1 : w = 1
    · rw [if_pos (hw1.mpr h1), if_neg (fun e => c1 ⟨h1, hab.mp e⟩)]
    · rw [if_neg (fun e => h1 (hw1.mp e))]
  by_cases c2 : w = 2 ∧ b ≠ 0
  · refine Cop_same h (r := -2) ?_ ?_
    · rw [hX4]; unfold b_X10_part_44; rw [if_pos (hw2.mpr c2.1), if_neg (fun e => c2.2 (hb0.mp e))]
    · rw [hM4]; unfold b_X11_part__47; rw [if_pos (hw2.mpr c2.1), if_neg (fun e => c2.2 (hb0.mp e))]
  have hX5 : f_X10_part (nI w) (nI a) (nI b) σ = b_X10_part_56 (nI w) (nI a) (nI b) σ := by
    rw [hX4]; unfold b_X10_part_44
    by_cases h1 : w = 2
    · rw [if_pos (hw2.mpr h1), if_pos (hb0.mpr (Classical.byContradiction fun hn => c2 ⟨h1, hn⟩))]
    · rw [if_neg (fun e => h1 (hw2.mp e))]
  have hM5 : ∀ τ, f_X11_part_ (nI w) (nI a) (nI b) τ = b_X11_part__59 (nI w) (nI a) (nI b) τ := by
    intro τ
    rw [hM4]; unfold b_X11_part__47
    by_cases h1 : w = 2
    · rw [if_pos (hw2.mpr h1), if_pos (hb0.mpr (Classical.byContradiction fun hn => c2 ⟨h1, hn⟩))]
    · rw [if_neg (fun e => h1 (hw2.mp e))]
  obtain ⟨r, σ1, σ2, k1, k2, k3, k4⟩ := pr_push h hw ha hb (fun h0 => by omega)
  exact ⟨r, σ1, σ2, hX5.trans k1, (hM5 σ1).trans k2, k3, k4⟩
theorem pz_clear {σ : pw_St} {nc nt : Nat} {Fc Fp : Nat → List Pt_} (h : CInv σ nc nt Fc Fp) (x : Int32) : Cop (f_X10_clear x) (f_X11_clear x) σ := by
  obtain ⟨b1, b2, b3, b4, b5, b6, b7, b8⟩ := id h
  rcases ix3 x (show 2 < 2 ^ 31 by decide) with h1 | ⟨h1, h2⟩ | ⟨w, hw, rfl⟩
  · refine Cop_same h (r := -2) ?_ (by unfold f_X11_clear; rw [in_neg h1, pz_bi_some, if_pos rfl])
    unfold f_X10_clear
    rw [if_neg (fun e => by rw [e] at h1; exact absurd h1 (by decide)), if_neg (fun e => by rw [e] at h1; exact absurd h1 (by decide))]
  · refine Cop_same h (r := -2) ?_ (by unfold f_X11_clear; rw [in_ge1 h1 h2, pz_bi_some, if_pos rfl])
    unfold f_X10_clear
    rw [if_neg (fun e => by rw [e] at h2; exact absurd h2 (by decide)), if_neg (fun e => by rw [e] at h2; exact absurd h2 (by decide))]
  · rcases (show w = 0 ∨ w = 1 by omega) with rfl | rfl
    · obtain ⟨σ1, e1⟩ : ∃ σ1, σ1 = pw_rw σ 4 (upd (σ.1 4) 1 0) := ⟨_, rfl⟩
      obtain ⟨σ2, e2⟩ : ∃ σ2, σ2 = pw_rw σ1 10 (upd (σ1.1 10) 21 0) := ⟨_, rfl⟩
      have hX : XFr 0 σ σ1 := ⟨fun r a1 _ _ _ _ _ => by rw [e1, rw_ne a1], by rw [e1]; rfl⟩
      have hY : YFr 16 σ1 σ2 := ⟨fun r a1 _ => by rw [e2, rw_ne a1], fun j _ a2 => by rw [e2, rw_get, pk_un a2], fun j _ => by rw [e2, rw_ne (by omega)], fun j _ => by rw [e2, rw_ne (by omega), rw_ne (by omega), rw_ne (by omega)]; exact ⟨rfl, rfl, rfl⟩, by rw [e2]; rfl⟩
      refine ⟨nI nt, σ1, σ2, ?_, ?_, ⟨nc, 0, Fc, Fp, b1, by omega, ?_, ?_, ?_, ?_, ?_, fun i hi => by omega⟩, XY_C hX hY⟩
      · unfold f_X10_clear b_X10_clear_12 b_X10_clear_35
        rw [if_pos n00, if_neg (by decide), pz_lt, if_neg (by decide), b5, rw_sM, ← e1, show nI nt + 0 = nI nt by rw [pz_0, nI_add]; rfl]
      · have r10 : σ1.1 10 21 = nI nt := by rw [e1, rw_ne (by omega)]; exact b6
        unfold f_X11_clear
        rw [in_ok1 (by decide), pz_bi_some, if_neg (by decide), pz_lt, if_neg (by decide), r10, rw_sM, ← e2]
      · rw [e2, rw_ne (by omega), e1, rw_ne (by omega)]; exact b3
      · rw [e2, rw_get, pk_un (by omega), e1, rw_ne (by omega)]; exact b4
      · rw [e2, rw_ne (by omega), e1, rw_get]; exact pk_us
      · rw [e2, rw_get]; exact pk_us
      · intro c hc
        obtain ⟨q1, q2, q3⟩ := b7 c hc
        exact ⟨XY_X hX hY (by omega) q1, XY_M hX hY (by omega) q3.2.2 q2, q3⟩
    · obtain ⟨σ1, e1⟩ : ∃ σ1, σ1 = pw_rw (pw_rw σ 4 (upd (σ.1 4) 1 0)) 5 (upd (σ.1 5) 1 0) := ⟨_, rfl⟩
      obtain ⟨σ2, e2⟩ : ∃ σ2, σ2 = pw_rw σ1 10 (upd (upd (σ1.1 10) 21 0) 20 0) := ⟨_, rfl⟩
      have hX : XFr 0 σ σ1 := ⟨fun r a1 a2 _ _ _ _ => by rw [e1, rw_ne a2, rw_ne a1], by rw [e1]; rfl⟩
      have hY : YFr 16 σ1 σ2 := ⟨fun r a1 _ => by rw [e2, rw_ne a1], fun j a1 a2 => by rw [e2, rw_get, pk_un a1, pk_un a2], fun j _ => by rw [e2, rw_ne (by omega)], fun j _ => by rw [e2, rw_ne (by omega), rw_ne (by omega), rw_ne (by omega)]; exact ⟨rfl, rfl, rfl⟩, by rw [e2]; rfl⟩
      refine ⟨nI nt + nI nc, σ1, σ2, ?_, ?_, ⟨0, 0, Fc, Fp, by omega, by omega, ?_, ?_, ?_, ?_, fun i hi => by omega, fun i hi => by omega⟩, XY_C hX hY⟩
      · unfold f_X10_clear b_X10_clear_12 b_X10_clear_35
        rw [if_neg (by decide), if_pos n11, if_pos n11, pz_lt, if_pos n11, pz_lt, b5, b3, e1]
        rfl
      · have r21 : σ1.1 10 21 = nI nt := by rw [e1, rw_ne (by omega), rw_ne (by omega)]; exact b6
        have r20 : (pw_sM σ1 10 21 0).1 10 20 = nI nc := by rw [rw_sM, rw_get, pk_un (by omega), e1, rw_ne (by omega), rw_ne (by omega)]; exact b4
        unfold f_X11_clear
        rw [in_ok1 (by decide), pz_bi_some, if_neg (by decide), pz_lt, if_pos n11, pz_lt, r21, r20, e2, rw_sM, rw_sM, rw_rw, rw_get]
      · rw [e2, rw_ne (by omega), e1, rw_get]; exact pk_us
      · rw [e2, rw_get]; exact pk_us
      · rw [e2, rw_ne (by omega), e1, rw_ne (by omega), rw_get]; exact pk_us
      · rw [e2, rw_get, pk_un (by omega)]; exact pk_us
