-- PURE PART: op, condition
theorem nI_subn {a b : Nat} (h : b ≤ a) : nI a - nI b = nI (a - b) := by
  have e : nI a = nI (a - b) + nI b := by rw [nI_add, show a - b + b = a by omega]
  rw [e]; exact Int32.add_sub_cancel _ _
theorem upd_id {f : Nat → Int32} {k : Nat} : upd f k (f k) = f := by
  funext j
  by_cases hj : j = k
  · subst hj; exact pk_us
  · exact pk_un hj
def sid (k : Nat) : Nat := if k < 7 then 2 else if k = 7 then 1 else 0
theorem pz_sides {k : Nat} (σ : pw_St) (hk : k < 2 ^ 31) : f_X1_sidesOf (nI k) σ = some (nI (sid k), σ) := by
  unfold f_X1_sidesOf sid
  by_cases h : k < 7
  · rw [if_neg (show ¬ (7 : Int32) ≤ nI k from nI_ge (b := 7) h (by decide)), if_pos h]; rfl
  · rw [if_pos (show (7 : Int32) ≤ nI k from nI_le (a := 7) (by omega) hk), if_neg h]
    have he : nI k = 7 ↔ k = 7 := nI_eq (a := k) (b := 7) hk (by decide)
    by_cases h7 : k = 7
    · rw [if_pos (he.mpr h7), if_pos h7]; rfl
    · rw [if_neg (fun e => h7 (he.mp e)), if_neg h7]; rfl
/-- appending an op in the reference -/
theorem fm_op {σ : pw_St} {b o s nt : Nat} {F : List Pt_} (hb : b < 16) (hl : F.length < 15) (ho : o < 8) (hs : 1 ≤ s) (hsn : s ≤ nt) (hn : nt ≤ 6) (h : RepM σ b F) (e : σ.1 10 21 = nI nt) : ∃ σ2, b_X11_op_105 (nI o) (nI s) (nI b) σ = some (nI (nt - (s - 1)), σ2) ∧ RepM σ2 b (F ++ [(o, 0, 0)]) ∧ YFr b σ σ2 ∧ σ2.1 10 21 = nI (nt - (s - 1)) ∧ σ2.1 10 20 = σ.1 10 20 := by
  obtain ⟨σ1, e1⟩ : ∃ σ1, σ1 = pw_rw (pw_rw σ 46 (upd (σ.1 46) (15 * b + F.length) (nI o))) 49 (upd (σ.1 49) b (nI (F.length + 1))) := ⟨_, rfl⟩
  obtain ⟨σ2, e2⟩ : ∃ σ2, σ2 = pw_rw σ1 10 (upd (σ1.1 10) 21 (nI (nt - (s - 1)))) := ⟨_, rfl⟩
  have he : nI o = nI (enc o) := by unfold enc; rw [if_pos ho]
  have hS : σ1 = fmS σ b F.length (nI o) (σ.1 47 (15 * b + F.length)) (σ.1 48 (15 * b + F.length)) := by
    rw [e1]; unfold fmS
    have i47 : upd (σ.1 47) (15 * b + F.length) (σ.1 47 (15 * b + F.length)) = σ.1 47 := upd_id
    have i48 : upd (σ.1 48) (15 * b + F.length) (σ.1 48 (15 * b + F.length)) = σ.1 48 := upd_id
    rw [i47, i48]
    rw [show pw_rw (pw_rw σ 46 (upd (σ.1 46) (15 * b + F.length) (nI o))) 47 (σ.1 47) = pw_rw σ 46 (upd (σ.1 46) (15 * b + F.length) (nI o)) from rw_id (σ := pw_rw σ 46 (upd (σ.1 46) (15 * b + F.length) (nI o))) (k := 47), show pw_rw (pw_rw σ 46 (upd (σ.1 46) (15 * b + F.length) (nI o))) 48 (σ.1 48) = pw_rw σ 46 (upd (σ.1 46) (15 * b + F.length) (nI o)) from rw_id (σ := pw_rw σ 46 (upd (σ.1 46) (15 * b + F.length) (nI o))) (k := 48)]
  have hR1 : RepM σ1 b (F ++ [(o, 0, 0)]) := by rw [hS]; exact fmS_rep h he (fun h8 => absurd h8 (by show ¬ 8 ≤ o; omega))
  have hF1 : MFr b σ σ1 := by rw [hS]; exact fmS_fr hl
  have q1 : σ1.1 10 = σ.1 10 := hF1.1 10 (by omega)
  refine ⟨σ2, ?_, ?_, ⟨fun r a1 a2 => ?_, fun j a1 a2 => ?_, fun j hj => ?_, fun j hj => ?_, ?_⟩, ?_, ?_⟩
  · unfold b_X11_op_105
    have pa : pw_in (nI b) 16 = true := pz_in hb (by decide)
    have ca : (nI b).toNatClampNeg = b := nI_clamp (by omega)
    rw [if_pos pa, ca, h.1, ix15, if_pos (pz_in (by omega) (by decide)), pz_lt, nI_clamp (n := 15 * b + F.length) (by omega), if_pos pa, if_pos pa, pz_lt]
    rw [show (pw_sM σ 46 (15 * b + F.length) (nI o)).1 49 b = nI F.length from h.1, nI_1, pz_lt]
    rw [show pw_sM (pw_sM σ 46 (15 * b + F.length) (nI o)) 49 b (nI (F.length + 1)) = σ1 from e1.symm, q1, e]
    rw [show nI nt - (nI s - 1) = nI (nt - (s - 1)) by rw [pz_m1 (by omega), nI_subn (by omega)], rw_sM, ← e2]
    rw [show σ2.1 10 21 = nI (nt - (s - 1)) by rw [e2, rw_get]; exact pk_us]
  · exact RepM_same hR1 (by rw [e2, rw_ne (by omega)]) (by rw [e2, rw_ne (by omega)]) (by rw [e2, rw_ne (by omega)]) (by rw [e2, rw_ne (by omega)])
  · rw [e2, rw_ne a1, hF1.1 r a2]
  · rw [e2, rw_get, pk_un a2, q1]
  · rw [e2, rw_ne (by omega), hF1.2.1 j hj]
  · rw [e2, rw_ne (by omega), rw_ne (by omega), rw_ne (by omega)]; exact hF1.2.2.1 j hj
  · rw [e2]; exact hF1.2.2.2
  · rw [e2, rw_get]; exact pk_us
  · rw [e2, rw_get, pk_un (by omega), q1]
theorem YM {c : Nat} {σ σ1 σ2 : pw_St} (h1 : MFr c σ σ1) (h2 : YFr c σ1 σ2) : YFr c σ σ2 := by
  refine ⟨fun r a1 a2 => ?_, fun j a1 a2 => ?_, fun j hj => ?_, fun j hj => ?_, h2.2.2.2.2.trans h1.2.2.2⟩
  · rw [h2.1 r a1 a2, h1.1 r a2]
  · rw [h2.2.1 j a1 a2, h1.1 10 (by omega)]
  · rw [h2.2.2.1 j hj, h1.2.1 j hj]
  · obtain ⟨a1, a2, a3⟩ := h2.2.2.2.1 j hj
    obtain ⟨b1, b2, b3⟩ := h1.2.2.1 j hj
    exact ⟨a1.trans b1, a2.trans b2, a3.trans b3⟩
/-- an op with one side -/
theorem pz_op1 {σ : pw_St} {nc nt : Nat} {Fc Fp : Nat → List Pt_} (h : CInv σ nc nt Fc Fp) : Cop (f_X10_op (nI 7)) (f_X11_op (nI 7)) σ := by
  obtain ⟨b1, b2, b3, b4, b5, b6, b7, b8⟩ := id h
  have n77 : nI 7 = (7 : Int32) := rfl
  have hM : ∀ τ, f_X11_op (nI 7) τ = b_X11_op_23 (nI 7) 1 τ := by
    intro τ
    unfold f_X11_op
    rw [in_ok7 (by decide), pz_bi_some, if_neg (by decide), if_pos n77]
  by_cases h0 : nt = 0
  · subst h0
    refine Cop_same h (r := -3) ?_ ?_
    · unfold f_X10_op
      rw [if_neg (by decide), if_pos (by decide), pz_sides σ (by decide), pz_bi_some, b5, if_neg (by decide)]
    · rw [hM]; unfold b_X11_op_23; rw [b6, if_neg (by decide)]
  obtain ⟨t, rfl⟩ : ∃ t, nt = t + 1 := ⟨nt - 1, by omega⟩
  obtain ⟨q1, q2, q3⟩ := b8 t (by omega)
  obtain ⟨m, hm⟩ : ∃ m, m = (Fp t).length := ⟨_, rfl⟩
  have hm15 : m ≤ 15 := by rw [hm]; exact q3.2.2
  have hX : f_X10_op (nI 7) σ = if nI (1 + m) ≤ (15 : Int32) then (pw_bi (f_X7_unite (nI 7) σ) fun r3 σ3 => (some (r3, σ3))) else (some ((-4 : Int32), σ)) := by
    unfold f_X10_op
    rw [if_neg (by decide), if_pos (by decide), pz_sides σ (by decide), pz_bi_some, b5, if_pos (nI_le (by show 1 ≤ t + 1; omega) (by omega))]
    have hp : f_X7_partsBehind (nI 7) σ = some (nI (1 + m), σ) := by
      unfold f_X7_partsBehind
      rw [show pw_FU = 2998 + 1 + 1 from rfl]
      show b_X7_partsBehind_4 (l_X7_partsBehind_4 (2998 + 1)) (nI 7) (nI 1) (nI 1) σ = _
      unfold b_X7_partsBehind_4
      rw [pz_sides σ (by decide), pz_bi_some, if_neg (by decide), b5, show nI (t + 1) - nI 1 = nI t from pz_m1 (n := t + 1) (by omega), if_pos (pz_in (by omega) (by decide)), nI_clamp (by omega), show σ.1 (4 * (t + 0) + 54) 3 = nI m by rw [hm]; exact q1.1, nI_add, nI_1]
      show b_X7_partsBehind_4 (l_X7_partsBehind_4 2998) (nI 7) (nI (1 + m)) (nI 2) σ = _
      unfold b_X7_partsBehind_4
      rw [pz_sides σ (by decide), pz_bi_some, if_pos (by decide)]
    rw [hp, pz_bi_some]
  have hM1 : ∀ τ : pw_St, τ.1 10 21 = nI (t + 1) → τ.1 49 (8 + t) = nI m → f_X11_op (nI 7) τ = b_X11_op_83 (nI 7) (nI 1) (nI (8 + t)) (nI (8 + t)) (nI (1 + m)) τ := by
    intro τ c1 c2
    rw [hM]
    unfold b_X11_op_23
    have e8 : (8 : Int32) + nI (t + 1) - 1 = nI (8 + t) := by rw [show (8 : Int32) = nI 8 from rfl, nI_add, pz_m1 (by omega)]; rfl
    have e9 : nI (8 + t) - 1 + 1 = nI (8 + t) := by rw [pz_m1 (by omega), nI_1]; congr 1; omega
    rw [c1, if_pos (show (1 : Int32) ≤ nI (t + 1) from nI_le (a := 1) (by omega) (by omega)), e8, e9, show pw_FU = 2998 + 1 + 1 from rfl]
    show b_X11_op_59 (l_X11_op_59 (2998 + 1)) (nI 7) (nI 1) (nI (8 + t)) (nI (8 + t)) (nI 1) (nI (8 + t)) τ = _
    unfold b_X11_op_59
    rw [if_neg (Int32.lt_irrefl), if_pos (pz_in (by omega) (by decide)), nI_clamp (by omega), c2, nI_add, nI_1]
    show b_X11_op_59 (l_X11_op_59 2998) _ _ _ _ _ _ τ = _
    unfold b_X11_op_59
    rw [if_pos (nI_lt (by omega) (by omega))]
  by_cases h15 : m < 15
  · obtain ⟨σ1, k1, k2, k3⟩ := fx_append (7, 0, 0) (F := Fp t) (by omega) q1
    have c4 : σ1.1 4 1 = nI (t + 1) := by rw [k3.1 4 (by omega) (by omega) (by omega) (by omega)]; exact b5
    have c10 : σ1.1 10 = σ.1 10 := k3.1 10 (by omega) (by omega) (by omega) (by omega)
    have hX1 : XFr t σ σ1 := ⟨fun r _ _ a3 a4 a5 a6 => k3.1 r a3 a4 a5 a6, k3.2.2⟩
    have q2' := X_M hX1 q2
    obtain ⟨σ2, m1, m2, m3, m4, m5⟩ := fm_op (σ := σ1) (b := 8 + t) (o := 7) (s := 1) (nt := t + 1) (F := Fp t) (by omega) (by omega) (by decide) (by decide) (by omega) (by omega) q2' (by rw [c10]; exact b6)
    refine ⟨nI (t + 1), σ1, σ2, ?_, ?_, ⟨nc, t + 1, Fc, _, CI_pile h hX1 m3 k2 m2 ?_ b2 (by omega) (fun j a _ => a) ?_ ?_ ?_ ?_⟩, XY_C hX1 m3⟩
    · rw [hX, if_pos (show nI (1 + m) ≤ (15 : Int32) from nI_le (b := 15) (by omega) (by decide))]
      unfold f_X7_unite
      rw [pz_sides σ (by decide), pz_bi_some, if_neg (by decide)]
      unfold b_X7_unite_41
      rw [b5, pz_m1 (by omega), if_pos (pz_in (by omega) (by decide)), nI_clamp (by omega), show f_X1_append (t + 1 - 1 + 0) (nI 7) 0 0 σ = some σ1 from k1, pz_bv_some, c4]
      rfl
    · rw [hM1 σ1 (by rw [c10]; exact b6) (by rw [hm]; exact q2'.1)]
      unfold b_X11_op_83
      rw [if_pos (show nI (1 + m) ≤ (15 : Int32) from nI_le (b := 15) (by omega) (by decide)), if_neg (by decide)]
      exact m1
    · obtain ⟨w1, w2, w3⟩ := q3
      refine ⟨?_, fun y hy => ?_, by rw [List.length_append]; show (Fp t).length + 1 ≤ 15; omega⟩
      · rw [hts_app, w1]; rfl
      · rcases List.mem_append.mp hy with hy | hy
        · exact w2 y hy
        · have : y = (7, 0, 0) := by simpa using hy
          rw [this]; exact Or.inl (show 7 < 8 by decide)
    · rw [m3.1 5 (by omega) (by omega), k3.1 5 (by omega) (by omega) (by omega) (by omega)]; exact b3
    · rw [m5, c10]; exact b4
    · rw [m3.1 4 (by omega) (by omega)]; exact c4
    · exact m4
  · have hm5 : m = 15 := by omega
    refine Cop_same h (r := -4) ?_ ?_
    · rw [hX, hm5, if_neg (by decide)]
    · rw [hM1 σ b6 (by rw [hm]; exact q2.1), hm5]
      unfold b_X11_op_83
      rw [if_neg (by decide)]

/-- an op with two sides -/
theorem pz_op2 {σ : pw_St} {nc nt o : Nat} {Fc Fp : Nat → List Pt_} (h : CInv σ nc nt Fc Fp) (ho : o < 7) : Cop (f_X10_op (nI o)) (f_X11_op (nI o)) σ := by
  obtain ⟨b1, b2, b3, b4, b5, b6, b7, b8⟩ := id h
  have hsd : sid o = 2 := if_pos ho
  have hS : ∀ τ : pw_St, f_X1_sidesOf (nI o) τ = some (nI 2, τ) := fun τ => by rw [pz_sides τ (by omega), hsd]
  have hM : ∀ τ, f_X11_op (nI o) τ = b_X11_op_23 (nI o) 2 τ := by
    intro τ
    unfold f_X11_op
    rw [in_ok7 (by omega), pz_bi_some, if_neg (by decide), if_neg (fun e => by have := (nI_eq (a := o) (b := 7) (by omega) (by decide)).mp e; omega)]
  have h07 : nI o ≤ (7 : Int32) := nI_le (b := 7) (by omega) (by decide)
  by_cases h0 : nt < 2
  · refine Cop_same h (r := -3) ?_ ?_
    · unfold f_X10_op
      rw [if_neg (nI_pos (by omega)), if_pos h07, hS, pz_bi_some, b5, if_neg (nI_ge h0 (by decide))]
    · rw [hM]; unfold b_X11_op_23; rw [b6, if_neg (show ¬ (2 : Int32) ≤ nI nt from nI_ge (b := 2) h0 (by decide))]
  obtain ⟨t, rfl⟩ : ∃ t, nt = t + 2 := ⟨nt - 2, by omega⟩
  obtain ⟨q1, q2, q3⟩ := b8 t (by omega)
  obtain ⟨p1, p2, p3⟩ := b8 (t + 1) (by omega)
  obtain ⟨m, hm⟩ : ∃ m, m = (Fp t).length := ⟨_, rfl⟩
  obtain ⟨m', hm'⟩ : ∃ m', m' = (Fp (t + 1)).length := ⟨_, rfl⟩
  have hm15 : m ≤ 15 := by rw [hm]; exact q3.2.2
  have hm15' : m' ≤ 15 := by rw [hm']; exact p3.2.2
  have hX : f_X10_op (nI o) σ = if nI (1 + m' + m) ≤ (15 : Int32) then (pw_bi (f_X7_unite (nI o) σ) fun r3 σ3 => (some (r3, σ3))) else (some ((-4 : Int32), σ)) := by
    unfold f_X10_op
    rw [if_neg (nI_pos (by omega)), if_pos h07, hS, pz_bi_some, b5, if_pos (nI_le (by omega) (by omega))]
    have hp : f_X7_partsBehind (nI o) σ = some (nI (1 + m' + m), σ) := by
      unfold f_X7_partsBehind
      rw [show pw_FU = 2997 + 1 + 1 + 1 from rfl]
      show b_X7_partsBehind_4 (l_X7_partsBehind_4 (2997 + 1 + 1)) (nI o) (nI 1) (nI 1) σ = _
      unfold b_X7_partsBehind_4
      rw [hS, pz_bi_some, if_neg (by decide), b5, show nI (t + 2) - nI 1 = nI (t + 1) from pz_m1 (n := t + 2) (by omega), if_pos (pz_in (by omega) (by decide)), nI_clamp (by omega), show σ.1 (4 * (t + 1 + 0) + 54) 3 = nI m' by rw [hm']; exact p1.1, nI_add, nI_1]
      show b_X7_partsBehind_4 (l_X7_partsBehind_4 (2997 + 1)) (nI o) (nI (1 + m')) (nI 2) σ = _
      unfold b_X7_partsBehind_4
      rw [hS, pz_bi_some, if_neg (by decide), b5, nI_subn (by omega), show t + 2 - 2 = t by omega, if_pos (pz_in (by omega) (by decide)), nI_clamp (by omega), show σ.1 (4 * (t + 0) + 54) 3 = nI m by rw [hm]; exact q1.1, nI_add, nI_1]
      show b_X7_partsBehind_4 (l_X7_partsBehind_4 2997) (nI o) (nI (1 + m' + m)) (nI 3) σ = _
      unfold b_X7_partsBehind_4
      rw [hS, pz_bi_some, if_pos (by decide)]
    rw [hp, pz_bi_some]
  have hM1 : ∀ τ : pw_St, τ.1 10 21 = nI (t + 2) → τ.1 49 (8 + t) = nI m → τ.1 49 (9 + t) = nI m' → f_X11_op (nI o) τ = b_X11_op_83 (nI o) (nI 2) (nI (9 + t)) (nI (8 + t)) (nI (1 + m + m')) τ := by
    intro τ c1 c2 c3
    rw [hM]
    unfold b_X11_op_23
    have e8 : (8 : Int32) + nI (t + 2) - 1 = nI (9 + t) := by rw [show (8 : Int32) = nI 8 from rfl, nI_add, pz_m1 (by omega)]; congr 1; omega
    have e9 : nI (9 + t) - 2 + 1 = nI (8 + t) := by rw [show nI (9 + t) - 2 = nI (7 + t) by rw [show (2 : Int32) = nI 2 from rfl, nI_subn (by omega)]; congr 1; omega, nI_1]; congr 1; omega
    rw [c1, if_pos (show (2 : Int32) ≤ nI (t + 2) from nI_le (a := 2) (by omega) (by omega)), e8, e9, show pw_FU = 2997 + 1 + 1 + 1 from rfl]
    show b_X11_op_59 (l_X11_op_59 (2997 + 1 + 1)) (nI o) (nI 2) (nI (9 + t)) (nI (8 + t)) (nI 1) (nI (8 + t)) τ = _
    unfold b_X11_op_59
    rw [if_neg (nI_nlt (by omega) (by omega)), if_pos (pz_in (by omega) (by decide)), nI_clamp (by omega), c2, nI_add, nI_1, show 8 + t + 1 = 9 + t by omega]
    show b_X11_op_59 (l_X11_op_59 (2997 + 1)) _ _ _ _ _ _ τ = _
    unfold b_X11_op_59
    rw [if_neg (nI_nlt (by omega) (by omega)), if_pos (pz_in (by omega) (by decide)), nI_clamp (by omega), c3, nI_add, nI_1]
    show b_X11_op_59 (l_X11_op_59 2997) _ _ _ _ _ _ τ = _
    unfold b_X11_op_59
    rw [if_pos (nI_lt (by omega) (by omega))]
  have e9t : (8 : Nat) + (t + 1) = 9 + t := by omega
  rw [e9t] at p2
  by_cases h15 : m + m' < 15
  · obtain ⟨σ0, e0⟩ : ∃ σ0, σ0 = pw_rw σ 4 (upd (σ.1 4) 1 (nI (t + 1))) := ⟨_, rfl⟩
    have q1' : RepX σ0 t (Fp t) := RepX_same q1 (by rw [e0, rw_ne (by omega)]) (by rw [e0, rw_ne (by omega)]) (by rw [e0, rw_ne (by omega)]) (by rw [e0, rw_ne (by omega)])
    have p1' : RepX σ0 (t + 1) (Fp (t + 1)) := RepX_same p1 (by rw [e0, rw_ne (by omega)]) (by rw [e0, rw_ne (by omega)]) (by rw [e0, rw_ne (by omega)]) (by rw [e0, rw_ne (by omega)])
    obtain ⟨σa, a1, a2, a3⟩ := fx_appendAll (n0 := t) (n1 := t + 1) (by omega) (by omega) q1' p1'
    obtain ⟨σ1, k1, k2, k3⟩ := fx_append (o, 0, 0) (F := Fp t ++ Fp (t + 1)) (by rw [List.length_append]; omega) a2
    have d4 : σ0.1 4 1 = nI (t + 1) := by rw [e0, rw_get]; exact pk_us
    have da : σa.1 4 1 = nI (t + 1) := by rw [a3.1 4 (by omega) (by omega) (by omega) (by omega)]; exact d4
    have c4 : σ1.1 4 1 = nI (t + 1) := by rw [k3.1 4 (by omega) (by omega) (by omega) (by omega)]; exact da
    have hX1 : XFr t σ σ1 := ⟨fun r c1 c2 c3 c4 c5 c6 => by rw [k3.1 r c3 c4 c5 c6, a3.1 r c3 c4 c5 c6, e0, rw_ne c1], by rw [k3.2.2, a3.2.2, e0]; rfl⟩
    have c10 : σ1.1 10 = σ.1 10 := hX1.1 10 (by omega) (by omega) (by omega) (by omega) (by omega) (by omega)
    have q2' := X_M hX1 q2
    have p2' := X_M hX1 p2
    obtain ⟨σb, g1, g2, g3⟩ := fm_copy (a := 9 + t) (b := 8 + t) (by omega) (by omega) (by omega) (by omega) q2' p2'
    have cb : σb.1 10 = σ.1 10 := by rw [g3.1 10 (by omega)]; exact c10
    obtain ⟨σ2, m1, m2, m3, m4, m5⟩ := fm_op (σ := σb) (b := 8 + t) (o := o) (s := 2) (nt := t + 2) (F := Fp t ++ Fp (t + 1)) (by omega) (by rw [List.length_append]; omega) (by omega) (by decide) (by omega) (by omega) g2 (by rw [cb]; exact b6)
    have m3' := YM g3 m3
    refine ⟨nI (t + 1), σ1, σ2, ?_, ?_, ⟨nc, t + 1, Fc, _, CI_pile h hX1 m3' k2 m2 ?_ (by omega) (by omega) (fun j a _ => by omega) ?_ ?_ ?_ ?_⟩, XY_C hX1 m3'⟩
    · rw [hX, if_pos (show nI (1 + m' + m) ≤ (15 : Int32) from nI_le (b := 15) (by omega) (by decide))]
      unfold f_X7_unite
      rw [hS, pz_bi_some, if_pos (show nI 2 = (2 : Int32) from rfl), pz_lt, b5, pz_m1 (by omega), show t + 2 - 1 = t + 1 by omega, rw_sM, ← e0, d4, pz_m1 (by omega), if_pos (pz_in (by omega) (by decide)), if_pos (pz_in (by omega) (by decide)), nI_clamp (by omega), nI_clamp (by omega), show f_X1_appendAll (t + 1 - 1 + 0) (t + 1 + 0) σ0 = some σa from a1, pz_bv_some]
      unfold b_X7_unite_41
      rw [da, pz_m1 (by omega), if_pos (pz_in (by omega) (by decide)), nI_clamp (by omega), show f_X1_append (t + 1 - 1 + 0) (nI o) 0 0 σa = some σ1 from k1, pz_bv_some, c4]
      rfl
    · rw [hM1 σ1 (by rw [c10]; exact b6) (by rw [hm]; exact q2'.1) (by rw [hm']; exact p2'.1)]
      unfold b_X11_op_83
      rw [if_pos (show nI (1 + m + m') ≤ (15 : Int32) from nI_le (b := 15) (by omega) (by decide)), if_pos (show nI 2 = (2 : Int32) from rfl), g1, pz_bv_some]
      exact m1
    · obtain ⟨w1, w2, w3⟩ := q3
      obtain ⟨v1, v2, v3⟩ := p3
      refine ⟨?_, fun y hy => ?_, by rw [List.length_append, List.length_append]; show (Fp t).length + (Fp (t + 1)).length + 1 ≤ 15; omega⟩
      · have v1' := hts_up (d := 1) v1
        rw [show 6 - (t + 1) + 1 = 6 - t by omega] at v1'
        rw [hts_app, hts_app, w1]
        show (hts (6 - t) (Fp (t + 1)) (0 + 1)).bind _ = _
        rw [v1']
        show (if o < 7 then _ else _) = _
        rw [if_pos ho]
        rfl
      · rcases List.mem_append.mp hy with hy | hy
        · rcases List.mem_append.mp hy with hy | hy
          · exact w2 y hy
          · exact v2 y hy
        · have : y = (o, 0, 0) := by simpa using hy
          rw [this]; exact Or.inl (show o < 8 by omega)
    · rw [m3'.1 5 (by omega) (by omega), k3.1 5 (by omega) (by omega) (by omega) (by omega), a3.1 5 (by omega) (by omega) (by omega) (by omega), e0, rw_ne (by omega)]; exact b3
    · rw [m5, cb]; exact b4
    · rw [m3'.1 4 (by omega) (by omega)]; exact c4
    · exact m4
  · have hle : ¬ nI (1 + m' + m) ≤ (15 : Int32) := nI_ge (a := 15) (by omega) (by omega)
    have hle' : ¬ nI (1 + m + m') ≤ (15 : Int32) := nI_ge (a := 15) (by omega) (by omega)
    refine Cop_same h (r := -4) ?_ ?_
    · rw [hX, if_neg hle]
    · rw [hM1 σ b6 (by rw [hm]; exact q2.1) (by rw [hm']; exact p2.1)]
      unfold b_X11_op_83
      rw [if_neg hle']
theorem pz_op {σ : pw_St} {nc nt : Nat} {Fc Fp : Nat → List Pt_} (h : CInv σ nc nt Fc Fp) (x : Int32) : Cop (f_X10_op x) (f_X11_op x) σ := by
  rcases ix3 x (show 8 < 2 ^ 31 by decide) with h1 | ⟨h1, h2⟩ | ⟨o, ho, rfl⟩
  · exact Cop_same h (r := -1) (by unfold f_X10_op; rw [if_pos h1]) (by unfold f_X11_op; rw [in_neg h1, pz_bi_some, if_pos rfl])
  · refine Cop_same h (r := -1) ?_ (by unfold f_X11_op; rw [in_ge7 h1 h2, pz_bi_some, if_pos rfl])
    unfold f_X10_op
    rw [if_neg h1, if_neg (fun hle => absurd (Int32.le_trans h2 hle) (by decide))]
  · by_cases h7 : o = 7
    · subst h7; exact pz_op1 h
    · exact pz_op2 h (by omega)
theorem pz_condition {σ : pw_St} {nc nt : Nat} {Fc Fp : Nat → List Pt_} (h : CInv σ nc nt Fc Fp) : Cop f_X10_condition f_X11_condition σ := by
  obtain ⟨b1, b2, b3, b4, b5, b6, b7, b8⟩ := id h
  have h11 : nI nt = 1 ↔ nt = 1 := nI_eq (a := nt) (b := 1) (by omega) (by decide)
  by_cases ht : nt = 1
  · subst ht
    by_cases h8 : nc = 8
    · subst h8
      refine Cop_same h (r := -4) ?_ ?_
      · unfold f_X10_condition; rw [b5, if_pos n11, b3, if_neg (by decide)]
      · unfold f_X11_condition; rw [b6, if_pos n11, b4, if_pos (show nI 8 = (8 : Int32) from rfl)]
    have hc8 : nc < 8 := by omega
    obtain ⟨q1, q2, q3⟩ := b8 0 (by omega)
    have hl15 := q3.2.2
    obtain ⟨σa, ea⟩ : ∃ σa, σa = pw_rw σ 4 (upd (σ.1 4) 1 0) := ⟨_, rfl⟩
    obtain ⟨σb, eb⟩ : ∃ σb, σb = pw_rw σa (4 * (nc + 6) + 54) (upd (σa.1 (4 * (nc + 6) + 54)) 3 0) := ⟨_, rfl⟩
    have r0 : RepX σb (nc + 6) [] := ⟨by rw [eb, rw_get]; exact pk_us, fun k x hx => by simp at hx⟩
    have r1 : RepX σb 0 (Fp 0) := RepX_same q1 (by rw [eb, rw_ne (by omega), ea, rw_ne (by omega)]) (by rw [eb, rw_ne (by omega), ea, rw_ne (by omega)]) (by rw [eb, rw_ne (by omega), ea, rw_ne (by omega)]) (by rw [eb, rw_ne (by omega), ea, rw_ne (by omega)])
    obtain ⟨σc, k1, k2, k3⟩ := fx_appendAll (n0 := nc + 6) (n1 := 0) (by omega) (by simp; exact hl15) r0 r1
    rw [List.nil_append] at k2
    have c5 : σc.1 5 1 = nI nc := by rw [k3.1 5 (by omega) (by omega) (by omega) (by omega), eb, rw_ne (by omega), ea, rw_ne (by omega)]; exact b3
    obtain ⟨σ1, e1⟩ : ∃ σ1, σ1 = pw_rw σc 5 (upd (σc.1 5) 1 (nI (nc + 1))) := ⟨_, rfl⟩
    have hX : XFr (nc + 6) σ σ1 := ⟨fun r a1 a2 a3 a4 a5 a6 => by rw [e1, rw_ne a2, k3.1 r a3 a4 a5 a6, eb, rw_ne a3, ea, rw_ne a1], by rw [e1]; show σc.2 = _; rw [k3.2.2, eb, ea]; rfl⟩
    have d10 : σ1.1 10 = σ.1 10 := hX.1 10 (by omega) (by omega) (by omega) (by omega) (by omega) (by omega)
    have q2' := X_M hX q2
    obtain ⟨σd, ed⟩ : ∃ σd, σd = pw_rw σ1 49 (upd (σ1.1 49) nc 0) := ⟨_, rfl⟩
    have s0 : RepM σd nc [] := ⟨by rw [ed, rw_get]; exact pk_us, fun k x hx => by simp at hx⟩
    have s1 : RepM σd 8 (Fp 0) := by
      obtain ⟨g1, g2⟩ := q2'
      refine ⟨by rw [ed, rw_get, pk_un (by omega)]; exact g1, fun k x hx => ?_⟩
      rw [ed, rw_ne (by omega), rw_ne (by omega), rw_ne (by omega)]
      exact g2 k x hx
    obtain ⟨σe, m1, m2, m3⟩ := fm_copy (a := 8) (b := nc) (by omega) (by omega) (by omega) (by simp; exact hl15) s0 s1
    rw [List.nil_append] at m2
    have de : σe.1 10 = σ.1 10 := by rw [m3.1 10 (by omega), ed, rw_ne (by omega)]; exact d10
    obtain ⟨σ2, e2⟩ : ∃ σ2, σ2 = pw_rw σe 10 (upd (upd (σe.1 10) 21 0) 20 (nI (nc + 1))) := ⟨_, rfl⟩
    have hY : YFr nc σ1 σ2 := by
      refine ⟨fun r a1 a2 => ?_, fun j a1 a2 => ?_, fun j hj => ?_, fun j hj => ?_, ?_⟩
      · rw [e2, rw_ne a1, m3.1 r a2, ed, rw_ne (by omega)]
      · rw [e2, rw_get, pk_un a1, pk_un a2, m3.1 10 (by omega), ed, rw_ne (by omega)]
      · rw [e2, rw_ne (by omega), m3.2.1 j hj, ed, rw_get, pk_un hj]
      · obtain ⟨u1, u2, u3⟩ := m3.2.2.1 j hj
        rw [e2, rw_ne (by omega), rw_ne (by omega), rw_ne (by omega), u1, u2, u3, ed, rw_ne (by omega), rw_ne (by omega), rw_ne (by omega)]
        exact ⟨rfl, rfl, rfl⟩
      · rw [e2]; show σe.2 = _; rw [m3.2.2.2, ed]; rfl
    refine ⟨nI nc, σ1, σ2, ?_, ?_, ⟨nc + 1, 0, fun c => if c = nc then Fp 0 else Fc c, Fp, by omega, by omega, ?_, ?_, ?_, ?_, fun c hc => ?_, fun i hi => by omega⟩, XY_C hX hY⟩
    · unfold f_X10_condition f_X0_keep
      have ca : σa.1 5 1 = nI nc := by rw [ea, rw_ne (by omega)]; exact b3
      have cb : σb.1 5 1 = nI nc := by rw [eb, rw_ne (by omega)]; exact ca
      rw [b5, if_pos n11, b3, if_pos (show nI nc < 8 from nI_lt (b := 8) hc8 (by decide)), pz_lt, if_pos (by decide), rw_sM, ← ea, ca, if_pos (pz_in hc8 (by decide)), pz_lt, nI_clamp (by omega), rw_sM, ← eb, cb, if_pos (pz_in hc8 (by decide)), nI_clamp (by omega), show f_X1_appendAll (nc + 6) ((0 : Int32).toNatClampNeg + 0) σb = some σc from k1, pz_bv_some, pz_lt, c5, nI_1, rw_sM, ← e1, show σ1.1 5 1 = nI (nc + 1) by rw [e1, rw_get]; exact pk_us, pz_m1 (by omega)]
      rfl
    · unfold f_X11_condition
      have c20 : σd.1 10 20 = nI nc := by rw [ed, rw_ne (by omega), d10]; exact b4
      rw [d10, b6, if_pos n11, b4, if_neg (show ¬ nI nc = 8 from fun e => h8 ((nI_eq (a := nc) (b := 8) (by omega) (by decide)).mp e)), if_pos (pz_in (by omega) (by decide)), pz_lt, nI_clamp (by omega), rw_sM, ← ed, c20, show f_X11_copy 8 (nI nc) σd = some σe from m1, pz_bv_some, pz_lt, pz_lt]
      have ce : (pw_sM σe 10 21 0).1 10 20 = nI nc := by rw [rw_sM, rw_get, pk_un (by omega), de]; exact b4
      rw [ce, nI_1, show pw_sM (pw_sM σe 10 21 0) 10 20 (nI (nc + 1)) = σ2 by rw [e2, rw_sM, rw_sM, rw_rw, rw_get]]
      rw [show σ2.1 10 20 = nI (nc + 1) by rw [e2, rw_get]; exact pk_us, pz_m1 (by omega)]
      rfl
    · rw [hY.1 5 (by omega) (by omega), e1, rw_get]; exact pk_us
    · rw [e2, rw_get]; exact pk_us
    · rw [hY.1 4 (by omega) (by omega), e1, rw_ne (by omega), k3.1 4 (by omega) (by omega) (by omega) (by omega), eb, rw_ne (by omega), ea, rw_get]; exact pk_us
    · rw [e2, rw_get, pk_un (by omega)]; exact pk_us
    · by_cases hcn : c = nc
      · subst hcn
        rw [show (fun c_1 => if c_1 = c then Fp 0 else Fc c_1) c = Fp 0 from if_pos rfl]
        refine ⟨Y_X hY (RepX_same k2 (by rw [e1, rw_ne (by omega)]) (by rw [e1, rw_ne (by omega)]) (by rw [e1, rw_ne (by omega)]) (by rw [e1, rw_ne (by omega)])), RepM_same m2 (by rw [e2, rw_ne (by omega)]) (by rw [e2, rw_ne (by omega)]) (by rw [e2, rw_ne (by omega)]) (by rw [e2, rw_ne (by omega)]), q3⟩
      · rw [show (fun c => if c = nc then Fp 0 else Fc c) c = Fc c from if_neg hcn]
        obtain ⟨u1, u2, u3⟩ := b7 c (by omega)
        exact ⟨XY_X hX hY (by omega) u1, XY_M hX hY (by omega) u3.2.2 u2, u3⟩
  · refine Cop_same h (r := -3) ?_ ?_
    · unfold f_X10_condition; rw [b5, if_neg (fun e => ht (h11.mp e))]
    · unfold f_X11_condition; rw [b6, if_neg (fun e => ht (h11.mp e))]
