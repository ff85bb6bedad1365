-- PURE PART: the invariant of class and reference together
def Inv (σ : pw_St) (n : Nat) : Prop := ∃ (np nl tot : Nat) (ev g : Nat → Nat) (nc nt : Nat) (Fc Fp : Nat → List Pt_) (ns : Nat) (s : Nat → Nat), HInv σ np nl tot ev g ∧ NInv σ ev n ∧ CInv σ nc nt Fc Fp ∧ WInv σ ns s ∧ σ.1 0 8 = σ.1 10 22
theorem NInv_up {σ : pw_St} {ev : Nat → Nat} {n : Nat} (h : NInv σ ev n) : NInv σ ev (n + 1) := by
  obtain ⟨ch, h1, h2⟩ := h
  exact ⟨ch, by omega, h2⟩
theorem Inv_up {σ : pw_St} {n : Nat} (h : Inv σ n) : Inv σ (n + 1) := by
  obtain ⟨np, nl, tot, ev, g, nc, nt, Fc, Fp, ns, s, hH, hN, hC, hW, h0⟩ := h
  exact ⟨np, nl, tot, ev, g, nc, nt, Fc, Fp, ns, s, hH, NInv_up hN, hC, hW, h0⟩
def PStep (fx fm : pw_St → Option (Int32 × pw_St)) (σ : pw_St) (n : Nat) : Prop := ∃ r σ1 σ2, fx σ = some (r, σ1) ∧ fm σ1 = some (r, σ2) ∧ Inv σ2 (n + 1)
def PStepL (fx fm : pw_St → Option (Int64 × pw_St)) (σ : pw_St) (n : Nat) : Prop := ∃ r σ1 σ2, fx σ = some (r, σ1) ∧ fm σ1 = some (r, σ2) ∧ Inv σ2 (n + 1)
theorem st_same {fx fm : pw_St → Option (Int32 × pw_St)} {σ : pw_St} {n : Nat} (hI : Inv σ n) (h : Same fx fm σ) : PStep fx fm σ n := by
  obtain ⟨r, h1, h2⟩ := h
  exact ⟨r, σ, σ, h1, h2, Inv_up hI⟩
theorem st_hop {fx fm : pw_St → Option (Int32 × pw_St)} {σ : pw_St} {n : Nat} (hI : Inv σ n) (hn : n < 2 ^ 30) (h : Hop fx fm σ) : PStep fx fm σ n := by
  rcases h with h | ⟨r, σ1, σ2, np, nl, tot, ev, g, h1, h2, h3, ⟨f1, f2⟩, h5⟩
  · exact st_same hI h
  · obtain ⟨np', nl', tot', ev', g', nc, nt, Fc, Fp, ns, s, hH, ⟨ch, c1, c2, c3⟩, hC, hW, h0⟩ := hI
    refine ⟨r, σ1, σ2, h1, h2, np, nl, tot, ev, g, nc, nt, Fc, Fp, ns, s, h3, ⟨ch + 1, by omega, ?_, Or.inl ?_⟩, ?_, ?_, ?_⟩
    · rw [h5, c2, nI_1]
    · rw [f1 3 (by omega) (by omega) (by omega) (by omega) (by omega)]
      rcases c3 with (c3 | ⟨c, c3, c4⟩) | ⟨c3, c4⟩
      · exact Or.inl c3
      · exact Or.inr ⟨c, by omega, c4⟩
      · exact Or.inr ⟨ch, by omega, c3⟩
    · exact CInv_rows hC (fun k hk => f1 k (by omega) (by omega) (by omega) (by omega) (by omega)) (f2 20 (by omega) (by omega) (by omega)) (f2 21 (by omega) (by omega) (by omega))
    · exact WInv_rows hW (f1 9 (by omega) (by omega) (by omega) (by omega) (by omega)) (f2 27 (by omega) (by omega) (by omega)) (f1 33 (by omega) (by omega) (by omega) (by omega) (by omega)) (f1 53 (by omega) (by omega) (by omega) (by omega) (by omega))
    · rw [f1 0 (by omega) (by omega) (by omega) (by omega) (by omega), f2 22 (by omega) (by omega) (by omega)]; exact h0
theorem Inv_keep {σ σ2 : pw_St} {n np nl tot nc nt ns : Nat} {ev g s : Nat → Nat} {Fc Fp : Nat → List Pt_} (hH : HInv σ np nl tot ev g) (hC : CInv σ nc nt Fc Fp) (hW : WInv σ ns s) (h0 : σ.1 0 8 = σ.1 10 22) (hN : NInv σ2 ev n) (hK : Keep σ σ2) : Inv σ2 (n + 1) :=
  ⟨np, nl, tot, ev, g, nc, nt, Fc, Fp, ns, s, HInv_keep hH hK, NInv_up hN, CInv_keep hC hK, WInv_keep hW hK, by rw [hK 0 (by omega), hK 10 (by omega)]; exact h0⟩
theorem st_process {σ : pw_St} {n : Nat} (hI : Inv σ n) : PStep f_X10_process f_X11_process σ n := by
  obtain ⟨np, nl, tot, ev, g, nc, nt, Fc, Fp, ns, s, hH, hN, hC, hW, h0⟩ := id hI
  rcases pz_process hH with h | ⟨r, σ1, σ2, h1, h2, h3, ⟨f1, f2⟩, h5, h6, h7⟩
  · exact st_same hI h
  · refine ⟨r, σ1, σ2, h1, h2, np + 1, nl, tot, ev, g, nc, nt, Fc, Fp, ns, s, h3, NInv_up (NInv_rows hN (fun k hk => ?_) h5), ?_, ?_, ?_⟩
    · by_cases e : k = 16
      · rw [e, h7]
      · exact f1 k (by omega) (by omega) (by omega) (by omega) (by omega)
    · exact CInv_rows hC (fun k hk => f1 k (by omega) (by omega) (by omega) (by omega) (by omega)) (f2 20 (by omega) (by omega) (by omega)) (f2 21 (by omega) (by omega) (by omega))
    · exact WInv_rows hW (f1 9 (by omega) (by omega) (by omega) (by omega) (by omega)) (f2 27 (by omega) (by omega) (by omega)) (f1 33 (by omega) (by omega) (by omega) (by omega) (by omega)) (f1 53 (by omega) (by omega) (by omega) (by omega) (by omega))
    · rw [f1 0 (by omega) (by omega) (by omega) (by omega) (by omega), f2 22 (by omega) (by omega) (by omega)]; exact h0
theorem st_cop {fx fm : pw_St → Option (Int32 × pw_St)} {σ : pw_St} {n : Nat} (hI : Inv σ n) (h : Cop fx fm σ) : PStep fx fm σ n := by
  obtain ⟨np, nl, tot, ev, g, nc, nt, Fc, Fp, ns, s, hH, hN, hC, hW, h0⟩ := id hI
  obtain ⟨r, σ1, σ2, h1, h2, ⟨nc2, nt2, Fc2, Fp2, h3⟩, f1, f2, f3⟩ := h
  refine ⟨r, σ1, σ2, h1, h2, np, nl, tot, ev, g, nc2, nt2, Fc2, Fp2, ns, s, HInv_rows hH (fun k hk => f1 k (by omega) (by omega) (by omega) (by omega) (by omega)) ?_ ?_ ?_ ?_ ?_, NInv_up (NInv_rows hN (fun k hk => f1 k (by omega) (by omega) (by omega) (by omega) (by omega)) ?_), h3, ?_, ?_⟩
  · rw [f1 1 (by omega) (by omega) (by omega) (by omega) (by omega)]
  · rw [f1 1 (by omega) (by omega) (by omega) (by omega) (by omega)]
  · exact f2 1 (by omega) (by omega)
  · exact f2 8 (by omega) (by omega)
  · exact f2 9 (by omega) (by omega)
  · rw [f1 1 (by omega) (by omega) (by omega) (by omega) (by omega)]
  · exact WInv_rows hW (f1 9 (by omega) (by omega) (by omega) (by omega) (by omega)) (f2 27 (by omega) (by omega)) (f1 33 (by omega) (by omega) (by omega) (by omega) (by omega)) (f1 53 (by omega) (by omega) (by omega) (by omega) (by omega))
  · rw [f1 0 (by omega) (by omega) (by omega) (by omega) (by omega), f2 22 (by omega) (by omega)]; exact h0
theorem st_vop {fx fm : pw_St → Option (Int32 × pw_St)} {σ : pw_St} {n : Nat} (hI : Inv σ n) (h : Vop fx fm σ) : PStep fx fm σ n := by
  obtain ⟨np, nl, tot, ev, g, nc, nt, Fc, Fp, ns, s, hH, hN, hC, hW, h0⟩ := id hI
  obtain ⟨r, σ1, σ2, h1, h2, f1, f2, f3⟩ := h
  have e1 : σ2.1 1 = σ.1 1 := f1 1 (by omega) (by omega) (by omega) (by omega) (by omega)
  refine ⟨r, σ1, σ2, h1, h2, np, nl, tot, ev, g, nc, nt, Fc, Fp, ns, s, HInv_rows hH (fun k hk => f1 k (by omega) (by omega) (by omega) (by omega) (by omega)) (by rw [e1]) (by rw [e1]) (f2 1 (by omega)) (f2 8 (by omega)) (f2 9 (by omega)), NInv_up (NInv_rows hN (fun k hk => f1 k (by omega) (by omega) (by omega) (by omega) (by omega)) (by rw [e1])), CInv_rows hC (fun k hk => f1 k (by omega) (by omega) (by omega) (by omega) (by omega)) (f2 20 (by omega)) (f2 21 (by omega)), WInv_rows hW (f1 9 (by omega) (by omega) (by omega) (by omega) (by omega)) (f2 27 (by omega)) (f1 33 (by omega) (by omega) (by omega) (by omega) (by omega)) (f1 53 (by omega) (by omega) (by omega) (by omega) (by omega)), f3⟩
theorem st_sop {fx fm : pw_St → Option (Int32 × pw_St)} {σ : pw_St} {n : Nat} (hI : Inv σ n) (h : Sop fx fm σ) : PStep fx fm σ n := by
  obtain ⟨np, nl, tot, ev, g, nc, nt, Fc, Fp, ns, s, hH, hN, hC, hW, h0⟩ := id hI
  obtain ⟨r, σ1, σ2, h1, h2, f1, f2, ns2, s2, f3⟩ := h
  have e1 : σ2.1 1 = σ.1 1 := f1 1 (by omega) (by omega) (by omega) (by omega)
  refine ⟨r, σ1, σ2, h1, h2, np, nl, tot, ev, g, nc, nt, Fc, Fp, ns2, s2, HInv_rows hH (fun k hk => f1 k (by omega) (by omega) (by omega) (by omega)) (by rw [e1]) (by rw [e1]) (f2 1 (by omega)) (f2 8 (by omega)) (f2 9 (by omega)), NInv_up (NInv_rows hN (fun k hk => f1 k (by omega) (by omega) (by omega) (by omega)) (by rw [e1])), CInv_rows hC (fun k hk => f1 k (by omega) (by omega) (by omega) (by omega)) (f2 20 (by omega)) (f2 21 (by omega)), f3, ?_⟩
  rw [f1 0 (by omega) (by omega) (by omega) (by omega), f2 22 (by omega)]; exact h0
theorem st_kop {fx fm : pw_St → Option (Int32 × pw_St)} {σ : pw_St} {n np nl tot nc nt : Nat} {ev g : Nat → Nat} {Fc Fp : Nat → List Pt_} (hH : HInv σ np nl tot ev g) (hC : CInv σ nc nt Fc Fp) (h0 : σ.1 0 8 = σ.1 10 22) (h : Kop fx fm σ ev n) : PStep fx fm σ n := by
  obtain ⟨r, σ0, σ1, σ2, h1, h2, hN, hF, f1, f2, ns2, s2, f3⟩ := h
  have hK := Keep_N hF
  have hH := HInv_keep hH hK
  have hC := CInv_keep hC hK
  have h0 : σ0.1 0 8 = σ0.1 10 22 := by rw [hK 0 (by omega), hK 10 (by omega)]; exact h0
  have e1 : σ2.1 1 = σ0.1 1 := f1 1 (by omega) (by omega)
  refine ⟨r, σ1, σ2, h1, h2, np, nl, tot, ev, g, nc, nt, Fc, Fp, ns2, s2, HInv_rows hH (fun k hk => f1 k (by omega) (by omega)) (by rw [e1]) (by rw [e1]) (f2 1 (by omega)) (f2 8 (by omega)) (f2 9 (by omega)), NInv_up (NInv_rows hN (fun k hk => f1 k (by omega) (by omega)) (by rw [e1])), CInv_rows hC (fun k hk => f1 k (by omega) (by omega)) (f2 20 (by omega)) (f2 21 (by omega)), f3, ?_⟩
  rw [f1 0 (by omega) (by omega), f2 22 (by omega)]; exact h0
theorem run_i {fx fm : pw_St → Option (Int32 × pw_St)} {σ : pw_St} {n : Nat} {k : pw_St → Option Unit} (h : PStep fx fm σ n) (hk : ∀ σ2, Inv σ2 (n + 1) → k σ2 = some ()) : (pw_bi (fx σ) fun r σ1 => (pw_bi (fm σ1) fun r2 σ2 => (if r = r2 then k σ2 else none))) = some () := by
  obtain ⟨r, σ1, σ2, h1, h2, h3⟩ := h
  rw [h1, pz_bi_some, h2, pz_bi_some, if_pos rfl]
  exact hk σ2 h3
theorem run_l {fx fm : pw_St → Option (Int64 × pw_St)} {σ : pw_St} {n : Nat} {k : pw_St → Option Unit} (h : PStepL fx fm σ n) (hk : ∀ σ2, Inv σ2 (n + 1) → k σ2 = some ()) : (pw_bl (fx σ) fun r σ1 => (pw_bl (fm σ1) fun r2 σ2 => (if lg_cmp r r2 = 0 then k σ2 else none))) = some () := by
  obtain ⟨r, σ1, σ2, h1, h2, h3⟩ := h
  rw [h1, pz_bl_some, h2, pz_bl_some, if_pos ((lg_cmp_eq _ _).mpr rfl)]
  exact hk σ2 h3
theorem ite_s {c : Prop} [Decidable c] {A B : Option Unit} (hA : A = some ()) (hB : B = some ()) : (if c then A else B) = some () := by
  by_cases h : c
  · rw [if_pos h]; exact hA
  · rw [if_neg h]; exact hB
theorem Inv_0 : Inv pw_s0 0 := by
  refine ⟨0, 0, 0, fun _ => 0, fun _ => 0, 0, 0, fun _ => [], fun _ => [], 0, fun _ => 0, ⟨⟨by omega, rfl, fun _ _ => Nat.zero_le 6, fun _ _ _ => rfl, rfl, rfl, rfl, rfl, rfl, rfl, fun _ _ => rfl⟩, ⟨rfl, rfl, rfl, rfl, rfl, rfl, rfl, rfl, rfl⟩, ⟨fun t ht => by omega, fun _ _ => rfl, fun t ht => by omega, fun t ht => by omega, rfl, fun t ht => by omega, fun l hl => by omega⟩, fun p hp i hi n hn => ?_, fun p hp i hi => absurd hi (Nat.not_lt_zero (i + 1))⟩, ⟨0, by omega, rfl, Or.inl (Or.inl rfl)⟩, ⟨by omega, by omega, rfl, rfl, rfl, rfl, fun c hc => by omega, fun i hi => by omega⟩, ⟨by omega, rfl, rfl, fun k hk => by omega⟩, rfl⟩
  have : i = 0 := Nat.le_zero.mp hi
  subst this
  rfl
