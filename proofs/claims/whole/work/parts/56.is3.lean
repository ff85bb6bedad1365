-- PURE PART: is, both sides
theorem hgo_t {σ : pw_St} {np nl tot : Nat} {ev g : Nat → Nat} (hH : HInv σ np nl tot ev g) {M : Nat → Bool} (hMP : ∀ c, M c = true → pb ev (σ.1 16) c = true) : ∀ c d, c < 2401 → pb ev (σ.1 16) c = true → M c = false → d < 2401 → M d = true → leb true c d → ∃ p, p < 4 ∧ okp true ev (pb ev (σ.1 16)) c p ∧ leb true (nx true c p) d := by
  intro c d hc hP hM hd hMd hl
  have h6 := hH.1.2.2.1
  have hl : lec c d := hl
  have hPd := pb_t.mp (hMP d hMd)
  obtain ⟨p, p1, p2, p3⟩ := go_up hH.2.2.1 hH.1.1 h6 hH.2.2.2.2 (pb_t.mp hP) hPd hl (fun e => by rw [e, hMd] at hM; cases hM)
  have h6p := h6 p p1
  have hdp := hPd.1.2 p p1
  refine ⟨p, p1, ⟨show dg c p < ev p by omega, pb_t.mpr p3⟩, fun q hq => ?_⟩
  show dg (c + un p) q ≤ dg d q
  by_cases e : q = p
  · subst e; rw [dg_up p1 (by omega)]; omega
  · rw [dg_ot p1 hq e (by omega)]; exact hl q hq
theorem hgo_f {σ : pw_St} {np nl tot : Nat} {ev g : Nat → Nat} (hH : HInv σ np nl tot ev g) {M : Nat → Bool} (hMP : ∀ c, M c = true → pb ev (σ.1 16) c = true) : ∀ c d, c < 2401 → pb ev (σ.1 16) c = true → M c = false → d < 2401 → M d = true → leb false c d → ∃ p, p < 4 ∧ okp false ev (pb ev (σ.1 16)) c p ∧ leb false (nx false c p) d := by
  intro c d hc hP hM hd hMd hl
  have h6 := hH.1.2.2.1
  have hl : lec d c := hl
  have hPd := pb_t.mp (hMP d hMd)
  obtain ⟨p, p1, p2, p3⟩ := go_dn hH.2.2.1 hH.1.1 h6 hH.2.2.2.2 hPd (pb_t.mp hP) hl (fun e => by rw [← e, hMd] at hM; cases hM)
  refine ⟨p, p1, ⟨show 0 < dg c p by omega, pb_t.mpr p3⟩, fun q hq => ?_⟩
  show dg d q ≤ dg (c - un p) q
  by_cases e : q = p
  · subst e; rw [dg_dn p1 (by omega)]; omega
  · rw [dg_od p1 hq e (by omega)]; exact hl q hq
theorem is67 {σ : pw_St} {r : Int32} : (r = 1 → b_X10_is_67 r σ = some (1, σ)) ∧ (r = 0 → b_X10_is_67 r σ = some (0, σ)) := by
  unfold b_X10_is_67
  exact ⟨fun h => by rw [h, if_neg (by decide)], fun h => by rw [h, if_pos rfl]⟩
theorem not_all2 {X : Nat → Nat → Prop} (h : ¬ ∀ a b, X a b) : ∃ a b, ¬ X a b := by
  by_cases hh : ∃ a b, ¬ X a b
  · exact hh
  · refine absurd (fun a b => ?_) h
    by_cases h9 : X a b
    · exact h9
    · exact absurd ⟨a, b, h9⟩ hh
theorem not_all1 {X : Nat → Prop} (h : ¬ ∀ a, X a) : ∃ a, ¬ X a := by
  by_cases hh : ∃ a, ¬ X a
  · exact hh
  · refine absurd (fun a => ?_) h
    by_cases h9 : X a
    · exact h9
    · exact absurd ⟨a, h9⟩ hh
/-- what the reference's isClosed says -/
theorem pz_isc {σ : pw_St} {M : Nat → Bool} (m : Bool) (h51 : ∀ t, t < 2401 → σ.1 51 t = if M t then 1 else 0) (hMP : ∀ c, M c = true → c < 2401) : ((∀ a b, CLs M m a b) → f_X11_isClosed (bI m) σ = some (1, σ)) ∧ ((∃ a b, ¬ CLs M m a b) → f_X11_isClosed (bI m) σ = some (0, σ)) := by
  obtain ⟨j1, j2⟩ := ic_out m h51 pw_FU 0 (by omega) (by unfold pw_FU; omega)
  unfold f_X11_isClosed
  rw [pz_0]
  refine ⟨fun h => j1 (fun i j _ _ _ => h i j), fun ⟨a, b, h⟩ => j2 ?_⟩
  by_cases hh : ∃ i j, 0 ≤ i ∧ i < 2401 ∧ j < i ∧ ¬ CLs M m i j
  · exact hh
  · refine absurd (fun ha hb => ?_) h
    have a1 := hMP a ha
    have b1 := hMP b hb
    have all : ∀ i j, i < 2401 → j < i → CLs M m i j := fun i j hi hj => by
      by_cases h9 : CLs M m i j
      · exact h9
      · exact absurd ⟨i, j, Nat.zero_le _, hi, hj, h9⟩ hh
    rcases Nat.lt_trichotomy a b with hl | hl | hl
    · rw [jn_c]; exact all b a b1 hl hb ha
    · subst hl; rw [jn_s m a1]; exact ha
    · exact all a b a1 hl ha hb
theorem pz_is {σ : pw_St} {np nl tot nc nt n : Nat} {ev g : Nat → Nat} {Fc Fp : Nat → List Pt_} (hH : HInv σ np nl tot ev g) (hC : CInv σ nc nt Fc Fp) (hn : n < 2 ^ 31) (hN : NInv σ ev n) (x y : Int32) : Qr (f_X10_is x y) (f_X11_is x y) σ ev n := by
  obtain ⟨b1, b2, b3, b4, b5, b6, b7, b8⟩ := id hC
  have hq := QI_of hH
  have h6 := hq.1.2.1
  have bad : (y < 0 ∨ (¬ y < 0 ∧ nI 3 ≤ y)) → Qr (f_X10_is x y) (f_X11_is x y) σ ev n := by
    intro hy
    refine Qr_same hN (r := -1) ?_ ?_
    · unfold f_X10_is
      rcases cond3 x b1 with hx | ⟨c, hc, rfl⟩
      · rw [has_no b3 hx, pz_bi_some, if_pos rfl]
      · rw [ha_in b3 hc b1, pz_bi_some, if_neg (by decide)]
        rcases hy with hy | ⟨hy, hy2⟩
        · rw [if_pos hy]
        · rw [if_neg hy, if_neg (fun e => by have := Int32.le_trans hy2 e; exact absurd this (by decide))]
    · unfold f_X11_is
      rw [show (2 : Int32) = nI 3 - 1 from rfl]
      rcases hy with hy | ⟨hy, hy2⟩
      · rw [in_neg hy, pz_bi_some, if_pos rfl]
      · rw [in_ge hy hy2 (by decide), pz_bi_some, if_pos rfl]
  rcases ix3 y (show 3 < 2 ^ 31 by decide) with h3 | h3 | ⟨i, hi, rfl⟩
  · exact bad (Or.inl h3)
  · exact bad (Or.inr h3)
  have hin : ∀ τ, f_X11_in (nI i) 0 2 τ = some (1, τ) := fun τ => by rw [show (2 : Int32) = nI 3 - 1 from rfl]; exact in_ok hi (by decide)
  rcases cond3 x b1 with hx | ⟨c, hc, rfl⟩
  · refine Qr_same hN (r := -1) ?_ ?_
    · unfold f_X10_is
      rw [has_no b3 hx, pz_bi_some, if_pos rfl]
    · unfold f_X11_is
      rw [hin, pz_bi_some, if_neg (by decide), stu_no b4 b1 hx, pz_bi_some, if_pos rfl]
  obtain ⟨σ1, T, io, M, k1, k2, k3, k4, hS, f5, eM, h30, hst⟩ := both hH hC hn hN hc
  have hM : ∀ t, M t = true → pb ev (σ.1 16) t = true := fun t ht => by rw [eM] at ht; exact (Bool.and_eq_true _ _ ▸ ht).1
  have hML : ∀ t, M t = true → t < 2401 := fun t ht => (pb_t.mp (hM t ht)).1.1
  obtain ⟨T', io', -, -, f6, f23, f24⟩ := id k2
  rw [pb_E k4] at f23
  have e11 := (QI_keep hq k4).2.1
  have hX : f_X10_is (nI c) (nI i) σ = (if nI i = 0 then (pw_bi (f_X4_areKept σ1) fun r5 σ5 => (b_X10_is_67 r5 σ5)) else (if nI i = (1 : Int32) then (pw_bi (f_X4_areMet σ1) fun r4 σ4 => (b_X10_is_67 r4 σ4)) else (pw_bi (f_X4_areJoined σ1) fun r3 σ3 => (b_X10_is_67 r3 σ3)))) := by
    unfold f_X10_is
    rw [ha_in b3 hc b1, pz_bi_some, if_neg (by decide), if_neg (nI_pos (by omega)), if_pos (show nI i ≤ (2 : Int32) from nI_le (b := 2) (by omega) (by decide)), k1, pz_bv_some]
  have closed : ∀ (m : Bool) (r : Int32) (τ : pw_St), MJ (pb ev (σ.1 16)) M m r → (∀ r, r ≠ 31 → τ.1 r = σ1.1 r) → f_X10_is (nI c) (nI i) σ = b_X10_is_67 r τ → (∀ σ2, f_X11_study (nI c) τ = some (1, σ2) → f_X11_is (nI c) (nI i) τ = b_X11_is_44 (bI m) σ2) → Qr (f_X10_is (nI c)  (nI i)) (f_X11_is (nI c) (nI i)) σ ev n := by
    intro m r τ hr ht hx hm
    have hE : KeepE σ1 τ := fun k hk => ht k (by omega)
    obtain ⟨σ2, m1, m2, m3, m4, m5⟩ := hst τ hE
    obtain ⟨a1, a2⟩ := MJ_cl hr (fun c hc => ⟨hML c hc, hM c hc⟩) (fun a b ha hb => pb_t.mpr (pos_jn h6 hH.2.2.2.2 m (pb_t.mp ha) (pb_t.mp hb)))
    obtain ⟨c1, c2⟩ := pz_isc m m5 hML
    have hm' := hm σ2 m1
    by_cases hall : ∀ a b, CLs M m a b
    · refine ⟨1, τ, σ2, by rw [hx]; exact is67.1 (a1 hall), ?_, NInv_E k3 m4, Keep_tr k4 (Keep_E m4)⟩
      rw [hm']
      unfold b_X11_is_44
      rw [c1 hall, pz_bi_some, if_neg (by decide)]
      rfl
    · have hex := not_all2 hall
      refine ⟨0, τ, σ2, by rw [hx]; exact is67.2 (a2 hex), ?_, NInv_E k3 m4, Keep_tr k4 (Keep_E m4)⟩
      rw [hm']
      unfold b_X11_is_44
      rw [c2 hex, pz_bi_some, if_pos rfl]
  rcases (show i = 0 ∨ i = 1 ∨ i = 2 by omega) with rfl | rfl | rfl
  · obtain ⟨σ2, m1, m2, m3, m4, m5⟩ := hst σ1 (KeepE_rf _)
    have hK2 := Keep_tr k4 (Keep_E m4)
    have hq2 := QI_keep hq hK2
    obtain ⟨a1, a2⟩ := ak_out h6 e11 f23 h30 hS f5 pw_FU 0 (by omega) (by have := Sorted_T hS; unfold pw_FU; omega)
    obtain ⟨c1, c2⟩ := ik_out hq2 m5 pw_FU 0 (by omega) (by unfold pw_FU; omega)
    rw [pb_E hK2] at c1 c2
    have hMm : f_X11_is (nI c) (nI 0) σ1 = pw_bi (f_X11_isKept σ2) fun r3 σ3 => (if r3 = 0 then (some ((0 : Int32), σ3)) else (b_X11_is_50 σ3)) := by
      unfold f_X11_is
      rw [hin, pz_bi_some, if_neg (by decide), m1, pz_bi_some, if_neg (by decide), if_pos (show nI 0 = 0 from rfl)]
    by_cases hall : ∀ j, j < 2401 → Kc ev (pb ev (σ.1 16)) M j
    · refine ⟨1, σ1, σ2, ?_, ?_, NInv_E k3 m4, hK2⟩
      · rw [hX, if_pos (show nI 0 = 0 from rfl)]
        unfold f_X4_areKept
        rw [show l_X4_areKept_2 pw_FU 0 σ1 = some (1, σ1) from a1 (fun j _ hj => hall _ (hS.2.1 j hj).2.1), pz_bi_some]
        exact is67.1 rfl
      · rw [hMm]
        unfold f_X11_isKept
        rw [show l_X11_isKept_2 pw_FU 0 σ2 = some (1, σ2) from c1 (fun j _ hj => hall j hj), pz_bi_some, if_neg (by decide)]
        rfl
    · obtain ⟨j, hj⟩ := not_all1 hall
      have hj1 : j < 2401 := by
        by_cases h9 : j < 2401
        · exact h9
        · exact absurd (fun h => absurd h h9) hj
      have hj2 : ¬ Kc ev (pb ev (σ.1 16)) M j := fun h => hj (fun _ => h)
      have hMj : M j = true := by
        cases h9 : M j
        · exact absurd (fun e => by rw [h9] at e; cases e) hj2
        · rfl
      obtain ⟨k, hk1, hk2⟩ := hS.2.2.2.1 j hj1 (hM j hMj)
      refine ⟨0, σ1, σ2, ?_, ?_, NInv_E k3 m4, hK2⟩
      · rw [hX, if_pos (show nI 0 = 0 from rfl)]
        unfold f_X4_areKept
        rw [show l_X4_areKept_2 pw_FU 0 σ1 = some (0, σ1) from a2 ⟨k, Nat.zero_le _, hk1, by rw [hk2]; exact hj2⟩, pz_bi_some]
        exact is67.2 rfl
      · rw [hMm]
        unfold f_X11_isKept
        rw [show l_X11_isKept_2 pw_FU 0 σ2 = some (0, σ2) from c2 ⟨j, Nat.zero_le _, hj1, hj2⟩, pz_bi_some, if_pos rfl]
  · obtain ⟨r, τ, t1, t2, t3⟩ := met_l h6 e11 f23 h30 hS (hgo_t hH hM) pw_FU T σ1 (Nat.le_refl _) (by have := Sorted_T hS; unfold pw_FU; omega) (fun _ _ => rfl) (fun j a b => by omega)
    refine closed true r τ t3 t2 ?_ (fun σ2 hs => ?_)
    · rw [hX, if_neg (by decide), if_pos (show nI 1 = 1 from rfl)]
      unfold f_X4_areMet
      rw [f5, t1, pz_bi_some]
    · unfold f_X11_is
      rw [hin, pz_bi_some, if_neg (by decide), hs, pz_bi_some, if_neg (by decide), if_neg (by decide), if_pos (show nI 1 = 1 from rfl)]
      rfl
  · obtain ⟨r, τ, t1, t2, t3⟩ := arj_l h6 e11 f23 h30 hS f5 (hgo_f hH hM) pw_FU 0 σ1 (by omega) (by have := Sorted_T hS; unfold pw_FU; omega) (fun _ _ => rfl) (fun j a => by omega)
    refine closed false r τ t3 t2 ?_ (fun σ2 hs => ?_)
    · rw [hX, if_neg (by decide), if_neg (by decide)]
      unfold f_X4_areJoined
      rw [show l_X4_areJoined_2 pw_FU 0 σ1 = some (r, τ) from t1, pz_bi_some]
    · unfold f_X11_is
      rw [hin, pz_bi_some, if_neg (by decide), hs, pz_bi_some, if_neg (by decide), if_neg (by decide), if_neg (by decide)]
      rfl
