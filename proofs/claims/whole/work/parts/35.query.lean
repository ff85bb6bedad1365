-- PURE PART: possible, cuts, least, join
/-- what the queries need of the history -/
def QI (σ : pw_St) (np : Nat) (ev : Nat → Nat) : Prop := CutM σ np ev ∧ (∀ p, p < 4 → σ.1 11 p = nI (ev p)) ∧ σ.1 39 = σ.1 16 ∧ ckB np ev (σ.1 16)
theorem QI_of {σ : pw_St} {np nl tot : Nat} {ev g : Nat → Nat} (hH : HInv σ np nl tot ev g) : QI σ np ev := by
  obtain ⟨⟨b1, b2, b3, b4, b5, b6, b7, b8, b9, b10, b11⟩, hR, hO, hV⟩ := hH
  exact ⟨⟨b1, b3, b4, b6, fun p hp => by rw [hR.1]; exact b11 p hp⟩, b11, hR.2.2.2.2.1, ckB_of hO⟩
theorem QI_fr {σ σ2 : pw_St} {np : Nat} {ev : Nat → Nat} (h : QI σ np ev) (hF : NFr σ σ2) : QI σ2 np ev := by
  obtain ⟨⟨m1, m2, m3, m4, m5⟩, q1, q2, q3⟩ := h
  have f := hF.1
  refine ⟨⟨m1, m2, m3, by rw [f 10 (by decide) (by decide) (by decide) (by decide) (by decide)]; exact m4, fun p hp => by rw [f 34 (by decide) (by decide) (by decide) (by decide) (by decide)]; exact m5 p hp⟩, fun p hp => by rw [f 11 (by decide) (by decide) (by decide) (by decide) (by decide)]; exact q1 p hp, ?_, ?_⟩
  · rw [f 39 (by decide) (by decide) (by decide) (by decide) (by decide), f 16 (by decide) (by decide) (by decide) (by decide) (by decide)]; exact q2
  · rw [f 16 (by decide) (by decide) (by decide) (by decide) (by decide)]; exact q3
theorem ips_t {σ : pw_St} {np c : Nat} {ev : Nat → Nat} (h : QI σ np ev) (hp : pb ev (σ.1 16) c = true) : f_X11_isPossible (nI c) σ = some (1, σ) := by
  obtain ⟨hM, q1, q2, q3⟩ := h
  exact (ips hM (by rw [q2]; exact q3) (nI c)).1 c rfl (by rw [q2]; exact pb_t.mp hp)
theorem ips_f {σ : pw_St} {np c : Nat} {ev : Nat → Nat} (h : QI σ np ev) (hc : c < 2401) (hp : pb ev (σ.1 16) c = false) : f_X11_isPossible (nI c) σ = some (0, σ) := by
  obtain ⟨hM, q1, q2, q3⟩ := h
  refine (ips hM (by rw [q2]; exact q3) (nI c)).2 (fun d hd hd2 => ?_)
  have := (nI_eq (by omega) (by omega)).mp hd
  subst this
  rw [q2]
  exact pb_f.mp hp
/-- how a query comes out: the answers are alike, and only the net may have been made anew -/
def Qry (fx fm : pw_St → Option (Int32 × pw_St)) (σ : pw_St) (ev : Nat → Nat) (n : Nat) : Prop := ∃ r σ1, fx σ = some (r, σ1) ∧ fm σ1 = some (r, σ1) ∧ NInv σ1 ev n ∧ NFr σ σ1
theorem NFr_rf (σ : pw_St) : NFr σ σ := ⟨fun _ _ _ _ _ _ => rfl, rfl⟩
theorem pz_possible {σ : pw_St} {np n : Nat} {ev : Nat → Nat} (h : QI σ np ev) (hn : n < 2 ^ 31) (hN : NInv σ ev n) (x : Int32) : Qry (f_X10_possible x) (f_X11_possible x) σ ev n := by
  obtain ⟨hM, q1, q2, q3⟩ := id h
  rcases cut3 ev x with ⟨c, rfl, hC⟩ | hno
  · obtain ⟨σ2, k1, ⟨T, io, k2, k3, k4, k5, k6⟩, k7, k8⟩ := pz_fresh hM.2.1 q1 hn hN
    have h2 := QI_fr h k8
    have hx : ∀ r, (if (σ2.1 23 c) = 0 then (some ((0 : Int32), σ2)) else (some ((1 : Int32), σ2))) = some (r, σ2) → f_X10_possible (nI c) σ = some (r, σ2) := fun r hr => by
      unfold f_X10_possible
      rw [hc_yes hM.2.1 q1 hC, pz_bi_some, if_neg (by decide), k1, pz_bv_some, if_pos (pz_in hC.1 (by decide)), nI_clamp (by have := hC.1; omega)]
      exact hr
    have h5 := k5 c hC.1
    have hm : f_X11_isCut (nI c) σ2 = some (1, σ2) := ic_yes h2.1 hC
    cases hp : pb ev (σ2.1 16) c
    · rw [hp] at h5
      refine ⟨0, σ2, hx 0 (by rw [if_pos (show σ2.1 23 c = 0 from h5)]), ?_, k7, k8⟩
      unfold f_X11_possible
      rw [hm, pz_bi_some, if_neg (by decide), ips_f h2 hC.1 hp, pz_bi_some, if_pos rfl]
    · rw [hp] at h5
      refine ⟨1, σ2, hx 1 (by rw [if_neg (by rw [h5]; decide)]), ?_, k7, k8⟩
      unfold f_X11_possible
      rw [hm, pz_bi_some, if_neg (by decide), ips_t h2 hp, pz_bi_some, if_neg (by decide)]
  · refine ⟨-1, σ, ?_, ?_, hN, NFr_rf σ⟩
    · unfold f_X10_possible
      rw [hc_no hM.2.1 q1 hno, pz_bi_some, if_pos rfl]
    · unfold f_X11_possible
      rw [ic_no hM hno, pz_bi_some, if_pos rfl]
theorem pz_size11_l {c : Nat} (σ : pw_St) (hc : c < 2 ^ 31) : ∀ (n p a : Nat), p ≤ 4 → 4 - p < n → l_X11_sizeOf_4 n (nI c) (nI a) (nI p) σ = some (nI (a + (if p ≤ 0 then dg c 0 else 0) + (if p ≤ 1 then dg c 1 else 0) + (if p ≤ 2 then dg c 2 else 0) + (if p ≤ 3 then dg c 3 else 0)), σ) := by
  intro n
  induction n with
  | zero => intro p a _ h; omega
  | succ n ih =>
    intro p a h1 h2
    show b_X11_sizeOf_4 (l_X11_sizeOf_4 n) _ _ _ _ = _
    unfold b_X11_sizeOf_4
    by_cases h : p = 4
    · subst h
      rw [if_pos (by decide)]
      simp
    · have hp : p < 4 := by omega
      rw [if_neg (show ¬ (4 : Int32) ≤ nI p from nI_ge (b := 4) hp (by decide)), pz_part σ hc hp, pz_bi_some, nI_add, pz_1, nI_add, ih (p + 1) (a + dg c p) (by omega) (by omega)]
      congr 3
      rcases (show p = 0 ∨ p = 1 ∨ p = 2 ∨ p = 3 by omega) with rfl | rfl | rfl | rfl <;> simp <;> omega
theorem pz_size11 {c : Nat} (σ : pw_St) (hc : c < 2 ^ 31) : f_X11_sizeOf (nI c) σ = some (nI (sz c), σ) := by
  unfold f_X11_sizeOf
  rw [pz_0, pz_size11_l σ hc pw_FU 0 0 (by omega) (by unfold pw_FU; omega)]
  simp [sz]
/-- the reference counts -/
theorem cuts_l {σ : pw_St} {np : Nat} {ev : Nat → Nat} (h : QI σ np ev) {x : Int32} {W : Nat → Bool} (hW : ∀ c, c < 2401 → pb ev (σ.1 16) c = true → (W c = true ↔ x = -1 ∨ nI (sz c) = x)) : ∀ (n c : Nat), c ≤ 2401 → 2401 - c < n → l_X11_cuts_12 n x (nI (ct (fun c => pb ev (σ.1 16) c && W c) c)) (nI c) σ = some (nI (ct (fun c => pb ev (σ.1 16) c && W c) 2401), σ) := by
  intro n
  induction n with
  | zero => intro c _ h; omega
  | succ n ih =>
    intro c h1 h2
    have hk : l_X11_cuts_12 (n + 1) x (nI (ct (fun c => pb ev (σ.1 16) c && W c) c)) (nI c) σ = b_X11_cuts_12 (l_X11_cuts_12 n) x (nI (ct (fun c => pb ev (σ.1 16) c && W c) c)) (nI c) σ := rfl
    rw [hk]
    unfold b_X11_cuts_12
    by_cases he : c = 2401
    · subst he
      rw [if_pos (by decide)]
    · have hc : c < 2401 := by omega
      have hs := ct_s (fun c => pb ev (σ.1 16) c && W c) c
      have go : ∀ v : Nat, ct (fun c => pb ev (σ.1 16) c && W c) (c + 1) = ct (fun c => pb ev (σ.1 16) c && W c) c + v → b_X11_cuts_46 (l_X11_cuts_12 n) x (nI c) (nI v) (nI (ct (fun c => pb ev (σ.1 16) c && W c) c)) σ = some (nI (ct (fun c => pb ev (σ.1 16) c && W c) 2401), σ) := by
        intro v hv
        unfold b_X11_cuts_46
        rw [nI_add, ← hv, pz_1, nI_add]
        exact ih (c + 1) (by omega) (by omega)
      rw [if_neg (show ¬ (2401 : Int32) ≤ nI c from nI_ge (b := 2401) hc (by decide))]
      cases hp : pb ev (σ.1 16) c
      · rw [ips_f h hc hp, pz_bi_some, if_pos rfl]
        exact go 0 (by rw [hs, hp]; rfl)
      · rw [ips_t h hp, pz_bi_some, if_neg (by decide)]
        have w := hW c hc hp
        by_cases hx : x = -1
        · rw [if_pos hx]
          exact go 1 (by rw [hs, hp, w.mpr (Or.inl hx)]; rfl)
        · rw [if_neg hx, pz_size11 σ (by omega), pz_bi_some]
          by_cases hz : nI (sz c) = x
          · rw [if_pos hz]
            exact go 1 (by rw [hs, hp, w.mpr (Or.inr hz)]; rfl)
          · rw [if_neg hz]
            have : W c = false := by
              cases hw : W c
              · rfl
              · rcases w.mp hw with h9 | h9
                · exact absurd h9 hx
                · exact absurd h9 hz
            exact go 0 (by rw [hs, hp, this]; rfl)
theorem pz_cuts {σ : pw_St} {np n : Nat} {ev : Nat → Nat} (h : QI σ np ev) (hn : n < 2 ^ 31) (hN : NInv σ ev n) (x : Int32) : Qry (f_X10_cuts x) (f_X11_cuts x) σ ev n := by
  obtain ⟨hM, q1, q2, q3⟩ := id h
  by_cases hb : (-1 : Int32) ≤ x
  · obtain ⟨σ2, k1, ⟨T, io, k2, k3, k4, k5, k6⟩, k7, k8⟩ := pz_fresh hM.2.1 q1 hn hN
    have h2 := QI_fr h k8
    have hM2 : ∀ W : Nat → Bool, (∀ c, c < 2401 → pb ev (σ2.1 16) c = true → (W c = true ↔ x = -1 ∨ nI (sz c) = x)) → f_X11_cuts x σ2 = some (nI (ct (fun c => pb ev (σ2.1 16) c && W c) 2401), σ2) := by
      intro W hW
      unfold f_X11_cuts
      rw [if_pos hb, pz_0]
      exact cuts_l h2 hW pw_FU 0 (by omega) (by unfold pw_FU; omega)
    by_cases hx : x = -1
    · refine ⟨nI T, σ2, ?_, ?_, k7, k8⟩
      · unfold f_X10_cuts
        rw [if_pos hb, k1, pz_bv_some, if_pos hx, k3]
      · rw [hM2 (fun _ => true) (fun c hc hp => ⟨fun _ => Or.inl hx, fun _ => rfl⟩), k2.1]
        simp only [Bool.and_true]
    · have h0 : ¬ x < 0 := by
        intro hlt
        rw [Int32.lt_iff_toInt_lt] at hlt
        rw [Int32.le_iff_toInt_le] at hb
        have e1 : (-1 : Int32).toInt = -1 := by decide
        have e2 : (0 : Int32).toInt = 0 := by decide
        rw [e1] at hb
        rw [e2] at hlt
        exact hx (Int32.toInt_inj.mp (by rw [e1]; omega))
      have hX : f_X10_cuts x σ = pw_bi (f_X6_howManyOf x σ2) fun r2 σ3 => some (r2, σ3) := by
        unfold f_X10_cuts
        rw [if_pos hb, k1, pz_bv_some, if_neg hx]
      rcases ix3 x (show 25 < 2 ^ 31 by decide) with h1 | ⟨h1, h9⟩ | ⟨s, hs, rfl⟩
      · exact absurd h1 h0
      · refine ⟨0, σ2, ?_, ?_, k7, k8⟩
        · rw [hX]
          unfold f_X6_howManyOf
          have : ¬ x ≤ (24 : Int32) := by
            intro hle
            have := Int32.le_trans h9 hle
            exact absurd this (by decide)
          rw [if_neg h0, if_neg this, pz_bi_some]
        · rw [hM2 (fun _ => false) (fun c hc hp => ⟨fun e => absurd e (by decide), fun e => ?_⟩)]
          · simp only [Bool.and_false]
            have : ∀ m, ct (fun _ => false) m = 0 := fun m => by
              induction m with
              | zero => rfl
              | succ m ih => rw [ct_s, ih]; rfl
            rw [this]; rfl
          · rcases e with e | e
            · exact absurd e hx
            · have := sz_le c
              rw [← e] at h9
              have := (nI_leI (by decide) (by omega)).mp h9
              omega
      · have hm : f_X11_cuts (nI s) σ2 = some (nI (cs (pb ev (σ2.1 16)) s 2401), σ2) := by
          rw [hM2 (fun c => decide (sz c = s)) (fun c hc hp => ?_)]
          · rfl
          · have := sz_le c
            constructor
            · intro e
              exact Or.inr (by rw [of_decide_eq_true e])
            · intro e
              rcases e with e | e
              · exact absurd e hx
              · exact decide_eq_true ((nI_eq (by omega) (by omega)).mp e)
        refine ⟨_, σ2, ?_, hm, k7, k8⟩
        rw [hX]
        unfold f_X6_howManyOf
        rw [if_neg h0, if_pos (show nI s ≤ (24 : Int32) from nI_le (b := 24) (by omega) (by decide))]
        by_cases hs0 : s = 0
        · subst hs0
          rw [if_pos (show nI 0 = 0 from rfl), if_pos (by decide), pz_bi_some, show (0 : Int32).toNatClampNeg = 0 from rfl, k6 0 (by omega), le_s]
          show some (nI (0 + cs (pb ev (σ2.1 16)) 0 2401), σ2) = _
          rw [Nat.zero_add]
        · rw [if_neg (nI_ne0 (by omega) (by omega)), if_pos (pz_in hs (by decide)), pz_m1 (by omega), if_pos (pz_in (by omega) (by decide)), pz_bi_some, nI_clamp (by omega), nI_clamp (by omega), k6 s (by omega), k6 (s - 1) (by omega), show s - 1 + 1 = s by omega, pk_sub (by rw [le_s]; omega), le_s, Nat.add_sub_cancel_left]
  · refine ⟨-2, σ, ?_, ?_, hN, NFr_rf σ⟩
    · unfold f_X10_cuts
      rw [if_neg hb]
    · unfold f_X11_cuts
      rw [if_neg hb]
