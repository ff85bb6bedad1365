-- PURE PART: the conditions' invariant; number, part, clear
/-- how high the pile is behind the parts F, from height h; none where it would be too low or too high -/
def hts (D : Nat) : List Pt_ → Nat → Option Nat
  | [], h => some h
  | x :: F, h => if x.1 < 7 then (if 2 ≤ h then hts D F (h - 1) else none) else if x.1 = 7 then (if 1 ≤ h then hts D F h else none) else (if h < D then hts D F (h + 1) else none)
theorem hts_app (D : Nat) : ∀ (F G : List Pt_) (h : Nat), hts D (F ++ G) h = (hts D F h).bind (fun m => hts D G m)
  | [], G, h => rfl
  | x :: F, G, h => by
    show (if x.1 < 7 then (if 2 ≤ h then hts D (F ++ G) (h - 1) else none) else if x.1 = 7 then (if 1 ≤ h then hts D (F ++ G) h else none) else (if h < D then hts D (F ++ G) (h + 1) else none)) = (if x.1 < 7 then (if 2 ≤ h then hts D F (h - 1) else none) else if x.1 = 7 then (if 1 ≤ h then hts D F h else none) else (if h < D then hts D F (h + 1) else none)).bind (fun m => hts D G m)
    rw [hts_app D F G, hts_app D F G, hts_app D F G]
    split
    · split <;> rfl
    · split
      · split <;> rfl
      · split <;> rfl
theorem hts_up {D d : Nat} : ∀ {F : List Pt_} {h m : Nat}, hts D F h = some m → hts (D + d) F (h + d) = some (m + d)
  | [], h, m, e => by cases e; rfl
  | x :: F, h, m, e => by
    have e' : (if x.1 < 7 then (if 2 ≤ h then hts D F (h - 1) else none) else if x.1 = 7 then (if 1 ≤ h then hts D F h else none) else (if h < D then hts D F (h + 1) else none)) = some m := e
    show (if x.1 < 7 then (if 2 ≤ h + d then hts (D + d) F (h + d - 1) else none) else if x.1 = 7 then (if 1 ≤ h + d then hts (D + d) F (h + d) else none) else (if h + d < D + d then hts (D + d) F (h + d + 1) else none)) = some (m + d)
    by_cases c1 : x.1 < 7
    · rw [if_pos c1] at e' ⊢
      by_cases c2 : 2 ≤ h
      · rw [if_pos c2] at e'
        rw [if_pos (by omega), show h + d - 1 = h - 1 + d by omega]
        exact hts_up e'
      · rw [if_neg c2] at e'; cases e'
    · rw [if_neg c1] at e' ⊢
      by_cases c3 : x.1 = 7
      · rw [if_pos c3] at e' ⊢
        by_cases c2 : 1 ≤ h
        · rw [if_pos c2] at e'
          rw [if_pos (by omega)]
          exact hts_up e'
        · rw [if_neg c2] at e'; cases e'
      · rw [if_neg c3] at e' ⊢
        by_cases c2 : h < D
        · rw [if_pos c2] at e'
          rw [if_pos (by omega), show h + d + 1 = h + 1 + d by omega]
          exact hts_up e'
        · rw [if_neg c2] at e'; cases e'
def gdp (x : Pt_) : Prop := x.1 < 8 ∨ x.1 = 11 ∨ ∃ i j, x.2.1 = nI i ∧ x.2.2 = nI j ∧ i < 4 ∧ ((x.1 = 8 ∧ j < 3) ∨ (x.1 = 9 ∧ j < 4) ∨ (x.1 = 10 ∧ j < 4))
def wfF (F : List Pt_) (D : Nat) : Prop := hts D F 0 = some 1 ∧ (∀ x ∈ F, gdp x) ∧ F.length ≤ 15
def CInv (σ : pw_St) (nc nt : Nat) (Fc Fp : Nat → List Pt_) : Prop :=
  nc ≤ 8 ∧ nt ≤ 6 ∧ σ.1 5 1 = nI nc ∧ σ.1 10 20 = nI nc ∧ σ.1 4 1 = nI nt ∧ σ.1 10 21 = nI nt ∧ (∀ c, c < nc → RepX σ (c + 6) (Fc c) ∧ RepM σ c (Fc c) ∧ wfF (Fc c) 6) ∧ (∀ i, i < nt → RepX σ i (Fp i) ∧ RepM σ (8 + i) (Fp i) ∧ wfF (Fp i) (6 - i))
/-- what a call on conditions leaves as it was -/
def CFr (σ σ2 : pw_St) : Prop := (∀ r, r ≠ 4 → r ≠ 5 → r ≠ 10 → ¬ (46 ≤ r ∧ r ≤ 49) → r < 54 → σ2.1 r = σ.1 r) ∧ (∀ j, j ≠ 20 → j ≠ 21 → σ2.1 10 j = σ.1 10 j) ∧ σ2.2 = σ.2
/-- a change of one block of the reference's -/
def MFr (c : Nat) (σ σ2 : pw_St) : Prop := (∀ r, ¬ (46 ≤ r ∧ r ≤ 49) → σ2.1 r = σ.1 r) ∧ (∀ j, j ≠ c → σ2.1 49 j = σ.1 49 j) ∧ (∀ j, ¬ (15 * c ≤ j ∧ j < 15 * c + 15) → σ2.1 46 j = σ.1 46 j ∧ σ2.1 47 j = σ.1 47 j ∧ σ2.1 48 j = σ.1 48 j) ∧ σ2.2 = σ.2
theorem MFr_tr {c : Nat} {σ σ1 σ2 : pw_St} (h1 : MFr c σ σ1) (h2 : MFr c σ1 σ2) : MFr c σ σ2 := ⟨fun r a => (h2.1 r a).trans (h1.1 r a), fun j hj => (h2.2.1 j hj).trans (h1.2.1 j hj), fun j hj => ⟨(h2.2.2.1 j hj).1.trans (h1.2.2.1 j hj).1, (h2.2.2.1 j hj).2.1.trans (h1.2.2.1 j hj).2.1, (h2.2.2.1 j hj).2.2.trans (h1.2.2.1 j hj).2.2⟩, h2.2.2.2.trans h1.2.2.2⟩
theorem RepM_fr {c d : Nat} {σ σ2 : pw_St} {F : List Pt_} (h : RepM σ d F) (hl : F.length ≤ 15) (hne : d ≠ c) (hF : MFr c σ σ2) : RepM σ2 d F := by
  obtain ⟨h1, h2⟩ := h
  refine ⟨by rw [hF.2.1 d hne]; exact h1, fun k x hx => ?_⟩
  have hk := (List.getElem?_eq_some_iff.mp hx).1
  obtain ⟨e1, e2, e3⟩ := hF.2.2.1 (15 * d + k) (by omega)
  rw [e1, e2, e3]
  exact h2 k x hx
theorem RepX_same {m : Nat} {σ σ2 : pw_St} {F : List Pt_} (h : RepX σ m F) (e1 : σ2.1 (4 * m + 54) 3 = σ.1 (4 * m + 54) 3) (e2 : σ2.1 (4 * m + 55) = σ.1 (4 * m + 55)) (e3 : σ2.1 (4 * m + 56) = σ.1 (4 * m + 56)) (e4 : σ2.1 (4 * m + 57) = σ.1 (4 * m + 57)) : RepX σ2 m F := by
  obtain ⟨h1, h2⟩ := h
  refine ⟨e1.trans h1, fun k x hx => ?_⟩
  rw [e2, e3, e4]
  exact h2 k x hx
theorem RepM_same {c : Nat} {σ σ2 : pw_St} {F : List Pt_} (h : RepM σ c F) (e1 : σ2.1 46 = σ.1 46) (e2 : σ2.1 47 = σ.1 47) (e3 : σ2.1 48 = σ.1 48) (e4 : σ2.1 49 = σ.1 49) : RepM σ2 c F := by
  unfold RepM
  rw [e1, e2, e3, e4]
  exact h
/-- push, in the class -/
theorem fx_push {σ : pw_St} {nt : Nat} (x : Pt_) (ht : nt < 6) (e : σ.1 4 1 = nI nt) : ∃ σ2, f_X7_push (nI x.1) x.2.1 x.2.2 σ = some (nI (nt + 1), σ2) ∧ RepX σ2 nt [x] ∧ (∀ r, r ≠ 4 → r ≠ 4 * nt + 54 → r ≠ 4 * nt + 55 → r ≠ 4 * nt + 56 → r ≠ 4 * nt + 57 → σ2.1 r = σ.1 r) ∧ σ2.1 4 1 = nI (nt + 1) ∧ σ2.2 = σ.2 := by
  obtain ⟨σ1, e1⟩ : ∃ σ1, σ1 = pw_rw σ (4 * nt + 54) (upd (σ.1 (4 * nt + 54)) 3 0) := ⟨_, rfl⟩
  have h1 : RepX σ1 nt [] := ⟨by rw [e1, rw_get]; exact pk_us, fun k x hx => by simp at hx⟩
  obtain ⟨σ2, k1, k2, k3⟩ := fx_append x (F := []) (by decide) h1
  obtain ⟨σ3, e3⟩ : ∃ σ3, σ3 = pw_rw σ2 4 (upd (σ2.1 4) 1 (nI (nt + 1))) := ⟨_, rfl⟩
  have q1 : σ1.1 4 1 = nI nt := by rw [e1, rw_ne (by omega)]; exact e
  have q2 : σ2.1 4 1 = nI nt := by rw [k3.1 4 (by omega) (by omega) (by omega) (by omega)]; exact q1
  refine ⟨σ3, ?_, ?_, ?_, ?_, ?_⟩
  · unfold f_X7_push
    rw [e, if_pos (pz_in ht (by decide)), pz_lt, nI_clamp (by omega), show pw_sM σ (4 * (nt + 0) + 54) 3 0 = σ1 from e1.symm, q1, if_pos (pz_in ht (by decide)), nI_clamp (by omega)]
    rw [show f_X1_append (nt + 0) (nI x.1) x.2.1 x.2.2 σ1 = some σ2 from k1, pz_bv_some, pz_lt, q2, nI_1, rw_sM, ← e3]
    rw [show σ3.1 4 1 = nI (nt + 1) by rw [e3, rw_get]; exact pk_us]
  · have := k2
    rw [List.nil_append] at this
    exact RepX_same this (by rw [e3, rw_ne (by omega)]) (by rw [e3, rw_ne (by omega)]) (by rw [e3, rw_ne (by omega)]) (by rw [e3, rw_ne (by omega)])
  · intro r a b c d f
    rw [e3, rw_ne a, k3.1 r b c d f, e1, rw_ne b]
  · rw [e3, rw_get]; exact pk_us
  · rw [e3]; show σ2.2 = _; rw [k3.2.2, e1]; rfl
/-- push, in the reference -/
theorem fm_push {σ : pw_St} {nt : Nat} (x : Pt_) (ht : nt < 6) (e : σ.1 10 21 = nI nt) : ∃ σ2, f_X11_push (nI (enc x.1)) x.2.1 x.2.2 σ = some (nI (nt + 1), σ2) ∧ RepM σ2 (8 + nt) [x] ∧ (∀ r, r ≠ 10 → ¬ (46 ≤ r ∧ r ≤ 49) → σ2.1 r = σ.1 r) ∧ (∀ j, j ≠ 21 → σ2.1 10 j = σ.1 10 j) ∧ σ2.1 10 21 = nI (nt + 1) ∧ (∀ j, j ≠ 8 + nt → σ2.1 49 j = σ.1 49 j) ∧ (∀ j, ¬ (15 * (8 + nt) ≤ j ∧ j < 15 * (8 + nt) + 15) → σ2.1 46 j = σ.1 46 j ∧ σ2.1 47 j = σ.1 47 j ∧ σ2.1 48 j = σ.1 48 j) ∧ σ2.2 = σ.2 := by
  obtain ⟨at_, hat⟩ : ∃ at_, at_ = 15 * (8 + nt) := ⟨_, rfl⟩
  have hix : (15 : Int32) * ((8 : Int32) + nI nt) = nI at_ := by rw [show (15 : Int32) = nI 15 from rfl, show (8 : Int32) = nI 8 from rfl, nI_add, pk_mul, hat]
  have h8 : (8 : Int32) + nI nt = nI (8 + nt) := by rw [show (8 : Int32) = nI 8 from rfl, nI_add]
  obtain ⟨σ2, e2⟩ : ∃ σ2, σ2 = pw_rw (pw_rw (pw_rw (pw_rw (pw_rw σ 46 (upd (σ.1 46) at_ (nI (enc x.1)))) 47 (upd (σ.1 47) at_ x.2.1)) 48 (upd (σ.1 48) at_ x.2.2)) 49 (upd (σ.1 49) (8 + nt) 1)) 10 (upd (σ.1 10) 21 (nI (nt + 1))) := ⟨_, rfl⟩
  refine ⟨σ2, ?_, ?_, ?_, ?_, ?_, ?_, ?_, ?_⟩
  · unfold f_X11_push
    rw [e, if_neg (show ¬ nI nt = 6 from fun h => by have := (nI_eq (a := nt) (b := 6) (by omega) (by decide)).mp h; omega), hix, if_pos (pz_in (by omega) (by decide)), pz_lt, nI_clamp (n := at_) (by omega), if_pos (pz_in (by omega) (by decide)), pz_lt, if_pos (pz_in (by omega) (by decide)), pz_lt]
    generalize hs : pw_sM (pw_sM (pw_sM σ 46 at_ (nI (enc x.1))) 47 at_ x.2.1) 48 at_ x.2.2 = σ3
    have r21 : σ3.1 10 21 = nI nt := by rw [← hs]; exact e
    rw [r21, h8, if_pos (pz_in (by omega) (by decide)), pz_lt, pz_lt, nI_clamp (n := 8 + nt) (by omega)]
    rw [show (pw_sM σ3 49 (8 + nt) 1).1 10 21 = nI nt from r21, nI_1]
    have hfin : pw_sM (pw_sM σ3 49 (8 + nt) 1) 10 21 (nI (nt + 1)) = σ2 := by rw [e2, ← hs]; rfl
    rw [hfin, show σ2.1 10 21 = nI (nt + 1) by rw [e2, rw_get]; exact pk_us]
  · refine ⟨by rw [e2]; exact pk_us, fun k y hy => ?_⟩
    have hk : k = 0 := by
      have := (List.getElem?_eq_some_iff.mp hy).1
      simp at this; exact this
    subst hk
    cases hy
    rw [Nat.add_zero, ← hat, e2]
    exact ⟨pk_us, fun _ => ⟨pk_us, pk_us⟩⟩
  · intro r a b
    rw [e2, rw_ne a, rw_ne (by omega), rw_ne (by omega), rw_ne (by omega), rw_ne (by omega)]
  · intro j hj
    rw [e2, rw_get, pk_un hj]
  · rw [e2, rw_get]; exact pk_us
  · intro j hj
    rw [e2]
    exact pk_un hj
  · intro j hj
    rw [e2]
    exact ⟨pk_un (by omega), pk_un (by omega), pk_un (by omega)⟩
  · rw [e2]; rfl
