-- PURE PART: formulas, as both sides hold them
abbrev Pt_ : Type := Nat × Int32 × Int32
/-- the reference's number of a part's kind -/
def enc (k : Nat) : Nat := if k < 8 then k else if k = 11 then 10 else k + 3
def RepX (σ : pw_St) (n : Nat) (F : List Pt_) : Prop := σ.1 (4 * n + 54) 3 = nI F.length ∧ ∀ k x, F[k]? = some x → σ.1 (4 * n + 55) k = nI x.1 ∧ σ.1 (4 * n + 56) k = x.2.1 ∧ σ.1 (4 * n + 57) k = x.2.2
def RepM (σ : pw_St) (c : Nat) (F : List Pt_) : Prop := σ.1 49 c = nI F.length ∧ ∀ k x, F[k]? = some x → σ.1 46 (15 * c + k) = nI (enc x.1) ∧ (8 ≤ x.1 → σ.1 47 (15 * c + k) = x.2.1 ∧ σ.1 48 (15 * c + k) = x.2.2)
/-- what a change of one formula leaves as it was -/
def FFr (n : Nat) (σ σ2 : pw_St) : Prop := (∀ r, r ≠ 4 * n + 54 → r ≠ 4 * n + 55 → r ≠ 4 * n + 56 → r ≠ 4 * n + 57 → σ2.1 r = σ.1 r) ∧ (∀ j, j ≠ 3 → σ2.1 (4 * n + 54) j = σ.1 (4 * n + 54) j) ∧ σ2.2 = σ.2
theorem FFr_tr {n : Nat} {σ σ1 σ2 : pw_St} (h1 : FFr n σ σ1) (h2 : FFr n σ1 σ2) : FFr n σ σ2 := ⟨fun r a b c d => (h2.1 r a b c d).trans (h1.1 r a b c d), fun j hj => (h2.2.1 j hj).trans (h1.2.1 j hj), h2.2.2.trans h1.2.2⟩
theorem RepX_fr {n m : Nat} {σ σ2 : pw_St} {F : List Pt_} (h : RepX σ m F) (hne : m ≠ n) (hF : FFr n σ σ2) : RepX σ2 m F := by
  obtain ⟨h1, h2⟩ := h
  unfold RepX
  rw [hF.1 (4 * m + 54) (by omega) (by omega) (by omega) (by omega), hF.1 (4 * m + 55) (by omega) (by omega) (by omega) (by omega), hF.1 (4 * m + 56) (by omega) (by omega) (by omega) (by omega), hF.1 (4 * m + 57) (by omega) (by omega) (by omega) (by omega)]
  exact ⟨h1, h2⟩
theorem fx_append {σ : pw_St} {n : Nat} {F : List Pt_} (x : Pt_) (hl : F.length < 15) (h : RepX σ n F) : ∃ σ2, f_X1_append n (nI x.1) x.2.1 x.2.2 σ = some σ2 ∧ RepX σ2 n (F ++ [x]) ∧ FFr n σ σ2 := by
  obtain ⟨h1, h2⟩ := h
  obtain ⟨σ1, e1⟩ : ∃ σ1, σ1 = pw_rw σ (4 * n + 55) (upd (σ.1 (4 * n + 55)) F.length (nI x.1)) := ⟨_, rfl⟩
  obtain ⟨σ2, e2⟩ : ∃ σ2, σ2 = pw_rw σ1 (4 * n + 56) (upd (σ1.1 (4 * n + 56)) F.length x.2.1) := ⟨_, rfl⟩
  obtain ⟨σ3, e3⟩ : ∃ σ3, σ3 = pw_rw σ2 (4 * n + 57) (upd (σ2.1 (4 * n + 57)) F.length x.2.2) := ⟨_, rfl⟩
  obtain ⟨σ4, e4⟩ : ∃ σ4, σ4 = pw_rw σ3 (4 * n + 54) (upd (σ3.1 (4 * n + 54)) 3 (nI (F.length + 1))) := ⟨_, rfl⟩
  have a1 : σ1.1 (4 * n + 54) = σ.1 (4 * n + 54) := by rw [e1, rw_ne (by omega)]
  have a2 : σ2.1 (4 * n + 54) = σ.1 (4 * n + 54) := by rw [e2, rw_ne (by omega), a1]
  have a3 : σ3.1 (4 * n + 54) = σ.1 (4 * n + 54) := by rw [e3, rw_ne (by omega), a2]
  refine ⟨σ4, ?_, ?_, ?_⟩
  · unfold f_X1_append
    rw [h1, if_pos (pz_in hl (by decide)), pz_lt, nI_clamp (by omega), rw_sM, ← e1, a1, h1, if_pos (pz_in hl (by decide)), pz_lt, nI_clamp (by omega), rw_sM, ← e2, a2, h1, if_pos (pz_in hl (by decide)), pz_lt, nI_clamp (by omega), show pw_sM σ2 (4 * n + 57) F.length x.2.2 = σ3 from e3.symm, pz_lt, rw_sM, e4, a3, h1, nI_1]
  · have c55 : σ4.1 (4 * n + 55) = upd (σ.1 (4 * n + 55)) F.length (nI x.1) := by rw [e4, rw_ne (by omega), e3, rw_ne (by omega), e2, rw_ne (by omega), e1, rw_get]
    have c56 : σ4.1 (4 * n + 56) = upd (σ.1 (4 * n + 56)) F.length x.2.1 := by rw [e4, rw_ne (by omega), e3, rw_ne (by omega), e2, rw_get, e1, rw_ne (by omega)]
    have c57 : σ4.1 (4 * n + 57) = upd (σ.1 (4 * n + 57)) F.length x.2.2 := by rw [e4, rw_ne (by omega), e3, rw_get, e2, rw_ne (by omega), e1, rw_ne (by omega)]
    refine ⟨by rw [e4, rw_get, pk_us, List.length_append]; rfl, fun k y hy => ?_⟩
    rw [c55, c56, c57]
    by_cases hk : k < F.length
    · rw [List.getElem?_append_left hk] at hy
      rw [pk_un (by omega), pk_un (by omega), pk_un (by omega)]
      exact h2 k y hy
    · rw [List.getElem?_append_right (by omega)] at hy
      have hz : k - F.length = 0 := by
        have := (List.getElem?_eq_some_iff.mp hy).1
        simp at this; exact this
      have hk2 : k = F.length := by omega
      rw [hz] at hy
      cases hy
      subst hk2
      exact ⟨pk_us, pk_us, pk_us⟩
  · refine ⟨fun r b1 b2 b3 b4 => ?_, fun j hj => ?_, ?_⟩
    · rw [e4, rw_ne b1, e3, rw_ne b4, e2, rw_ne b3, e1, rw_ne b2]
    · rw [e4, rw_get, pk_un hj, a3]
    · rw [e4, e3, e2, e1]; rfl
theorem fx_appendAll_l {n0 n1 : Nat} (hne : n1 ≠ n0) {F G : List Pt_} (hl : F.length + G.length ≤ 15) : ∀ (n i : Nat) (σ : pw_St), i ≤ G.length → G.length - i < n → RepX σ n0 (F ++ G.take i) → RepX σ n1 G → ∃ σ2, l_X1_appendAll_2 n n0 n1 (nI i) σ = some σ2 ∧ RepX σ2 n0 (F ++ G) ∧ FFr n0 σ σ2 := by
  intro n
  induction n with
  | zero => intro i σ _ h; omega
  | succ n ih =>
    intro i σ h1 h2 hF hG
    have hk : l_X1_appendAll_2 (n + 1) n0 n1 (nI i) σ = b_X1_appendAll_2 (l_X1_appendAll_2 n) n0 n1 (nI i) σ := rfl
    rw [hk]
    unfold b_X1_appendAll_2
    rw [hG.1]
    by_cases he : i = G.length
    · subst he
      rw [if_pos (nI_le (Nat.le_refl _) (by omega))]
      rw [List.take_length] at hF
      exact ⟨σ, rfl, hF, fun _ _ _ _ _ => rfl, fun _ _ => rfl, rfl⟩
    · have hi : i < G.length := by omega
      obtain ⟨x, hx⟩ : ∃ x, G[i]? = some x := ⟨G[i], List.getElem?_eq_getElem hi⟩
      obtain ⟨g1, g2, g3⟩ := hG.2 i x hx
      have hin : pw_in (nI i) 15 = true := pz_in (by omega) (by decide)
      rw [if_neg (nI_ge hi (by omega)), if_pos hin, if_pos hin, if_pos hin, nI_clamp (by omega), g1, g2, g3, nI_1]
      obtain ⟨σ1, k1, k2, k3⟩ := fx_append x (F := F ++ G.take i) (by rw [List.length_append, List.length_take]; omega) hF
      rw [k1, pz_bv_some]
      have ht : F ++ List.take i G ++ [x] = F ++ List.take (i + 1) G := by
        rw [List.append_assoc, List.take_add_one, hx]
        rfl
      rw [ht] at k2
      obtain ⟨σ2, m1, m2, m3⟩ := ih (i + 1) σ1 (by omega) (by omega) k2 (RepX_fr hG hne k3)
      exact ⟨σ2, m1, m2, FFr_tr k3 m3⟩
theorem fx_appendAll {n0 n1 : Nat} (hne : n1 ≠ n0) {F G : List Pt_} {σ : pw_St} (hl : F.length + G.length ≤ 15) (hF : RepX σ n0 F) (hG : RepX σ n1 G) : ∃ σ2, f_X1_appendAll n0 n1 σ = some σ2 ∧ RepX σ2 n0 (F ++ G) ∧ FFr n0 σ σ2 := by
  unfold f_X1_appendAll
  exact fx_appendAll_l hne hl pw_FU 0 σ (by omega) (by unfold pw_FU; omega) (by simpa using hF) hG
