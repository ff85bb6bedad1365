-- PURE PART: what a formula is worth at a cut
def op2 (o : Nat) (a b : Int32) : Int32 := if o = 0 then a + b else if o = 1 then a - b else if o = 2 then a * b else if o = 3 then (if b ≤ a then 0 else 1) else if o = 4 then (if a = b then 1 else 0) else if o = 5 then (if a = 0 then 0 else if b = 0 then 0 else 1) else (if a = 0 then (if b = 0 then 0 else 1) else 1)
theorem pz_reck {o : Nat} (a b : Int32) (σ : pw_St) (ho : o < 7) : f_X5_reckoned (nI o) a b σ = some (op2 o a b, σ) := by
  unfold f_X5_reckoned
  rcases (show o = 0 ∨ o = 1 ∨ o = 2 ∨ o = 3 ∨ o = 4 ∨ o = 5 ∨ o = 6 by omega) with rfl | rfl | rfl | rfl | rfl | rfl | rfl
  · rw [if_pos (by decide)]; rfl
  · rw [if_neg (by decide), if_pos (by decide)]; rfl
  · rw [if_neg (by decide), if_neg (by decide), if_pos (by decide)]; rfl
  · rw [if_neg (by decide), if_neg (by decide), if_neg (by decide), if_pos (by decide)]
    show _ = some ((if b ≤ a then (0 : Int32) else 1), σ)
    split <;> rfl
  · rw [if_neg (by decide), if_neg (by decide), if_neg (by decide), if_neg (by decide), if_pos (by decide)]
    show _ = some ((if a = b then (1 : Int32) else 0), σ)
    split <;> rfl
  · rw [if_neg (by decide), if_neg (by decide), if_neg (by decide), if_neg (by decide), if_neg (by decide), if_pos (by decide)]
    show _ = some ((if a = 0 then (0 : Int32) else if b = 0 then 0 else 1), σ)
    split
    · rfl
    · split <;> rfl
  · rw [if_neg (by decide), if_neg (by decide), if_neg (by decide), if_neg (by decide), if_neg (by decide), if_neg (by decide), if_pos (by decide)]
    show _ = some ((if a = 0 then (if b = 0 then (0 : Int32) else 1) else 1), σ)
    split
    · split <;> rfl
    · rfl
theorem pz_not (a b : Int32) (σ : pw_St) : f_X5_reckoned (nI 7) a b σ = some (if a = 0 then 1 else 0, σ) := by
  unfold f_X5_reckoned
  rw [if_neg (by decide), if_neg (by decide), if_neg (by decide), if_neg (by decide), if_neg (by decide), if_neg (by decide), if_neg (by decide)]
  split <;> rfl
theorem pz_give {o : Nat} (a b : Int32) (σ : pw_St) (ho : o < 7) : f_X11_give (nI o) a b σ = some (op2 o a b, σ) := by
  unfold f_X11_give
  rcases (show o = 0 ∨ o = 1 ∨ o = 2 ∨ o = 3 ∨ o = 4 ∨ o = 5 ∨ o = 6 by omega) with rfl | rfl | rfl | rfl | rfl | rfl | rfl
  · rw [if_pos (by decide)]; rfl
  · rw [if_neg (by decide), if_pos (by decide)]; rfl
  · rw [if_neg (by decide), if_neg (by decide), if_pos (by decide)]; rfl
  · rw [if_neg (by decide), if_neg (by decide), if_neg (by decide), if_pos (by decide)]
    show _ = some ((if b ≤ a then (0 : Int32) else 1), σ)
    split <;> rfl
  · rw [if_neg (by decide), if_neg (by decide), if_neg (by decide), if_neg (by decide), if_pos (by decide)]
    show _ = some ((if a = b then (1 : Int32) else 0), σ)
    split <;> rfl
  · rw [if_neg (by decide), if_neg (by decide), if_neg (by decide), if_neg (by decide), if_neg (by decide), if_pos (by decide)]
    show _ = some ((if a = 0 then (0 : Int32) else if b = 0 then 0 else 1), σ)
    split
    · rfl
    · split <;> rfl
  · rw [if_neg (by decide), if_neg (by decide), if_neg (by decide), if_neg (by decide), if_neg (by decide), if_neg (by decide)]
    show _ = some ((if a = 0 then (if b = 0 then (0 : Int32) else 1) else 1), σ)
    split
    · split <;> rfl
    · rfl
/-- letters under way from a to b at cut c -/
def uwc (r18 r19 r20 r21 : Nat → Int32) (c a b l : Nat) : Bool := decide (r18 l = nI a) && decide (r19 l = nI b) && !decide (nI (dg c a) ≤ r20 l) && (decide (r21 l = -1) || decide (nI (dg c b) ≤ r21 l))
def uw (r18 r19 r20 r21 : Nat → Int32) (c a b : Nat) : Nat → Int32
  | 0 => 0
  | l + 1 => if uwc r18 r19 r20 r21 c a b l then uw r18 r19 r20 r21 c a b l + 1 else uw r18 r19 r20 r21 c a b l
theorem ux_l {σ : pw_St} {c a b nl : Nat} (ha : a < 4) (hb : b < 4) (e4 : σ.1 2 4 = nI nl) (hnl : nl ≤ 24) (ea : σ.1 28 a = nI (dg c a)) (eb : σ.1 28 b = nI (dg c b)) : ∀ (n l : Nat), l ≤ nl → nl - l < n → l_X5_howManyUnderWay_14 n (nI a) (nI b) (uw (σ.1 18) (σ.1 19) (σ.1 20) (σ.1 21) c a b l) (nI l) σ = some (uw (σ.1 18) (σ.1 19) (σ.1 20) (σ.1 21) c a b nl, σ) := by
  intro n
  induction n with
  | zero => intro l _ h; omega
  | succ n ih =>
    intro l h1 h2
    show b_X5_howManyUnderWay_14 (l_X5_howManyUnderWay_14 n) _ _ _ _ _ = _
    unfold b_X5_howManyUnderWay_14
    rw [e4]
    by_cases h : l = nl
    · subst h
      rw [if_pos (nI_le (Nat.le_refl _) (by omega))]
    · have hl : l < nl := by omega
      have hin : pw_in (nI l) 24 = true := pz_in (by omega) (by decide)
      have hia : pw_in (nI a) 4 = true := pz_in ha (by decide)
      have hib : pw_in (nI b) 4 = true := pz_in hb (by decide)
      have hcl : (nI l).toNatClampNeg = l := nI_clamp (by omega)
      have hca : (nI a).toNatClampNeg = a := nI_clamp (by omega)
      have hcb : (nI b).toNatClampNeg = b := nI_clamp (by omega)
      have hyes : uwc (σ.1 18) (σ.1 19) (σ.1 20) (σ.1 21) c a b l = true → l_X5_howManyUnderWay_14 n (nI a) (nI b) (uw (σ.1 18) (σ.1 19) (σ.1 20) (σ.1 21) c a b l + 1) (nI l + 1) σ = some (uw (σ.1 18) (σ.1 19) (σ.1 20) (σ.1 21) c a b nl, σ) := by
        intro hc
        have := ih (l + 1) (by omega) (by omega)
        rw [show uw (σ.1 18) (σ.1 19) (σ.1 20) (σ.1 21) c a b (l + 1) = uw (σ.1 18) (σ.1 19) (σ.1 20) (σ.1 21) c a b l + 1 from if_pos hc] at this
        rw [nI_1]; exact this
      have hno : ¬ uwc (σ.1 18) (σ.1 19) (σ.1 20) (σ.1 21) c a b l = true → l_X5_howManyUnderWay_14 n (nI a) (nI b) (uw (σ.1 18) (σ.1 19) (σ.1 20) (σ.1 21) c a b l) (nI l + 1) σ = some (uw (σ.1 18) (σ.1 19) (σ.1 20) (σ.1 21) c a b nl, σ) := by
        intro hc
        have := ih (l + 1) (by omega) (by omega)
        rw [show uw (σ.1 18) (σ.1 19) (σ.1 20) (σ.1 21) c a b (l + 1) = uw (σ.1 18) (σ.1 19) (σ.1 20) (σ.1 21) c a b l from if_neg hc] at this
        rw [nI_1]; exact this
      have h50 : ∀ y0 : Int32, (y0 = 0 ∨ y0 = 1 ∧ σ.1 18 l = nI a ∧ σ.1 19 l = nI b) → (y0 = 0 → ¬ (σ.1 18 l = nI a ∧ σ.1 19 l = nI b)) → b_X5_howManyUnderWay_50 (l_X5_howManyUnderWay_14 n) (nI a) (nI b) (uw (σ.1 18) (σ.1 19) (σ.1 20) (σ.1 21) c a b l) (nI l) y0 σ = some (uw (σ.1 18) (σ.1 19) (σ.1 20) (σ.1 21) c a b nl, σ) := by
        intro y0 hy hy0
        have h107 : ∀ z w : Int32, (z = 0 → nI (dg c a) ≤ σ.1 20 l) → (z = 1 ∨ z = 0) → (z = 1 → ¬ nI (dg c a) ≤ σ.1 20 l) → (w = 0 → σ.1 21 l = -1 ∨ nI (dg c b) ≤ σ.1 21 l) → (w = 1 ∨ w = 0) → (w = 1 → ¬ σ.1 21 l = -1 ∧ ¬ nI (dg c b) ≤ σ.1 21 l) → b_X5_howManyUnderWay_107 (l_X5_howManyUnderWay_14 n) (nI a) (nI b) (uw (σ.1 18) (σ.1 19) (σ.1 20) (σ.1 21) c a b l) (nI l) y0 z w σ = some (uw (σ.1 18) (σ.1 19) (σ.1 20) (σ.1 21) c a b nl, σ) := by
          intro z w z0 z01 z1 w0 w01 w1
          unfold b_X5_howManyUnderWay_107
          rcases hy with rfl | ⟨rfl, hy1, hy2⟩
          · rw [if_pos rfl]
            refine hno (fun hc => ?_)
            unfold uwc at hc
            have h00 := hy0 rfl
            simp only [Bool.and_eq_true, decide_eq_true_eq] at hc
            exact h00 ⟨hc.1.1.1, hc.1.1.2⟩
          · rw [if_neg (by decide)]
            rcases z01 with rfl | rfl
            · rw [if_neg (by decide)]
              rcases w01 with rfl | rfl
              · rw [if_neg (by decide)]
                refine hno (fun hc => ?_)
                unfold uwc at hc
                simp only [Bool.and_eq_true, Bool.or_eq_true, decide_eq_true_eq] at hc
                rcases hc.2 with hh | hh
                · exact (w1 rfl).1 hh
                · exact (w1 rfl).2 hh
              · rw [if_pos rfl]
                refine hyes ?_
                unfold uwc
                have := z1 rfl
                simp only [Bool.and_eq_true, Bool.or_eq_true, decide_eq_true_eq, Bool.not_eq_true', decide_eq_false_iff_not]
                exact ⟨⟨⟨hy1, hy2⟩, this⟩, w0 rfl⟩
            · rw [if_pos rfl]
              refine hno (fun hc => ?_)
              unfold uwc at hc
              simp only [Bool.and_eq_true, Bool.or_eq_true, decide_eq_true_eq, Bool.not_eq_true', decide_eq_false_iff_not] at hc
              exact hc.1.2 (z0 rfl)
        have h73 : ∀ z : Int32, (z = 0 → nI (dg c a) ≤ σ.1 20 l) → (z = 1 ∨ z = 0) → (z = 1 → ¬ nI (dg c a) ≤ σ.1 20 l) → b_X5_howManyUnderWay_73 (l_X5_howManyUnderWay_14 n) (nI a) (nI b) (uw (σ.1 18) (σ.1 19) (σ.1 20) (σ.1 21) c a b l) (nI l) y0 z σ = some (uw (σ.1 18) (σ.1 19) (σ.1 20) (σ.1 21) c a b nl, σ) := by
          intro z z0 z01 z1
          unfold b_X5_howManyUnderWay_73
          rw [if_pos hin, hcl, hcb]
          by_cases hm : σ.1 21 l = -1
          · rw [if_pos hm]
            exact h107 z 0 z0 z01 z1 (fun _ => Or.inl hm) (Or.inr rfl) (fun h => absurd h (by decide))
          · rw [if_neg hm, if_pos hin, if_pos hib, eb]
            by_cases hq : nI (dg c b) ≤ σ.1 21 l
            · rw [if_pos hq]
              exact h107 z 0 z0 z01 z1 (fun _ => Or.inr hq) (Or.inr rfl) (fun h => absurd h (by decide))
            · rw [if_neg hq]
              exact h107 z 1 z0 z01 z1 (fun h => absurd h (by decide)) (Or.inl rfl) (fun _ => ⟨hm, hq⟩)
        unfold b_X5_howManyUnderWay_50
        rw [if_pos hin, if_pos hia, hcl, hca, ea]
        by_cases hq : nI (dg c a) ≤ σ.1 20 l
        · rw [if_pos hq]
          exact h73 0 (fun _ => hq) (Or.inr rfl) (fun h => absurd h (by decide))
        · rw [if_neg hq]
          exact h73 1 (fun h => absurd h (by decide)) (Or.inl rfl) (fun _ => hq)
      rw [if_neg (nI_ge hl (by omega)), if_pos hin, hcl]
      by_cases h18 : σ.1 18 l = nI a
      · rw [if_pos h18, if_pos hin]
        by_cases h19 : σ.1 19 l = nI b
        · rw [if_pos h19]
          exact h50 1 (Or.inr ⟨rfl, h18, h19⟩) (fun h => absurd h (by decide))
        · rw [if_neg h19]
          exact h50 0 (Or.inl rfl) (fun _ hh => h19 hh.2)
      · rw [if_neg h18]
        exact h50 0 (Or.inl rfl) (fun _ hh => h18 hh.1)
theorem um_l {σ : pw_St} {c a b nl : Nat} (hc : c < 2401) (ha : a < 4) (hb : b < 4) (e4 : σ.1 10 9 = nI nl) (hnl : nl ≤ 24) : ∀ (n l : Nat), l ≤ nl → nl - l < n → l_X11_underWay_6 n (nI a) (nI b) (nI c) (uw (σ.1 40) (σ.1 41) (σ.1 42) (σ.1 43) c a b l) (nI l) σ = some (uw (σ.1 40) (σ.1 41) (σ.1 42) (σ.1 43) c a b nl, σ) := by
  intro n
  induction n with
  | zero => intro l _ h; omega
  | succ n ih =>
    intro l h1 h2
    show b_X11_underWay_6 (l_X11_underWay_6 n) _ _ _ _ _ _ = _
    unfold b_X11_underWay_6
    rw [e4]
    by_cases h : l = nl
    · subst h
      rw [if_pos (nI_le (Nat.le_refl _) (by omega))]
    · have hl : l < nl := by omega
      have hin : pw_in (nI l) 24 = true := pz_in (by omega) (by decide)
      have hcl : (nI l).toNatClampNeg = l := nI_clamp (by omega)
      have hyes : uwc (σ.1 40) (σ.1 41) (σ.1 42) (σ.1 43) c a b l = true → l_X11_underWay_6 n (nI a) (nI b) (nI c) (uw (σ.1 40) (σ.1 41) (σ.1 42) (σ.1 43) c a b l + 1) (nI l + 1) σ = some (uw (σ.1 40) (σ.1 41) (σ.1 42) (σ.1 43) c a b nl, σ) := by
        intro hc
        have := ih (l + 1) (by omega) (by omega)
        rw [show uw (σ.1 40) (σ.1 41) (σ.1 42) (σ.1 43) c a b (l + 1) = uw (σ.1 40) (σ.1 41) (σ.1 42) (σ.1 43) c a b l + 1 from if_pos hc] at this
        rw [nI_1]; exact this
      have hno : ¬ uwc (σ.1 40) (σ.1 41) (σ.1 42) (σ.1 43) c a b l = true → l_X11_underWay_6 n (nI a) (nI b) (nI c) (uw (σ.1 40) (σ.1 41) (σ.1 42) (σ.1 43) c a b l) (nI l + 1) σ = some (uw (σ.1 40) (σ.1 41) (σ.1 42) (σ.1 43) c a b nl, σ) := by
        intro hc
        have := ih (l + 1) (by omega) (by omega)
        rw [show uw (σ.1 40) (σ.1 41) (σ.1 42) (σ.1 43) c a b (l + 1) = uw (σ.1 40) (σ.1 41) (σ.1 42) (σ.1 43) c a b l from if_neg hc] at this
        rw [nI_1]; exact this
      rw [if_neg (nI_ge hl (by omega)), if_pos hin, hcl]
      by_cases h18 : σ.1 40 l = nI a
      · rw [if_pos h18, if_pos hin]
        by_cases h19 : σ.1 41 l = nI b
        · rw [if_pos h19, if_pos hin, pz_part σ (by omega) ha, pz_bi_some]
          by_cases h20 : nI (dg c a) ≤ σ.1 42 l
          · rw [if_neg (Int32.not_lt.mpr h20)]
            refine hno (fun hc => ?_)
            unfold uwc at hc
            simp only [Bool.and_eq_true, Bool.or_eq_true, decide_eq_true_eq, Bool.not_eq_true', decide_eq_false_iff_not] at hc
            exact hc.1.2 h20
          · rw [if_pos (Int32.not_le.mp h20), if_pos hin]
            by_cases h21 : σ.1 43 l = -1
            · rw [if_pos h21]
              unfold b_X11_underWay_87 b_X11_underWay_88
              refine hyes ?_
              unfold uwc
              simp only [Bool.and_eq_true, Bool.or_eq_true, decide_eq_true_eq, Bool.not_eq_true', decide_eq_false_iff_not]
              exact ⟨⟨⟨h18, h19⟩, h20⟩, Or.inl h21⟩
            · rw [if_neg h21, if_pos hin, pz_part σ (by omega) hb, pz_bi_some]
              by_cases h22 : nI (dg c b) ≤ σ.1 43 l
              · rw [if_pos h22]
                unfold b_X11_underWay_87 b_X11_underWay_88
                refine hyes ?_
                unfold uwc
                simp only [Bool.and_eq_true, Bool.or_eq_true, decide_eq_true_eq, Bool.not_eq_true', decide_eq_false_iff_not]
                exact ⟨⟨⟨h18, h19⟩, h20⟩, Or.inr h22⟩
              · rw [if_neg h22]
                unfold b_X11_underWay_88
                rw [Int32.add_zero]
                refine hno (fun hc => ?_)
                unfold uwc at hc
                simp only [Bool.and_eq_true, Bool.or_eq_true, decide_eq_true_eq, Bool.not_eq_true', decide_eq_false_iff_not] at hc
                exact hc.2.elim h21 h22
        · rw [if_neg h19]
          refine hno (fun hc => ?_)
          unfold uwc at hc
          simp only [Bool.and_eq_true, Bool.or_eq_true, decide_eq_true_eq, Bool.not_eq_true', decide_eq_false_iff_not] at hc
          exact h19 hc.1.1.2
      · rw [if_neg h18]
        refine hno (fun hc => ?_)
        unfold uwc at hc
        simp only [Bool.and_eq_true, Bool.or_eq_true, decide_eq_true_eq, Bool.not_eq_true', decide_eq_false_iff_not] at hc
        exact h18 hc.1.1.1
theorem nm_l {σ : pw_St} {c a b np : Nat} (hc : c < 2401) (ha : a < np) (hnp : np ≤ 4) (e1 : σ.1 10 1 = nI np) (h6 : dg c a ≤ 6) : ∀ (n i : Nat), i ≤ dg c a → dg c a - i < n → l_X11_nameAt_6 n (nI a) (nI b) (nI c) (nv (σ.1 35) (σ.1 36) (σ.1 37) a b i) (nI i) σ = some (nv (σ.1 35) (σ.1 36) (σ.1 37) a b (dg c a), σ) := by
  intro n
  induction n with
  | zero => intro i _ h; omega
  | succ n ih =>
    intro i h1 h2
    show b_X11_nameAt_6 (l_X11_nameAt_6 n) _ _ _ _ _ _ = _
    unfold b_X11_nameAt_6
    rw [pz_part σ (by omega) (by omega), pz_bi_some]
    by_cases h : i = dg c a
    · rw [h, if_pos (nI_le (Nat.le_refl _) (by omega))]
    · have hi : i < dg c a := by omega
      have hin : pw_in (nI (6 * a + i)) 24 = true := pz_in (by omega) (by decide)
      have hcl : (nI (6 * a + i)).toNatClampNeg = 6 * a + i := nI_clamp (by omega)
      have hs := nv_s (σ.1 35) (σ.1 36) (σ.1 37) a b i
      have hI := ih (i + 1) (by omega) (by omega)
      rw [if_neg (nI_ge hi (by omega)), e1, if_neg (nI_ge ha (by omega)), ixp2, if_pos hin, hcl, nI_1]
      by_cases k1 : (1 : Int32) < σ.1 35 (6 * a + i)
      · rw [if_pos k1]
        rw [if_pos (Or.inl k1)] at hs
        rw [hs] at hI; exact hI
      · rw [if_neg k1, if_pos hin]
        by_cases k2 : σ.1 36 (6 * a + i) = nI b
        · rw [if_neg (fun hh => hh.elim k1 (fun h => h k2))] at hs
          rw [if_pos k2, if_pos hin]
          by_cases k3 : σ.1 35 (6 * a + i) = 1
          · rw [if_pos k3, if_pos hin]
            rw [if_pos k3] at hs
            rw [hs] at hI; exact hI
          · rw [if_neg k3, if_pos hin]
            rw [if_neg k3] at hs
            rw [hs] at hI; exact hI
        · rw [if_neg k2]
          rw [if_pos (Or.inr k2)] at hs
          rw [hs] at hI; exact hI
