-- PURE PART: formulas are worth the same on both sides
def lf (σ : pw_St) (nl c : Nat) (x : Pt_) : Int32 := if x.1 = 8 then σ.1 17 ((x.2.1.toNatClampNeg * 7 + dg c x.2.1.toNatClampNeg) * 3 + x.2.2.toNatClampNeg) else if x.1 = 9 then uw (σ.1 18) (σ.1 19) (σ.1 20) (σ.1 21) c x.2.1.toNatClampNeg x.2.2.toNatClampNeg nl else if x.1 = 10 then nI (dg c x.2.1.toNatClampNeg) else x.2.1
def evl (lv : Pt_ → Int32) : List Pt_ → List Int32 → Int32
  | [], [] => 0
  | [], v :: _ => v
  | x :: F, s => if x.1 < 7 then (match s with | b :: a :: r => evl lv F (op2 x.1 a b :: r) | _ => 0) else if x.1 = 7 then (match s with | a :: r => evl lv F ((if a = 0 then 1 else 0) :: r) | _ => 0) else evl lv F (lv x :: s)
def On (row : Nat → Int32) : List Int32 → Prop
  | [] => True
  | v :: s => row s.length = v ∧ On row s
theorem On_upd {row : Nat → Int32} {k : Nat} {v : Int32} : ∀ {s : List Int32}, On row s → s.length ≤ k → On (upd row k v) s
  | [], _, _ => trivial
  | w :: s, h, hk => by
    have hk' : s.length + 1 ≤ k := hk
    exact ⟨by rw [pk_un (by omega)]; exact h.1, On_upd h.2 (by omega)⟩
theorem On_push {row : Nat → Int32} {v : Int32} {s : List Int32} (h : On row s) : On (upd row s.length v) (v :: s) := ⟨pk_us, On_upd h (Nat.le_refl _)⟩
theorem gdp_8 {x : Pt_} (h : gdp x) (h8 : 8 ≤ x.1) : x.1 = 11 ∨ ∃ i j, x.2.1 = nI i ∧ x.2.2 = nI j ∧ i < 4 ∧ ((x.1 = 8 ∧ j < 3) ∨ (x.1 = 9 ∧ j < 4) ∨ (x.1 = 10 ∧ j < 4)) := by
  rcases h with h | h | h
  · omega
  · exact Or.inl h
  · exact Or.inr h
theorem pz_seen {σ : pw_St} {c nl : Nat} {x : Pt_} (hx : gdp x) (h8 : 8 ≤ x.1) (e28 : ∀ p, p < 4 → σ.1 28 p = nI (dg c p)) (e4 : σ.1 2 4 = nI nl) (hnl : nl ≤ 24) : f_X5_seen (nI x.1) x.2.1 x.2.2 σ = some (lf σ nl c x, σ) := by
  unfold f_X5_seen lf
  rcases gdp_8 hx h8 with h | ⟨i, j, hi, hj, hi4, h⟩
  · rw [h, if_neg (by decide), if_neg (by decide), if_neg (by decide), if_neg (by decide), if_neg (by decide), if_neg (by decide)]
  · have d := dg_lt c i
    have ci : (nI i).toNatClampNeg = i := nI_clamp (by omega)
    rcases h with ⟨h, hj3⟩ | ⟨h, hj4⟩ | ⟨h, hj4⟩
    · rw [h, hi, hj, ci, nI_clamp (n := j) (by omega), if_pos (by decide), if_pos (pz_in hi4 (by decide)), e28 i hi4, if_pos rfl]
      unfold f_X2_valuePlace
      rw [pz_bi_some, ixv, if_pos (pz_in (by omega) (by decide)), nI_clamp (by omega)]
    · rw [h, hi, hj, ci, nI_clamp (n := j) (by omega), if_neg (by decide), if_pos (by decide), if_neg (by decide), if_pos rfl]
      unfold f_X5_howManyUnderWay
      rw [pz_0]
      rw [show nI 0 = uw (σ.1 18) (σ.1 19) (σ.1 20) (σ.1 21) c i j 0 from rfl]
      rw [show l_X5_howManyUnderWay_14 pw_FU (nI i) (nI j) (uw (σ.1 18) (σ.1 19) (σ.1 20) (σ.1 21) c i j 0) (uw (σ.1 18) (σ.1 19) (σ.1 20) (σ.1 21) c i j 0) σ = some (uw (σ.1 18) (σ.1 19) (σ.1 20) (σ.1 21) c i j nl, σ) from ux_l hi4 hj4 e4 hnl (e28 i hi4) (e28 j hj4) pw_FU 0 (by omega) (by unfold pw_FU; omega)]
      rfl
    · rw [h, hi, ci, if_neg (by decide), if_neg (by decide), if_pos (by decide), if_pos (pz_in hi4 (by decide)), e28 i hi4, if_neg (by decide), if_neg (by decide), if_pos rfl]
theorem add_m1 {n : Nat} (h : 0 < n) : nI n + (-1 : Int32) = nI (n - 1) := by
  rw [← pz_m1 h]; exact (Int32.sub_eq_add_neg _ _).symm
theorem wx_l {σ0 : pw_St} {m c nl : Nat} (e28 : ∀ p, p < 4 → σ0.1 28 p = nI (dg c p)) (e4 : σ0.1 2 4 = nI nl) (hnl : nl ≤ 24) : ∀ (G : List Pt_) (n k : Nat) (s : List Int32) (h : Nat → Int32), G.length < n → k + G.length ≤ 15 → σ0.1 (4 * m + 54) 3 = nI (k + G.length) → (∀ j x, G[j]? = some x → σ0.1 (4 * m + 55) (k + j) = nI x.1 ∧ σ0.1 (4 * m + 56) (k + j) = x.2.1 ∧ σ0.1 (4 * m + 57) (k + j) = x.2.2) → (∀ x ∈ G, gdp x) → On h s → s.length ≤ 6 → hts 6 G s.length = some 1 → ∃ h2, l_X5_worth_29 n m (nI s.length) (nI k) (pw_rw σ0 29 h) = some (evl (lf σ0 nl c) G s, pw_rw σ0 29 h2)
  | [], n, k, s, h, hn, hk, ep, hG, hg, hO, hs, hh => by
    obtain ⟨n, rfl⟩ : ∃ n', n = n' + 1 := ⟨n - 1, by omega⟩
    refine ⟨h, ?_⟩
    show b_X5_worth_29 (l_X5_worth_29 n) _ _ _ _ = _
    unfold b_X5_worth_29 b_X5_worth_135
    rw [rw_ne (k2 := 4 * m + 54) (by omega), ep, if_pos (nI_le (by simp) (by omega)), if_pos (by decide), rw_get]
    have h1 : s.length = 1 := by
      have : some s.length = some 1 := hh
      exact Option.some.inj this
    match s, h1, hO with
    | [v], _, hO =>
      show some (h 0, _) = some (v, _)
      rw [show h 0 = v from hO.1]
  | x :: G, n, k, s, h, hn, hk, ep, hG, hg, hO, hs, hh => by
    obtain ⟨n, rfl⟩ : ∃ n', n = n' + 1 := ⟨n - 1, by omega⟩
    have hlen : (x :: G).length = G.length + 1 := rfl
    rw [hlen] at hn hk ep
    have g1 : σ0.1 (4 * m + 55) k = nI x.1 := (hG 0 x rfl).1
    have g2 : σ0.1 (4 * m + 56) k = x.2.1 := (hG 0 x rfl).2.1
    have g3 : σ0.1 (4 * m + 57) k = x.2.2 := (hG 0 x rfl).2.2
    have hgx := hg x (List.mem_cons_self ..)
    have hx31 : x.1 < 2 ^ 31 := by
      rcases hgx with hh | hh | ⟨i, j, _, _, _, hh⟩
      · omega
      · omega
      · rcases hh with hh | hh | hh <;> omega
    have hG' : ∀ j y, G[j]? = some y → σ0.1 (4 * m + 55) (k + 1 + j) = nI y.1 ∧ σ0.1 (4 * m + 56) (k + 1 + j) = y.2.1 ∧ σ0.1 (4 * m + 57) (k + 1 + j) = y.2.2 := by
      intro j y hy
      have := hG (j + 1) y hy
      rw [show k + 1 + j = k + (j + 1) by omega]; exact this
    have hg' : ∀ y ∈ G, gdp y := fun y hy => hg y (List.mem_cons_of_mem _ hy)
    have ep' : σ0.1 (4 * m + 54) 3 = nI (k + 1 + G.length) := by rw [ep]; congr 1; omega
    have hin : pw_in (nI k) 15 = true := pz_in (by omega) (by decide)
    have hck : (nI k).toNatClampNeg = k := nI_clamp (by omega)
    have hh' : (if x.1 < 7 then (if 2 ≤ s.length then hts 6 G (s.length - 1) else none) else if x.1 = 7 then (if 1 ≤ s.length then hts 6 G s.length else none) else (if s.length < 6 then hts 6 G (s.length + 1) else none)) = some 1 := hh
    rw [show l_X5_worth_29 (n + 1) m (nI s.length) (nI k) (pw_rw σ0 29 h) = b_X5_worth_29 (l_X5_worth_29 n) m (nI s.length) (nI k) (pw_rw σ0 29 h) from rfl]
    unfold b_X5_worth_29
    rw [rw_ne (k2 := 4 * m + 54) (by omega), ep, if_neg (nI_ge (by omega) (by omega)), if_pos hin, hck, rw_ne (k2 := 4 * m + 55) (by omega), g1, pz_sides _ hx31, pz_bi_some]
    by_cases c1 : x.1 < 7
    · rw [if_pos c1] at hh'
      by_cases c2 : 2 ≤ s.length
      · rw [if_pos c2] at hh'
        match s, c2, hO, hs, hh' with
        | b :: a :: r, _, hO, hs, hh' =>
          obtain ⟨o1, o2, o3⟩ := hO
          have o1' : h (r.length + 1) = b := o1
          have hs' : r.length + 2 ≤ 6 := hs
          have hsd : sid x.1 = 2 := if_pos c1
          have e3 : nI (b :: a :: r).length + ((1 : Int32) - nI (sid x.1)) = nI (r.length + 1) := by rw [hsd]; exact add_m1 (n := r.length + 2) (by omega)
          rw [e3, if_neg (show ¬ (7 : Int32) ≤ nI x.1 from nI_ge (b := 7) c1 (by decide)), if_pos (pz_in (by omega) (by decide)), nI_clamp (n := r.length + 1) (by omega), rw_get, o1']
          unfold b_X5_worth_74
          rw [if_pos (show nI x.1 ≤ (7 : Int32) from nI_le (b := 7) (by omega) (by decide)), pz_m1 (by omega), show r.length + 1 - 1 = r.length by omega, if_pos (pz_in (by omega) (by decide)), nI_clamp (n := r.length) (by omega), rw_get, show h r.length = a from o2, pz_reck a b _ c1, pz_bi_some]
          unfold b_X5_worth_128
          rw [if_pos (pz_in (by omega) (by decide)), pz_lt, nI_clamp (n := r.length) (by omega), rw_sM, rw_get, rw_rw, nI_1]
          obtain ⟨h2, k2⟩ := wx_l e28 e4 hnl G n (k + 1) (op2 x.1 a b :: r) (upd h r.length (op2 x.1 a b)) (by omega) (by omega) ep' hG' hg' (On_push o3) (by show r.length + 1 ≤ 6; omega) hh'
          refine ⟨h2, ?_⟩
          rw [show evl (lf σ0 nl c) (x :: G) (b :: a :: r) = evl (lf σ0 nl c) G (op2 x.1 a b :: r) by show (if x.1 < 7 then _ else _) = _; rw [if_pos c1]]
          exact k2
      · rw [if_neg c2] at hh'; cases hh'
    · rw [if_neg c1] at hh'
      have h7 : (7 : Int32) ≤ nI x.1 := nI_le (a := 7) (by omega) hx31
      rw [if_pos h7]
      by_cases c3 : x.1 = 7
      · rw [if_pos c3] at hh'
        by_cases c2 : 1 ≤ s.length
        · rw [if_pos c2] at hh'
          match s, c2, hO, hs, hh' with
          | a :: r, _, hO, hs, hh' =>
            obtain ⟨o2, o3⟩ := hO
            have hs' : r.length + 1 ≤ 6 := hs
            have hsd : sid x.1 = 1 := by unfold sid; rw [if_neg c1, if_pos c3]
            have e3 : nI (a :: r).length + ((1 : Int32) - nI (sid x.1)) = nI (r.length + 1) := by rw [hsd]; exact Int32.add_zero _
            rw [e3]
            unfold b_X5_worth_74
            rw [if_pos (show nI x.1 ≤ (7 : Int32) by rw [c3]; decide), pz_m1 (by omega), show r.length + 1 - 1 = r.length by omega, if_pos (pz_in (by omega) (by decide)), nI_clamp (n := r.length) (by omega), rw_get, show h r.length = a from o2, c3, pz_not a 0, pz_bi_some]
            unfold b_X5_worth_128
            rw [if_pos (pz_in (by omega) (by decide)), pz_lt, nI_clamp (n := r.length) (by omega), rw_sM, rw_get, rw_rw, nI_1]
            obtain ⟨h2, k2⟩ := wx_l e28 e4 hnl G n (k + 1) ((if a = 0 then 1 else 0) :: r) (upd h r.length (if a = 0 then 1 else 0)) (by omega) (by omega) ep' hG' hg' (On_push o3) (by show r.length + 1 ≤ 6; omega) hh'
            refine ⟨h2, ?_⟩
            rw [show evl (lf σ0 nl c) (x :: G) (a :: r) = evl (lf σ0 nl c) G ((if a = 0 then 1 else 0) :: r) by show (if x.1 < 7 then _ else if x.1 = 7 then _ else _) = _; rw [if_neg c1, if_pos c3]]
            exact k2
        · rw [if_neg c2] at hh'; cases hh'
      · rw [if_neg c3] at hh'
        by_cases c2 : s.length < 6
        · rw [if_pos c2] at hh'
          have hsd : sid x.1 = 0 := by unfold sid; rw [if_neg c1, if_neg c3]
          have e3 : nI s.length + ((1 : Int32) - nI (sid x.1)) = nI (s.length + 1) := by rw [hsd]; exact nI_1 ..
          rw [e3]
          unfold b_X5_worth_74
          rw [if_neg (show ¬ nI x.1 ≤ (7 : Int32) from nI_ge (a := 7) (by omega) hx31), if_pos hin, if_pos hin, hck, rw_ne (k2 := 4 * m + 56) (by omega), rw_ne (k2 := 4 * m + 57) (by omega), g2, g3]
          rw [pz_seen (σ := pw_rw σ0 29 h) (c := c) (nl := nl) hgx (by omega) e28 e4 hnl, pz_bi_some]
          unfold b_X5_worth_128
          rw [pz_m1 (by omega), show s.length + 1 - 1 = s.length by omega, if_pos (pz_in c2 (by decide)), pz_lt, nI_clamp (n := s.length) (by omega), rw_sM, rw_get, rw_rw, nI_1]
          rw [show lf (pw_rw σ0 29 h) nl c x = lf σ0 nl c x from rfl]
          obtain ⟨h2, k2⟩ := wx_l e28 e4 hnl G n (k + 1) (lf σ0 nl c x :: s) (upd h s.length (lf σ0 nl c x)) (by omega) (by omega) ep' hG' hg' (On_push hO) (by show s.length + 1 ≤ 6; omega) hh'
          refine ⟨h2, ?_⟩
          rw [show evl (lf σ0 nl c) (x :: G) s = evl (lf σ0 nl c) G (lf σ0 nl c x :: s) by show (if x.1 < 7 then _ else if x.1 = 7 then _ else _) = _; rw [if_neg c1, if_neg c3]]
          exact k2
        · rw [if_neg c2] at hh'; cases hh'
/-- what a formula is worth at a cut -/
def wv (σ : pw_St) (nl : Nat) (F : List Pt_) (c : Nat) : Int32 := evl (lf σ nl c) F []
theorem wx_cnt {m c : Nat} (hc : c < 2401) : ∀ (n p : Nat) (σ : pw_St), p ≤ 4 → 4 - p < n → (∀ q, q < p → σ.1 28 q = nI (dg c q)) → ∃ r, l_X5_worth_2 n m (nI c) (nI p) σ = b_X5_worth_24 m (pw_rw σ 28 r) ∧ ∀ q, q < 4 → r q = nI (dg c q) := by
  intro n
  induction n with
  | zero => intro p σ _ h; omega
  | succ n ih =>
    intro p σ h1 h2 hq
    rw [show l_X5_worth_2 (n + 1) m (nI c) (nI p) σ = b_X5_worth_2 (l_X5_worth_2 n) m (nI c) (nI p) σ from rfl]
    unfold b_X5_worth_2
    by_cases h : p = 4
    · subst h
      rw [if_pos (by decide)]
      exact ⟨σ.1 28, by rw [rw_id], hq⟩
    · have hp : p < 4 := by omega
      rw [if_neg (show ¬ (4 : Int32) ≤ nI p from nI_ge (b := 4) hp (by decide)), pz_share σ (by omega) (by omega), pz_bi_some, if_pos (pz_in hp (by decide)), pz_lt, nI_clamp (by omega), rw_sM, nI_1]
      obtain ⟨r, k1, k2⟩ := ih (p + 1) (pw_rw σ 28 (upd (σ.1 28) p (nI (dg c p)))) (by omega) (by omega) (fun q hq2 => by
        rw [rw_get]
        by_cases hqp : q = p
        · subst hqp; exact pk_us
        · rw [pk_un hqp]; exact hq q (by omega))
      exact ⟨r, by rw [k1, rw_rw], k2⟩
theorem wx {σ : pw_St} {m c nl : Nat} {F : List Pt_} (hc : c < 2401) (e4 : σ.1 2 4 = nI nl) (hnl : nl ≤ 24) (hF : RepX σ m F) (hw : wfF F 6) : ∃ r h, f_X5_worth m (nI c) σ = some (wv σ nl F c, pw_rw (pw_rw σ 28 r) 29 h) := by
  unfold f_X5_worth
  obtain ⟨r, k1, k2⟩ := wx_cnt (m := m) hc pw_FU 0 σ (by omega) (by unfold pw_FU; omega) (fun q hq => by omega)
  rw [pz_0, k1]
  unfold b_X5_worth_24
  obtain ⟨h1, h2⟩ := hF
  obtain ⟨w1, w2, w3⟩ := hw
  obtain ⟨h, k⟩ := wx_l (σ0 := pw_rw σ 28 r) (m := m) (c := c) (nl := nl) (fun p hp => k2 p hp) e4 hnl F pw_FU 0 [] (σ.1 29) (by unfold pw_FU; omega) (by omega) (by rw [rw_ne (by omega), Nat.zero_add]; exact h1) (fun j x hx => by rw [rw_ne (by omega), rw_ne (by omega), rw_ne (by omega), Nat.zero_add]; exact h2 j x hx) w2 trivial (by simp) w1
  refine ⟨r, h, ?_⟩
  rw [show pw_rw (pw_rw σ 28 r) 29 (σ.1 29) = pw_rw σ 28 r from rw_id (σ := pw_rw σ 28 r) (k := 29)] at k
  exact k
