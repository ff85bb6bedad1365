-- PURE PART: the reference's worthOf
theorem nm_at {σ : pw_St} {np nl tot i j c : Nat} {ev g : Nat → Nat} (hH : HInv σ np nl tot ev g) (hC : isC ev c) (hi : i < 4) (hj : j < 3) (h : Nat → Int32) : f_X11_nameAt (nI i) (nI j) (nI c) (pw_rw σ 50 h) = some (σ.1 17 ((i * 7 + dg c i) * 3 + j), pw_rw σ 50 h) := by
  obtain ⟨⟨b1, b2, b3, b4, b5, b6, b7, b8, b9, b10, b11⟩, hR, hO, hV⟩ := hH
  rw [hV.1 i hi (dg c i) (hC.2 i hi) j hj]
  unfold f_X11_nameAt
  have d6 : dg c i ≤ 6 := by have := dg_lt c i; omega
  by_cases hn : i < np
  · rw [pz_0]
    exact nm_l (σ := pw_rw σ 50 h) hC.1 hn b1 b6 d6 pw_FU 0 (by omega) (by unfold pw_FU; omega)
  · have h0 : dg c i = 0 := by
      have := hC.2 i hi
      rw [b4 i (by omega) hi] at this
      omega
    rw [h0, show pw_FU = 2999 + 1 from rfl]
    show b_X11_nameAt_6 (l_X11_nameAt_6 2999) _ _ _ _ _ _ = _
    unfold b_X11_nameAt_6
    rw [pz_part _ (by have := hC.1; omega) hi, pz_bi_some, h0, if_pos (by decide)]
    rfl
theorem um_at {σ : pw_St} {np nl tot i j c : Nat} {ev g : Nat → Nat} (hH : HInv σ np nl tot ev g) (hC : isC ev c) (hi : i < 4) (hj : j < 4) (h : Nat → Int32) : f_X11_underWay (nI i) (nI j) (nI c) (pw_rw σ 50 h) = some (uw (σ.1 18) (σ.1 19) (σ.1 20) (σ.1 21) c i j nl, pw_rw σ 50 h) := by
  have hnl := nl_24 hH
  obtain ⟨⟨b1, b2, b3, b4, b5, b6, b7, b8, b9, b10, b11⟩, ⟨r1, r2, r3, r4, r5, r6, r7, r8, r9⟩, hO, hV⟩ := hH
  unfold f_X11_underWay
  have := um_l (σ := pw_rw σ 50 h) hC.1 hi hj b10 hnl.1 pw_FU 0 (by omega) (by unfold pw_FU; omega)
  rw [← r6, ← r7, ← r8, ← r9, pz_0]
  exact this
theorem wm_l {σ0 : pw_St} {d c np nl tot : Nat} {ev g : Nat → Nat} (hH : HInv σ0 np nl tot ev g) (hC : isC ev c) (hd : d < 16) : ∀ (G : List Pt_) (n k : Nat) (s : List Int32) (h : Nat → Int32), G.length < n → k + G.length ≤ 15 → σ0.1 49 d = nI (k + G.length) → (∀ j x, G[j]? = some x → σ0.1 46 (15 * d + (k + j)) = nI (enc x.1) ∧ (8 ≤ x.1 → σ0.1 47 (15 * d + (k + j)) = x.2.1 ∧ σ0.1 48 (15 * d + (k + j)) = x.2.2)) → (∀ x ∈ G, gdp x) → On h s → s.length ≤ 6 → hts 6 G s.length = some 1 → ∃ h2, l_X11_worthOf_8 n (nI d) (nI c) (nI s.length) (nI (15 * d + k)) (pw_rw σ0 50 h) = some (evl (lf σ0 nl c) G s, pw_rw σ0 50 h2)
  | [], n, k, s, h, hn, hk, ep, hG, hg, hO, hs, hh => by
    obtain ⟨n, rfl⟩ : ∃ n', n = n' + 1 := ⟨n - 1, by omega⟩
    refine ⟨h, ?_⟩
    show b_X11_worthOf_8 (l_X11_worthOf_8 n) _ _ _ _ _ = _
    unfold b_X11_worthOf_8 b_X11_worthOf_208
    rw [if_pos (pz_in hd (by decide)), nI_clamp (n := d) (by omega), rw_ne (k2 := 49) (by omega), ep, ix15, if_pos (nI_le (by simp) (by simp at hk; omega)), if_pos (by decide), rw_get]
    have h1 : s.length = 1 := by
      have : some s.length = some 1 := hh
      exact Option.some.inj this
    match s, h1, hO with
    | [v], _, hO =>
      show some (h 0, _) = some (v, _)
      rw [show h 0 = v from hO.1]
  | x :: G, n, k, s, h, hn, hk, ep, hG, hg, hO, hs, hh => by
    obtain ⟨n, rfl⟩ : ∃ n', n = n' + 1 := ⟨n - 1, by omega⟩
    have hlen : (x :: G).length = G.length + 1 := rfl
    rw [hlen] at hn hk ep
    have g1 : σ0.1 46 (15 * d + k) = nI (enc x.1) := (hG 0 x rfl).1
    have g2 : 8 ≤ x.1 → σ0.1 47 (15 * d + k) = x.2.1 ∧ σ0.1 48 (15 * d + k) = x.2.2 := (hG 0 x rfl).2
    have hgx := hg x (List.mem_cons_self ..)
    have hG' : ∀ j y, G[j]? = some y → σ0.1 46 (15 * d + (k + 1 + j)) = nI (enc y.1) ∧ (8 ≤ y.1 → σ0.1 47 (15 * d + (k + 1 + j)) = y.2.1 ∧ σ0.1 48 (15 * d + (k + 1 + j)) = y.2.2) := by
      intro j y hy
      have := hG (j + 1) y hy
      rw [show k + 1 + j = k + (j + 1) by omega]; exact this
    have hg' : ∀ y ∈ G, gdp y := fun y hy => hg y (List.mem_cons_of_mem _ hy)
    have ep' : σ0.1 49 d = nI (k + 1 + G.length) := by rw [ep]; congr 1; omega
    have hin : pw_in (nI (15 * d + k)) 240 = true := pz_in (by omega) (by decide)
    have hck : (nI (15 * d + k)).toNatClampNeg = 15 * d + k := nI_clamp (by omega)
    have hh' : (if x.1 < 7 then (if 2 ≤ s.length then hts 6 G (s.length - 1) else none) else if x.1 = 7 then (if 1 ≤ s.length then hts 6 G s.length else none) else (if s.length < 6 then hts 6 G (s.length + 1) else none)) = some 1 := hh
    rw [show l_X11_worthOf_8 (n + 1) (nI d) (nI c) (nI s.length) (nI (15 * d + k)) (pw_rw σ0 50 h) = b_X11_worthOf_8 (l_X11_worthOf_8 n) (nI d) (nI c) (nI s.length) (nI (15 * d + k)) (pw_rw σ0 50 h) from rfl]
    unfold b_X11_worthOf_8
    rw [if_pos (pz_in hd (by decide)), nI_clamp (n := d) (by omega), rw_ne (k2 := 49) (by omega), ep, ix15, if_neg (nI_ge (by omega) (by omega)), if_pos hin, hck, rw_ne (k2 := 46) (by omega), g1]
    by_cases c1 : x.1 < 7
    · have he : enc x.1 = x.1 := if_pos (by omega)
      rw [he, if_neg (show ¬ nI x.1 = 7 from fun e => by have := (nI_eq (a := x.1) (b := 7) (by omega) (by decide)).mp e; omega), if_neg (show ¬ (7 : Int32) ≤ nI x.1 from nI_ge (b := 7) c1 (by decide))]
      rw [if_pos c1] at hh'
      by_cases c2 : 2 ≤ s.length
      · rw [if_pos c2] at hh'
        match s, c2, hO, hs, hh' with
        | b :: a :: r, _, hO, hs, hh' =>
          obtain ⟨o1, o2, o3⟩ := hO
          have o1' : h (r.length + 1) = b := o1
          have hs' : r.length + 2 ≤ 6 := hs
          have e3 : nI (b :: a :: r).length + (-1 : Int32) = nI (r.length + 1) := add_m1 (n := r.length + 2) (by omega)
          rw [e3, pz_m1 (by omega), show r.length + 1 - 1 = r.length by omega, if_pos (pz_in (by omega) (by decide)), if_pos (pz_in (by omega) (by decide)), nI_clamp (n := r.length) (by omega), nI_clamp (n := r.length + 1) (by omega), rw_get, show h r.length = a from o2, o1', pz_give a b _ c1, pz_bi_some, if_pos (pz_in (by omega) (by decide)), pz_lt, rw_sM, rw_get, rw_rw, nI_1]
          obtain ⟨h2, k2⟩ := wm_l hH hC hd G n (k + 1) (op2 x.1 a b :: r) (upd h r.length (op2 x.1 a b)) (by omega) (by omega) ep' hG' hg' (On_push o3) (by show r.length + 1 ≤ 6; omega) hh'
          refine ⟨h2, ?_⟩
          rw [show evl (lf σ0 nl c) (x :: G) (b :: a :: r) = evl (lf σ0 nl c) G (op2 x.1 a b :: r) by show (if x.1 < 7 then _ else _) = _; rw [if_pos c1]]
          exact k2
      · rw [if_neg c2] at hh'; cases hh'
    · rw [if_neg c1] at hh'
      by_cases c3 : x.1 = 7
      · have he : enc x.1 = 7 := by rw [c3]; rfl
        rw [he, if_pos (show nI 7 = (7 : Int32) from rfl)]
        rw [if_pos c3] at hh'
        by_cases c2 : 1 ≤ s.length
        · rw [if_pos c2] at hh'
          match s, c2, hO, hs, hh' with
          | a :: r, _, hO, hs, hh' =>
            obtain ⟨o2, o3⟩ := hO
            have hs' : r.length + 1 ≤ 6 := hs
            have e3 : nI (a :: r).length - (1 : Int32) = nI r.length := pz_m1 (n := r.length + 1) (by omega)
            rw [e3, if_pos (pz_in (by omega) (by decide)), nI_clamp (n := r.length) (by omega), rw_get, show h r.length = a from o2]
            have key63 : ∀ v : Int32, v = (if a = 0 then 1 else 0) → ∃ h2, b_X11_worthOf_63 (l_X11_worthOf_8 n) (nI d) (nI c) (nI (a :: r).length) (nI (15 * d + k)) v (nI r.length) (pw_rw σ0 50 h) = some (evl (lf σ0 nl c) (x :: G) (a :: r), pw_rw σ0 50 h2) := by
              intro v hv
              subst hv
              unfold b_X11_worthOf_63
              rw [if_pos (pz_in (by omega) (by decide)), pz_lt, nI_clamp (n := r.length) (by omega), rw_sM, rw_get, rw_rw, nI_1]
              obtain ⟨h2, k2⟩ := wm_l hH hC hd G n (k + 1) ((if a = 0 then 1 else 0) :: r) (upd h r.length (if a = 0 then 1 else 0)) (by omega) (by omega) ep' hG' hg' (On_push o3) (by show r.length + 1 ≤ 6; omega) hh'
              refine ⟨h2, ?_⟩
              rw [show evl (lf σ0 nl c) (x :: G) (a :: r) = evl (lf σ0 nl c) G ((if a = 0 then 1 else 0) :: r) by show (if x.1 < 7 then _ else if x.1 = 7 then _ else _) = _; rw [if_neg c1, if_pos c3]]
              exact k2
            by_cases ha : a = 0
            · rw [if_pos ha]; exact key63 1 (by rw [if_pos ha])
            · rw [if_neg ha]; exact key63 0 (by rw [if_neg ha])
        · rw [if_neg c2] at hh'; cases hh'
      · rw [if_neg c3] at hh'
        by_cases c2 : s.length < 6
        · rw [if_pos c2] at hh'
          have key198 : ∀ v : Int32, v = lf σ0 nl c x → ∃ h2, b_X11_worthOf_198 (l_X11_worthOf_8 n) (nI d) (nI c) (nI s.length) (nI (15 * d + k)) v (nI s.length) (pw_rw σ0 50 h) = some (evl (lf σ0 nl c) (x :: G) s, pw_rw σ0 50 h2) := by
            intro v hv
            subst hv
            unfold b_X11_worthOf_198
            rw [if_pos (pz_in (by omega) (by decide)), pz_lt, nI_clamp (n := s.length) (by omega), rw_sM, rw_get, rw_rw, nI_1, nI_1]
            obtain ⟨h2, k2⟩ := wm_l hH hC hd G n (k + 1) (lf σ0 nl c x :: s) (upd h s.length (lf σ0 nl c x)) (by omega) (by omega) ep' hG' hg' (On_push hO) (by show s.length + 1 ≤ 6; omega) hh'
            refine ⟨h2, ?_⟩
            rw [show evl (lf σ0 nl c) (x :: G) s = evl (lf σ0 nl c) G (lf σ0 nl c x :: s) by show (if x.1 < 7 then _ else if x.1 = 7 then _ else _) = _; rw [if_neg c1, if_neg c3]]
            exact k2
          obtain ⟨g47, g48⟩ := g2 (by omega)
          have hr47 : (pw_rw σ0 50 h).1 47 (15 * d + k) = x.2.1 := g47
          have hr48 : (pw_rw σ0 50 h).1 48 (15 * d + k) = x.2.2 := g48
          rw [hr47, hr48]
          rcases gdp_8 hgx (by omega) with hk11 | ⟨i, j, hi, hj, hi4, hkk⟩
          · have he : enc x.1 = 10 := by rw [hk11]; rfl
            rw [he, if_neg (by decide), if_pos (by decide), if_pos (show nI 10 = (10 : Int32) from rfl), if_pos hin]
            refine key198 _ ?_
            unfold lf
            rw [hk11, if_neg (by decide), if_neg (by decide), if_neg (by decide)]
          · have ci : (nI i).toNatClampNeg = i := nI_clamp (by omega)
            rcases hkk with ⟨hk8, hj3⟩ | ⟨hk8, hj4⟩ | ⟨hk8, hj4⟩
            · have he : enc x.1 = 11 := by rw [hk8]; rfl
              rw [he, if_neg (by decide), if_pos (by decide), if_neg (by decide), if_pos (show nI 11 = (11 : Int32) from rfl), if_pos hin, if_pos hin, hi, hj, nm_at hH hC hi4 hj3 h, pz_bi_some]
              refine key198 _ ?_
              unfold lf
              rw [hk8, hi, hj, if_pos rfl, ci, nI_clamp (n := j) (by omega)]
            · have he : enc x.1 = 12 := by rw [hk8]; rfl
              rw [he, if_neg (by decide), if_pos (by decide), if_neg (by decide), if_neg (by decide), if_pos (show nI 12 = (12 : Int32) from rfl), if_pos hin, if_pos hin, hi, hj, um_at hH hC hi4 hj4 h, pz_bi_some]
              refine key198 _ ?_
              unfold lf
              rw [hk8, hi, hj, if_neg (by decide), if_pos rfl, ci, nI_clamp (n := j) (by omega)]
            · have he : enc x.1 = 13 := by rw [hk8]; rfl
              rw [he, if_neg (by decide), if_pos (by decide), if_neg (by decide), if_neg (by decide), if_neg (by decide), if_pos hin, hi, pz_part _ (by have := hC.1; omega) hi4, pz_bi_some]
              refine key198 _ ?_
              unfold lf
              rw [hk8, hi, if_neg (by decide), if_neg (by decide), if_pos rfl, ci]
        · rw [if_neg c2] at hh'; cases hh'
theorem wm {σ : pw_St} {d c np nl tot : Nat} {ev g : Nat → Nat} {F : List Pt_} (hH : HInv σ np nl tot ev g) (hC : isC ev c) (hd : d < 16) (hF : RepM σ d F) (hw : wfF F 6) : ∃ h, f_X11_worthOf (nI d) (nI c) σ = some (wv σ nl F c, pw_rw σ 50 h) := by
  unfold f_X11_worthOf
  obtain ⟨h1, h2⟩ := hF
  obtain ⟨w1, w2, w3⟩ := hw
  obtain ⟨h, k⟩ := wm_l hH hC hd F pw_FU 0 [] (σ.1 50) (by unfold pw_FU; omega) (by omega) (by rw [Nat.zero_add]; exact h1) (fun j x hx => by rw [Nat.zero_add]; exact h2 j x hx) w2 trivial (by simp) w1
  refine ⟨h, ?_⟩
  rw [rw_id] at k
  rw [show (15 : Int32) * nI d = nI (15 * d + 0) by rw [show (15 : Int32) = nI 15 from rfl, pk_mul]; rfl]
  exact k
/-- rows that the worth of a formula hangs on -/
theorem wv_cong {σ σ2 : pw_St} {nl c : Nat} {F : List Pt_} (e17 : σ2.1 17 = σ.1 17) (e18 : σ2.1 18 = σ.1 18) (e19 : σ2.1 19 = σ.1 19) (e20 : σ2.1 20 = σ.1 20) (e21 : σ2.1 21 = σ.1 21) : wv σ2 nl F c = wv σ nl F c := by
  unfold wv
  rw [show lf σ2 nl c = lf σ nl c by funext x; unfold lf; rw [e17, e18, e19, e20, e21]]
