-- PURE PART: the net made anew
theorem rf_fill (σ : pw_St) (f : Nat → Int32) : ∀ (n i : Nat), i ≤ 25 → 25 - i < n → l_J7_fill_53178_5 n 0 (nI i) (nI 25) (pw_rw σ 24 (fun j => if j < i then 0 else f j)) = some (pw_rw σ 24 (fun j => if j < 25 then 0 else f j)) := by
  intro n
  induction n with
  | zero => intro i _ h; omega
  | succ n ih =>
    intro i h1 h2
    show b_J7_fill_53178_5 (l_J7_fill_53178_5 n) _ _ _ _ = _
    unfold b_J7_fill_53178_5
    by_cases h : i = 25
    · subst h
      rw [if_pos (nI_le (Nat.le_refl _) (by decide))]
    · rw [if_neg (nI_ge (show i < 25 by omega) (by decide)), if_pos (pz_in (show i < 25 by omega) (by decide)), pz_lt, rw_sM, rw_get, rw_rw, nI_clamp (by omega), pz_1, nI_add]
      have e : upd (fun j => if j < i then (0 : Int32) else f j) i 0 = fun j => if j < i + 1 then 0 else f j := by
        funext j
        unfold upd
        by_cases hj : j = i
        · rw [if_pos hj, if_pos (by omega)]
        · rw [if_neg hj]
          show (if j < i then (0 : Int32) else f j) = _
          by_cases hl : j < i
          · rw [if_pos hl, if_pos (by omega)]
          · rw [if_neg hl, if_neg (by omega)]
      rw [e]
      exact ih (i + 1) (by omega) (by omega)
theorem pz_fill (σ : pw_St) : f_J7_fill_53178 0 σ = some (pw_rw σ 24 (fun j => if j < 25 then 0 else σ.1 24 j)) := by
  unfold f_J7_fill_53178
  have := rf_fill σ (σ.1 24) pw_FU 0 (by omega) (by unfold pw_FU; omega)
  rw [show (fun j => if j < 0 then (0 : Int32) else σ.1 24 j) = σ.1 24 by funext j; rw [if_neg (by omega)], rw_id] at this
  exact this
/-- row 24 while it counts -/
def cnR (P : Nat → Bool) (g : Nat → Int32) (c : Nat) : Nat → Int32 := fun s => if s < 25 then nI (cs P s c) else g s
theorem cnR_s {P : Nat → Bool} {g : Nat → Int32} {c : Nat} (hp : P c = true) : upd (cnR P g c) (sz c) (nI (cs P (sz c) c + 1)) = cnR P g (c + 1) := by
  have hz := sz_le c
  funext s
  unfold upd cnR cs
  rw [ct_s]
  by_cases h : s = sz c
  · subst h
    rw [if_pos rfl, if_pos (by omega)]
    simp [hp]
  · rw [if_neg h]
    try dsimp only
    simp [hp, show ¬ sz c = s from fun e => h e.symm]
theorem cnR_n {P : Nat → Bool} {g : Nat → Int32} {c : Nat} (hp : P c = false) : cnR P g (c + 1) = cnR P g c := by
  funext s
  unfold cnR cs
  rw [ct_s]
  simp [hp]
theorem sb_count {σ : pw_St} {P : Nat → Bool} {w : Nat} (g : Nat → Int32) (hw : w < 2401) (e6 : σ.1 3 6 = nI w) (e23 : ∀ c, c < 2401 → σ.1 23 c = if P c then 1 else 0) : ∀ (n c : Nat), c ≤ w + 1 → w + 1 - c < n → l_X6_sortBySize_10 n (nI c) (pw_rw σ 24 (cnR P g c)) = b_X6_sortBySize_46 (pw_rw σ 24 (cnR P g (w + 1))) := by
  intro n
  induction n with
  | zero => intro c _ h; omega
  | succ n ih =>
    intro c h1 h2
    show b_X6_sortBySize_10 (l_X6_sortBySize_10 n) _ _ = _
    unfold b_X6_sortBySize_10
    rw [show (pw_rw σ 24 (cnR P g c)).1 3 6 = nI w from e6]
    by_cases h : c = w + 1
    · subst h
      rw [if_pos (nI_lt (by omega) (by omega))]
    · have hc : c < 2401 := by omega
      have hz := sz_le c
      rw [if_neg (nI_nlt (by omega) (by omega)), if_pos (pz_in hc (by decide)), nI_clamp (n := c) (by omega), show (pw_rw σ 24 (cnR P g c)).1 23 c = if P c then 1 else 0 from e23 c hc, pz_1, nI_add]
      cases hp : P c
      · rw [if_pos (show (if false = true then nI 1 else (0 : Int32)) = 0 from rfl), ← cnR_n hp]
        exact ih (c + 1) (by omega) (by omega)
      · rw [if_neg (show ¬ (if true = true then nI 1 else (0 : Int32)) = 0 by decide), pz_size6 _ (by omega), pz_bi_some, if_pos (pz_in (by omega) (by decide)), if_pos (pz_in (by omega) (by decide)), pz_lt, rw_sM, rw_get, rw_rw, nI_clamp (n := sz c) (by omega), show cnR P g c (sz c) = nI (cs P (sz c) c) by unfold cnR; rw [if_pos (by omega)], nI_add, cnR_s hp]
        exact ih (c + 1) (by omega) (by omega)
/-- row 24 while the sums are put in -/
def suR (P : Nat → Bool) (g : Nat → Int32) (s : Nat) : Nat → Int32 := fun r => if r < s then nI (le_ P r) else cnR P g 2401 r
theorem sb_sum {σ : pw_St} {P : Nat → Bool} (g r3 : Nat → Int32) : ∀ (n s : Nat), s ≤ 25 → 25 - s < n → l_X6_sortBySize_53 n (nI s) (pw_rw (pw_rw σ 24 (suR P g s)) 3 (upd r3 5 (nI (le_ P s)))) = l_X6_sortBySize_94 pw_FU (nI 0) (pw_rw (pw_rw σ 24 (suR P g 25)) 3 (upd r3 5 (nI (le_ P 25)))) := by
  intro n
  induction n with
  | zero => intro s _ h; omega
  | succ n ih =>
    intro s h1 h2
    show b_X6_sortBySize_53 (l_X6_sortBySize_53 n) _ _ = _
    unfold b_X6_sortBySize_53
    by_cases h : s = 25
    · subst h
      rw [if_pos (by decide)]
      rfl
    · have hs : s < 25 := by omega
      rw [if_neg (show ¬ (24 : Int32) < nI s from nI_nlt (b := s) (a := 24) (by omega) (by decide)), if_pos (pz_in hs (by decide)), if_pos (pz_in hs (by decide)), pz_lt, pz_lt, nI_clamp (n := s) (by omega), pz_1, nI_add]
      rw [show (pw_rw (pw_rw σ 24 (suR P g s)) 3 (upd r3 5 (nI (le_ P s)))).1 3 5 = nI (le_ P s) by rw [rw_get]; exact pk_us]
      rw [show (pw_rw (pw_rw σ 24 (suR P g s)) 3 (upd r3 5 (nI (le_ P s)))).1 24 s = nI (cs P s 2401) by show suR P g s s = _; unfold suR cnR; rw [if_neg (by omega), if_pos hs]]
      rw [rw_sM, rw_sM]
      have e1 : pw_rw (pw_rw (pw_rw σ 24 (suR P g s)) 3 (upd r3 5 (nI (le_ P s)))) 24 (upd ((pw_rw (pw_rw σ 24 (suR P g s)) 3 (upd r3 5 (nI (le_ P s)))).1 24) s (nI (le_ P s))) = pw_rw (pw_rw σ 24 (suR P g (s + 1))) 3 (upd r3 5 (nI (le_ P s))) := by
        rw [rw_swap (k := 3) (k2 := 24) (by decide), rw_rw]
        congr 2
        funext r
        show upd (suR P g s) s (nI (le_ P s)) r = _
        unfold upd suR
        by_cases hr : r = s
        · subst hr; rw [if_pos rfl, if_pos (by omega)]
        · rw [if_neg hr]
          try dsimp only
          by_cases hl : r < s
          · rw [if_pos hl, if_pos (by omega)]
          · rw [if_neg hl, if_neg (by omega)]
      rw [e1, rw_get, rw_rw, pk_us, nI_add, ← le_s]
      have e2 : upd (upd r3 5 (nI (le_ P s))) 5 (nI (le_ P (s + 1))) = upd r3 5 (nI (le_ P (s + 1))) := by
        funext j
        unfold upd
        by_cases hj : j = 5
        · rw [if_pos hj, if_pos hj]
        · rw [if_neg hj, if_neg hj, if_neg hj]
      rw [e2]
      exact ih (s + 1) (by omega) (by omega)
/-- row 24 while the cuts are put in -/
def puR (P : Nat → Bool) (g : Nat → Int32) (c : Nat) : Nat → Int32 := fun s => if s < 25 then nI (le_ P s + cs P s c) else g s
theorem puR_s {P : Nat → Bool} {g : Nat → Int32} {c : Nat} (hp : P c = true) : upd (puR P g c) (sz c) (nI (rk P c + 1)) = puR P g (c + 1) := by
  have hz := sz_le c
  funext s
  unfold upd puR rk cs
  rw [ct_s]
  by_cases h : s = sz c
  · subst h
    rw [if_pos rfl, if_pos (by omega)]
    simp [hp]
    congr 1
  · rw [if_neg h]
    try dsimp only
    simp [hp, show ¬ sz c = s from fun e => h e.symm]
theorem puR_n {P : Nat → Bool} {g : Nat → Int32} {c : Nat} (hp : P c = false) : puR P g (c + 1) = puR P g c := by
  funext s
  unfold puR cs
  rw [ct_s]
  simp [hp]
theorem sb_put {σ : pw_St} {P : Nat → Bool} {w : Nat} (g : Nat → Int32) (hw : w < 2401) (e6 : σ.1 3 6 = nI w) (e23 : ∀ c, c < 2401 → σ.1 23 c = if P c then 1 else 0) : ∀ (n c : Nat) (h : Nat → Int32), c ≤ w + 1 → w + 1 - c < n → (∀ d, d < c → P d = true → h (rk P d) = nI d) → ∃ h2 : Nat → Int32, (∀ d, d < w + 1 → P d = true → h2 (rk P d) = nI d) ∧ l_X6_sortBySize_94 n (nI c) (pw_rw (pw_rw σ 24 (puR P g c)) 22 h) = some (pw_rw (pw_rw σ 24 (puR P g (w + 1))) 22 h2) := by
  intro n
  induction n with
  | zero => intro c h _ h2; omega
  | succ n ih =>
    intro c h h1 h2 hh
    have hk : l_X6_sortBySize_94 (n + 1) (nI c) (pw_rw (pw_rw σ 24 (puR P g c)) 22 h) = b_X6_sortBySize_94 (l_X6_sortBySize_94 n) (nI c) (pw_rw (pw_rw σ 24 (puR P g c)) 22 h) := rfl
    rw [hk]
    unfold b_X6_sortBySize_94
    rw [show (pw_rw (pw_rw σ 24 (puR P g c)) 22 h).1 3 6 = nI w from e6]
    by_cases he : c = w + 1
    · subst he
      rw [if_pos (nI_lt (by omega) (by omega))]
      exact ⟨h, hh, rfl⟩
    · have hc : c < 2401 := by omega
      have hz := sz_le c
      rw [if_neg (nI_nlt (by omega) (by omega)), if_pos (pz_in hc (by decide)), nI_clamp (n := c) (by omega), show (pw_rw (pw_rw σ 24 (puR P g c)) 22 h).1 23 c = if P c then 1 else 0 from e23 c hc, pz_1, nI_add]
      cases hp : P c
      · rw [if_pos (show (if false = true then nI 1 else (0 : Int32)) = 0 from rfl), ← puR_n hp]
        exact ih (c + 1) h (by omega) (by omega) (fun d hd hpd => by
          rcases Nat.lt_or_ge d c with h9 | h9
          · exact hh d h9 hpd
          · have : d = c := by omega
            subst this; rw [hp] at hpd; cases hpd)
      · have hr := rk_lt_all P hp hc
        have hr2 := le_2401 P 25
        rw [if_neg (show ¬ (if true = true then nI 1 else (0 : Int32)) = 0 by decide), pz_size6 _ (by omega), pz_bi_some, if_pos (pz_in (by omega) (by decide)), nI_clamp (n := sz c) (by omega)]
        rw [show (pw_rw (pw_rw σ 24 (puR P g c)) 22 h).1 24 (sz c) = nI (rk P c) by show puR P g c (sz c) = _; unfold puR rk; rw [if_pos (by omega)]]
        rw [if_pos (pz_in (by omega) (by decide)), pz_lt, if_pos (pz_in (by omega) (by decide)), if_pos (pz_in (by omega) (by decide)), pz_lt, nI_clamp (n := rk P c) (by omega), show pw_sM (pw_rw (pw_rw σ 24 (puR P g c)) 22 h) 22 (rk P c) (nI c) = pw_rw (pw_rw σ 24 (puR P g c)) 22 (upd h (rk P c) (nI c)) by rw [rw_sM, rw_get, rw_rw], rw_sM]
        rw [show (pw_rw (pw_rw σ 24 (puR P g c)) 22 (upd h (rk P c) (nI c))).1 24 = puR P g c from rfl, show puR P g c (sz c) = nI (rk P c) by unfold puR rk; rw [if_pos (by omega)], nI_add, puR_s hp, rw_swap (k := 22) (k2 := 24) (by decide), rw_rw]
        refine ih (c + 1) _ (by omega) (by omega) (fun d hd hpd => ?_)
        rcases Nat.lt_or_ge d c with h9 | h9
        · rw [pk_un (fun e => by have := rk_inj P hpd hp (by omega) hc e; omega)]
          exact hh d h9 hpd
        · have : d = c := by omega
          subst this
          exact pk_us
