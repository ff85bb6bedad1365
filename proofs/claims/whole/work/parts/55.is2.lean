-- PURE PART: is, met and joined
theorem pz_down {σ : pw_St} {P : Nat → Bool} {c p : Nat} (e23 : ∀ c, c < 2401 → σ.1 23 c = if P c then 1 else 0) (hc : c < 2401) (hp : p < 4) : f_X6_down (nI c) (nI p) σ = if 0 < dg c p ∧ P (c - un p) = true then some (nI (c - un p), σ) else some (-1, σ) := by
  unfold f_X6_down
  have d := dg_lt c p
  rw [pz_share σ (by omega) (by omega), pz_bi_some]
  by_cases h0 : 0 < dg c p
  · have hu := un_lec hp h0
    rw [if_neg (nI_ne0 h0 (by omega)), if_pos (pz_in hp (by decide)), nI_clamp (n := p) (by omega), pz_wt hp, pk_sub hu, if_pos (pz_in (show c - un p < 2401 by omega) (by decide)), nI_clamp (n := c - un p) (by omega), e23 _ (by omega)]
    by_cases hP : P (c - un p) = true
    · rw [hP, mk1, if_neg (by decide), if_pos ⟨h0, rfl⟩]
    · have hPf : P (c - un p) = false := by simpa using hP
      rw [hPf, mk0, if_pos rfl, if_neg (fun hh => by cases hh.2)]
  · rw [if_pos (show nI (dg c p) = 0 by rw [show dg c p = 0 by omega]; rfl), if_neg (fun hh => h0 hh.1)]
def nx (m : Bool) (c p : Nat) : Nat := if m then c + un p else c - un p
def okp (m : Bool) (ev : Nat → Nat) (P : Nat → Bool) (c p : Nat) : Prop := if m then dg c p < ev p ∧ P (c + un p) = true else 0 < dg c p ∧ P (c - un p) = true
def Gen (M : Nat → Bool) (m : Bool) (x : Nat) : Prop := ∀ S : Nat → Prop, (∀ d, d < 2401 → M d = true → S d) → (∀ a b, S a → S b → S (jn m a b 4)) → S x
theorem Gen_jn {M : Nat → Bool} {m : Bool} {a b : Nat} (h1 : Gen M m a) (h2 : Gen M m b) : Gen M m (jn m a b 4) := fun S s1 s2 => s2 a b (h1 S s1 s2) (h2 S s1 s2)
def NS (M : Nat → Bool) (m : Bool) (c : Nat) (v : Int32) : Prop := (v = -1 ∧ ∀ d, d < 2401 → M d = true → ¬ leb m c d) ∨ ∃ x, v = nI x ∧ x < 2401 ∧ leb m c x ∧ (∀ d, d < 2401 → M d = true → leb m c d → leb m x d) ∧ Gen M m x
def NSp (M : Nat → Bool) (m : Bool) (ev : Nat → Nat) (P : Nat → Bool) (c p : Nat) (v : Int32) : Prop := (v = -1 ∧ ∀ p', p' < p → okp m ev P c p' → ∀ d, d < 2401 → M d = true → ¬ leb m (nx m c p') d) ∨ ∃ x, v = nI x ∧ x < 2401 ∧ leb m c x ∧ (∀ p', p' < p → okp m ev P c p' → ∀ d, d < 2401 → M d = true → leb m (nx m c p') d → leb m x d) ∧ Gen M m x
theorem nx_lt {m : Bool} {ev : Nat → Nat} {P : Nat → Bool} {c p : Nat} (h6 : ∀ p, p < 4 → ev p ≤ 6) (hc : c < 2401) (hp : p < 4) (h : okp m ev P c p) : nx m c p < 2401 := by
  unfold okp at h
  unfold nx
  cases m
  · show c - un p < 2401; omega
  · exact up_lt hc hp (by have := h6 p hp; have := h.1; omega)
theorem nx_leb {m : Bool} {ev : Nat → Nat} {P : Nat → Bool} {c p : Nat} (h6 : ∀ p, p < 4 → ev p ≤ 6) (hp : p < 4) (h : okp m ev P c p) : leb m c (nx m c p) := by
  unfold okp at h
  unfold nx leb
  cases m
  · intro q hq
    show dg (c - un p) q ≤ dg c q
    by_cases e : q = p
    · subst e; rw [dg_dn hp h.1]; omega
    · rw [dg_od hp hq e h.1]; exact Nat.le_refl _
  · intro q hq
    show dg c q ≤ dg (c + un p) q
    have h6p := h6 p hp
    have h1 := h.1
    by_cases e : q = p
    · subst e; rw [dg_up hp (by omega)]; omega
    · rw [dg_ot hp hq e (by omega)]; exact Nat.le_refl _
theorem nb_step {σ : pw_St} {ev : Nat → Nat} {P : Nat → Bool} {c p : Nat} (m : Bool) (h6 : ∀ p, p < 4 → ev p ≤ 6) (e11 : ∀ p, p < 4 → σ.1 11 p = nI (ev p)) (e23 : ∀ c, c < 2401 → σ.1 23 c = if P c then 1 else 0) (hc : c < 2401) (hp : p < 4) (k6 : Int32 → Int32 → Int32 → Int32 → pw_St → Option (Int32 × pw_St)) (acc : Int32) : (okp m ev P c p → b_X4_nearestBeyond_6 k6 (nI c) (bI m) acc (nI p) σ = b_X4_nearestBeyond_52 k6 (nI c) (bI m) acc (nI p) (σ.1 31 (nx m c p)) σ) ∧ (¬ okp m ev P c p → b_X4_nearestBeyond_6 k6 (nI c) (bI m) acc (nI p) σ = k6 (nI c) (bI m) acc (nI (p + 1)) σ) := by
  unfold b_X4_nearestBeyond_6
  rw [if_neg (show ¬ (4 : Int32) ≤ nI p from nI_ge (b := 4) hp (by decide))]
  cases m
  · rw [if_pos (show bI false = 0 from rfl), pz_down e23 hc hp]
    refine ⟨fun h => ?_, fun h => ?_⟩
    · have hl := nx_lt h6 hc hp h
      unfold nx at hl ⊢
      have hl : c - un p < 2401 := hl
      rw [if_pos (show 0 < dg c p ∧ P (c - un p) = true from h), pz_bi_some]
      unfold b_X4_nearestBeyond_33
      rw [if_neg (nm1 (by omega)), if_pos (pz_in hl (by decide)), nI_clamp (n := c - un p) (by omega)]
      rfl
    · rw [if_neg (show ¬ (0 < dg c p ∧ P (c - un p) = true) from h), pz_bi_some]
      unfold b_X4_nearestBeyond_33 b_X4_nearestBeyond_52
      rw [if_pos rfl, if_pos rfl, nI_1]
  · rw [if_neg (show ¬ bI true = 0 by decide), pz_up h6 e11 e23 hc hp]
    refine ⟨fun h => ?_, fun h => ?_⟩
    · have hl := nx_lt h6 hc hp h
      unfold nx at hl ⊢
      have hl : c + un p < 2401 := hl
      rw [if_pos (show dg c p < ev p ∧ P (c + un p) = true from h), pz_bi_some]
      unfold b_X4_nearestBeyond_33
      rw [if_neg (nm1 (by omega)), if_pos (pz_in hl (by decide)), nI_clamp (n := c + un p) (by omega)]
      rfl
    · rw [if_neg (show ¬ (dg c p < ev p ∧ P (c + un p) = true) from h), pz_bi_some]
      unfold b_X4_nearestBeyond_33 b_X4_nearestBeyond_52
      rw [if_pos rfl, if_pos rfl, nI_1]
theorem nb_l {σ : pw_St} {ev : Nat → Nat} {P M : Nat → Bool} {c : Nat} (m : Bool) (h6 : ∀ p, p < 4 → ev p ≤ 6) (e11 : ∀ p, p < 4 → σ.1 11 p = nI (ev p)) (e23 : ∀ c, c < 2401 → σ.1 23 c = if P c then 1 else 0) (hc : c < 2401) (hN : ∀ p, p < 4 → okp m ev P c p → NS M m (nx m c p) (σ.1 31 (nx m c p))) : ∀ (n p : Nat) (acc : Int32), p ≤ 4 → 4 - p < n → NSp M m ev P c p acc → ∃ v, l_X4_nearestBeyond_6 n (nI c) (bI m) acc (nI p) σ = some (v, σ) ∧ NSp M m ev P c 4 v := by
  intro n
  induction n with
  | zero => intro p acc _ h; omega
  | succ n ih =>
    intro p acc h1 h2 hA
    rw [show l_X4_nearestBeyond_6 (n + 1) (nI c) (bI m) acc (nI p) σ = b_X4_nearestBeyond_6 (l_X4_nearestBeyond_6 n) (nI c) (bI m) acc (nI p) σ from rfl]
    by_cases h : p = 4
    · subst h
      unfold b_X4_nearestBeyond_6
      rw [if_pos (by decide)]
      exact ⟨acc, rfl, hA⟩
    · have hp : p < 4 := by omega
      obtain ⟨t1, t2⟩ := nb_step m h6 e11 e23 hc hp (l_X4_nearestBeyond_6 n) acc
      have stay : (okp m ev P c p → ∀ d, d < 2401 → M d = true → ¬ leb m (nx m c p) d) → NSp M m ev P c (p + 1) acc := by
        intro hs
        rcases hA with ⟨a1, a2⟩ | ⟨x, a1, a2, a3, a4, a5⟩
        · refine Or.inl ⟨a1, fun p' hp' ho d hd hM => ?_⟩
          by_cases e : p' = p
          · subst e; exact hs ho d hd hM
          · exact a2 p' (by omega) ho d hd hM
        · refine Or.inr ⟨x, a1, a2, a3, fun p' hp' ho d hd hM hl => ?_, a5⟩
          by_cases e : p' = p
          · subst e; exact absurd hl (hs ho d hd hM)
          · exact a4 p' (by omega) ho d hd hM hl
      by_cases ho : okp m ev P c p
      · rw [t1 ho]
        unfold b_X4_nearestBeyond_52
        rw [nI_1]
        rcases hN p hp ho with ⟨b1, b2⟩ | ⟨y, b1, b2, b3, b4, b5⟩
        · rw [b1, if_pos rfl]
          exact ih (p + 1) acc (by omega) (by omega) (stay (fun _ => b2))
        · rw [b1, if_neg (nm1 (by omega))]
          rcases hA with ⟨a1, a2⟩ | ⟨x, a1, a2, a3, a4, a5⟩
          · rw [if_pos a1]
            refine ih (p + 1) (nI y) (by omega) (by omega) (Or.inr ⟨y, rfl, b2, leb_tr (nx_leb h6 hp ho) b3, fun p' hp' ho' d hd hM hl => ?_, b5⟩)
            by_cases e : p' = p
            · subst e; exact b4 d hd hM hl
            · exact absurd hl (a2 p' (by omega) ho' d hd hM)
          · rw [a1, if_neg (nm1 (by omega)), pz_combine m a2 b2, pz_bi_some]
            refine ih (p + 1) (nI (jn m x y 4)) (by omega) (by omega) (Or.inr ⟨_, rfl, jn_lt _ _ _, jn_g a3 (leb_tr (nx_leb h6 hp ho) b3), fun p' hp' ho' d hd hM hl => ?_, Gen_jn a5 b5⟩)
            by_cases e : p' = p
            · subst e; exact leb_tr (jn_r m x y) (b4 d hd hM hl)
            · exact leb_tr (jn_l m x y) (a4 p' (by omega) ho' d hd hM hl)
      · rw [t2 ho]
        exact ih (p + 1) acc (by omega) (by omega) (stay (fun h => absurd h ho))
theorem pz_nb {σ : pw_St} {ev : Nat → Nat} {P M : Nat → Bool} {c : Nat} (m : Bool) (h6 : ∀ p, p < 4 → ev p ≤ 6) (e11 : ∀ p, p < 4 → σ.1 11 p = nI (ev p)) (e23 : ∀ c, c < 2401 → σ.1 23 c = if P c then 1 else 0) (hc : c < 2401) (hN : ∀ p, p < 4 → okp m ev P c p → NS M m (nx m c p) (σ.1 31 (nx m c p))) (hgo : ∀ d, d < 2401 → M d = true → leb m c d → ∃ p, p < 4 ∧ okp m ev P c p ∧ leb m (nx m c p) d) : ∃ v, f_X4_nearestBeyond (nI c) (bI m) σ = some (v, σ) ∧ NS M m c v := by
  obtain ⟨v, h1, h2⟩ := nb_l (M := M) m h6 e11 e23 hc hN pw_FU 0 (-1) (by omega) (by unfold pw_FU; omega) (Or.inl ⟨rfl, fun p' h => by omega⟩)
  refine ⟨v, h1, ?_⟩
  rcases h2 with ⟨a1, a2⟩ | ⟨x, a1, a2, a3, a4, a5⟩
  · refine Or.inl ⟨a1, fun d hd hM hl => ?_⟩
    obtain ⟨p, p1, p2, p3⟩ := hgo d hd hM hl
    exact a2 p p1 p2 d hd hM p3
  · refine Or.inr ⟨x, a1, a2, a3, fun d hd hM hl => ?_, a5⟩
    obtain ⟨p, p1, p2, p3⟩ := hgo d hd hM hl
    exact a4 p p1 p2 d hd hM p3
theorem key_dn {c p : Nat} (hp : p < 4) (h : 0 < dg c p) : key (c - un p) < key c := by
  have hu := un_lec hp h
  have d := dg_lt c p
  have := key_up (c := c - un p) hp (by rw [dg_dn hp h]; omega)
  rw [show c - un p + un p = c by omega] at this
  exact this
def MJ (P M : Nat → Bool) (m : Bool) (r : Int32) : Prop := (r = 1 ∧ ∀ c, c < 2401 → P c = true → M c = false → ∃ v, NS M m c v ∧ v ≠ nI c) ∨ (r = 0 ∧ ∃ c, c < 2401 ∧ P c = true ∧ M c = false ∧ NS M m c (nI c))
theorem NS_self {M : Nat → Bool} {m : Bool} {c : Nat} (hc : c < 2401) (hM : M c = true) : NS M m c (nI c) := Or.inr ⟨c, rfl, hc, leb_rf m c, fun d _ _ hl => hl, fun S s1 _ => s1 c hc hM⟩
theorem met_l {σ : pw_St} {ev : Nat → Nat} {P M : Nat → Bool} {T : Nat} {io en : Nat → Nat} (h6 : ∀ p, p < 4 → ev p ≤ 6) (e11 : ∀ p, p < 4 → σ.1 11 p = nI (ev p)) (e23 : ∀ c, c < 2401 → σ.1 23 c = if P c then 1 else 0) (h30 : ∀ t, t < 2401 → P t = true → σ.1 30 t = if M t then 1 else 0) (hS : Sorted P (σ.1 22) T io en) (hgo : ∀ c d, c < 2401 → P c = true → M c = false → d < 2401 → M d = true → leb true c d → ∃ p, p < 4 ∧ okp true ev P c p ∧ leb true (nx true c p) d) : ∀ (n k : Nat) (τ : pw_St), k ≤ T → k < n → (∀ r, r ≠ 31 → τ.1 r = σ.1 r) → (∀ j, k ≤ j → j < T → NS M true (io j) (τ.1 31 (io j)) ∧ (M (io j) = false → τ.1 31 (io j) ≠ nI (io j))) → ∃ r τ2, l_X4_areMet_7 n (nI k - 1) τ = some (r, τ2) ∧ (∀ r, r ≠ 31 → τ2.1 r = σ.1 r) ∧ MJ P M true r := by
  have hT := Sorted_T hS
  intro n
  induction n with
  | zero => intro k τ _ h; omega
  | succ n ih =>
    intro k τ h1 h2 hr hj
    rw [show l_X4_areMet_7 (n + 1) (nI k - 1) τ = b_X4_areMet_7 (l_X4_areMet_7 n) (nI k - 1) τ from rfl]
    unfold b_X4_areMet_7
    by_cases h : k = 0
    · subst h
      rw [if_pos (by decide), if_pos pz_isb1]
      refine ⟨1, τ, rfl, hr, Or.inl ⟨rfl, fun c hc hP hM => ?_⟩⟩
      obtain ⟨j, hj1, hj2⟩ := hS.2.2.2.1 c hc hP
      obtain ⟨q1, q2⟩ := hj j (by omega) hj1
      rw [hj2] at q1 q2
      exact ⟨_, q1, q2 hM⟩
    · have hk : k - 1 < T := by omega
      obtain ⟨s1, s2, s3⟩ := hS.2.1 (k - 1) hk
      rw [pz_m1 (by omega), if_neg (nI_pos (by omega)), if_pos (pz_in (by omega) (by decide)), nI_clamp (n := k - 1) (by omega), hr 22 (by omega), s1, if_pos (pz_in s2 (by decide)), nI_clamp (n := io (k - 1)) (by omega), hr 30 (by omega), h30 _ s2 s3]
      have put : ∀ v : Int32, NS M true (io (k - 1)) v → (M (io (k - 1)) = true → v = nI (io (k - 1))) → ∃ r τ2, b_X4_areMet_43 (l_X4_areMet_7 n) (nI (k - 1)) (nI (io (k - 1))) v (nI (io (k - 1))) τ = some (r, τ2) ∧ (∀ r, r ≠ 31 → τ2.1 r = σ.1 r) ∧ MJ P M true r := by
        intro v hv hv2
        unfold b_X4_areMet_43
        rw [if_pos (pz_in s2 (by decide)), pz_lt, nI_clamp (n := io (k - 1)) (by omega), rw_sM, if_pos (pz_in s2 (by decide)), rw_get, pk_us, rw_ne (show 30 ≠ 31 by decide), hr 30 (by omega), h30 _ s2 s3, ← Int32.sub_eq_add_neg]
        have hr' : ∀ r, r ≠ 31 → (pw_rw τ 31 (upd (τ.1 31) (io (k - 1)) v)).1 r = σ.1 r := fun r hr3 => by rw [rw_ne hr3]; exact hr r hr3
        have go : (M (io (k - 1)) = false → v ≠ nI (io (k - 1))) → ∃ r τ2, l_X4_areMet_7 n (nI (k - 1) - 1) (pw_rw τ 31 (upd (τ.1 31) (io (k - 1)) v)) = some (r, τ2) ∧ (∀ r, r ≠ 31 → τ2.1 r = σ.1 r) ∧ MJ P M true r := by
          intro hne
          refine ih (k - 1) _ (by omega) (by omega) hr' (fun j a b => ?_)
          rw [rw_get]
          by_cases e : j = k - 1
          · subst e; rw [pk_us]; exact ⟨hv, hne⟩
          · rw [pk_un (fun e2 => e (Sorted_inj hS b hk e2))]
            exact hj j (by omega) b
        by_cases hM : M (io (k - 1)) = true
        · rw [hM, mk1, if_pos (hv2 hM), if_pos (pz_in s2 (by decide)), if_neg (by decide)]
          exact go (fun e => by rw [hM] at e; cases e)
        · have hMf : M (io (k - 1)) = false := by simpa using hM
          rw [hMf, mk0]
          by_cases he : v = nI (io (k - 1))
          · rw [if_pos he, if_pos (pz_in s2 (by decide)), if_pos rfl, if_pos pz_isb0]
            exact ⟨0, _, rfl, hr', Or.inr ⟨rfl, io (k - 1), s2, s3, hMf, by rw [← he]; exact hv⟩⟩
          · rw [if_neg he]
            exact go (fun _ => he)
      by_cases hM : M (io (k - 1)) = true
      · rw [hM, mk1, if_neg (by decide)]
        exact put _ (NS_self s2 hM) (fun _ => rfl)
      · have hMf : M (io (k - 1)) = false := by simpa using hM
        rw [hMf, mk0, if_pos rfl]
        obtain ⟨v, v1, v2⟩ := pz_nb (σ := τ) (ev := ev) (P := P) (M := M) (c := io (k - 1)) true h6 (by rw [hr 11 (by omega)]; exact e11) (by rw [hr 23 (by omega)]; exact e23) s2 (fun p hp ho => by
          have hl := nx_lt h6 s2 hp ho
          have ho' : dg (io (k - 1)) p < ev p ∧ P (io (k - 1) + un p) = true := ho
          have hky := key_up (c := io (k - 1)) hp (show dg (io (k - 1)) p < 6 by have := h6 p hp; omega)
          have hl : io (k - 1) + un p < 2401 := hl
          obtain ⟨j, hj1, hj2⟩ := hS.2.2.2.1 _ hl ho'.2
          have hjk : k ≤ j := by
            rcases Nat.lt_trichotomy j (k - 1) with hl | hl | hl
            · have := hS.2.2.1 j (k - 1) hl hk; rw [hj2] at this; omega
            · rw [hl] at hj2; rw [← hj2] at hky; omega
            · omega
          show NS M true (io (k - 1) + un p) (τ.1 31 (io (k - 1) + un p))
          rw [← hj2]; exact (hj j hjk hj1).1) (fun d hd hMd hl => hgo _ d s2 s3 hMf hd hMd hl)
        rw [show f_X4_nearestBeyond (nI (io (k - 1))) 1 τ = some (v, τ) from v1, pz_bi_some]
        exact put v v2 (fun e => absurd e hM)
theorem arj_l {σ : pw_St} {ev : Nat → Nat} {P M : Nat → Bool} {T : Nat} {io en : Nat → Nat} (h6 : ∀ p, p < 4 → ev p ≤ 6) (e11 : ∀ p, p < 4 → σ.1 11 p = nI (ev p)) (e23 : ∀ c, c < 2401 → σ.1 23 c = if P c then 1 else 0) (h30 : ∀ t, t < 2401 → P t = true → σ.1 30 t = if M t then 1 else 0) (hS : Sorted P (σ.1 22) T io en) (e5 : σ.1 3 5 = nI T) (hgo : ∀ c d, c < 2401 → P c = true → M c = false → d < 2401 → M d = true → leb false c d → ∃ p, p < 4 ∧ okp false ev P c p ∧ leb false (nx false c p) d) : ∀ (n k : Nat) (τ : pw_St), k ≤ T → T - k < n → (∀ r, r ≠ 31 → τ.1 r = σ.1 r) → (∀ j, j < k → NS M false (io j) (τ.1 31 (io j)) ∧ (M (io j) = false → τ.1 31 (io j) ≠ nI (io j))) → ∃ r τ2, l_X4_areJoined_2 n (nI k) τ = some (r, τ2) ∧ (∀ r, r ≠ 31 → τ2.1 r = σ.1 r) ∧ MJ P M false r := by
  have hT := Sorted_T hS
  intro n
  induction n with
  | zero => intro k τ _ h; omega
  | succ n ih =>
    intro k τ h1 h2 hr hj
    rw [show l_X4_areJoined_2 (n + 1) (nI k) τ = b_X4_areJoined_2 (l_X4_areJoined_2 n) (nI k) τ from rfl]
    unfold b_X4_areJoined_2
    rw [hr 3 (by omega), e5]
    by_cases h : k = T
    · subst h
      rw [if_pos (nI_le (Nat.le_refl _) (by omega)), if_pos pz_isb1]
      refine ⟨1, τ, rfl, hr, Or.inl ⟨rfl, fun c hc hP hM => ?_⟩⟩
      obtain ⟨j, hj1, hj2⟩ := hS.2.2.2.1 c hc hP
      obtain ⟨q1, q2⟩ := hj j hj1
      rw [hj2] at q1 q2
      exact ⟨_, q1, q2 hM⟩
    · have hk : k < T := by omega
      obtain ⟨s1, s2, s3⟩ := hS.2.1 k hk
      rw [if_neg (nI_ge hk (by omega)), if_pos (pz_in (by omega) (by decide)), nI_clamp (n := k) (by omega), hr 22 (by omega), s1, if_pos (pz_in s2 (by decide)), nI_clamp (n := io k) (by omega), hr 30 (by omega), h30 _ s2 s3]
      have put : ∀ v : Int32, NS M false (io k) v → (M (io k) = true → v = nI (io k)) → ∃ r τ2, b_X4_areJoined_42 (l_X4_areJoined_2 n) (nI k) (nI (io k)) v (nI (io k)) τ = some (r, τ2) ∧ (∀ r, r ≠ 31 → τ2.1 r = σ.1 r) ∧ MJ P M false r := by
        intro v hv hv2
        unfold b_X4_areJoined_42
        rw [if_pos (pz_in s2 (by decide)), pz_lt, nI_clamp (n := io k) (by omega), rw_sM, if_pos (pz_in s2 (by decide)), rw_get, pk_us, rw_ne (show 30 ≠ 31 by decide), hr 30 (by omega), h30 _ s2 s3, nI_1]
        have hr' : ∀ r, r ≠ 31 → (pw_rw τ 31 (upd (τ.1 31) (io k) v)).1 r = σ.1 r := fun r hr3 => by rw [rw_ne hr3]; exact hr r hr3
        have go : (M (io k) = false → v ≠ nI (io k)) → ∃ r τ2, l_X4_areJoined_2 n (nI (k + 1)) (pw_rw τ 31 (upd (τ.1 31) (io k) v)) = some (r, τ2) ∧ (∀ r, r ≠ 31 → τ2.1 r = σ.1 r) ∧ MJ P M false r := by
          intro hne
          refine ih (k + 1) _ (by omega) (by omega) hr' (fun j a => ?_)
          rw [rw_get]
          by_cases e : j = k
          · subst e; rw [pk_us]; exact ⟨hv, hne⟩
          · rw [pk_un (fun e2 => e (Sorted_inj hS (by omega) hk e2))]
            exact hj j (by omega)
        by_cases hM : M (io k) = true
        · rw [hM, mk1, if_pos (hv2 hM), if_pos (pz_in s2 (by decide)), if_neg (by decide)]
          exact go (fun e => by rw [hM] at e; cases e)
        · have hMf : M (io k) = false := by simpa using hM
          rw [hMf, mk0]
          by_cases he : v = nI (io k)
          · rw [if_pos he, if_pos (pz_in s2 (by decide)), if_pos rfl, if_pos pz_isb0]
            exact ⟨0, _, rfl, hr', Or.inr ⟨rfl, io k, s2, s3, hMf, by rw [← he]; exact hv⟩⟩
          · rw [if_neg he]
            exact go (fun _ => he)
      by_cases hM : M (io k) = true
      · rw [hM, mk1, if_neg (by decide)]
        exact put _ (NS_self s2 hM) (fun _ => rfl)
      · have hMf : M (io k) = false := by simpa using hM
        rw [hMf, mk0, if_pos rfl]
        obtain ⟨v, v1, v2⟩ := pz_nb (σ := τ) (ev := ev) (P := P) (M := M) (c := io k) false h6 (by rw [hr 11 (by omega)]; exact e11) (by rw [hr 23 (by omega)]; exact e23) s2 (fun p hp ho => by
          have ho' : 0 < dg (io k) p ∧ P (io k - un p) = true := ho
          have hky := key_dn (c := io k) hp ho'.1
          obtain ⟨j, hj1, hj2⟩ := hS.2.2.2.1 _ (show io k - un p < 2401 by omega) ho'.2
          have hjk : j < k := by
            rcases Nat.lt_trichotomy k j with hl | hl | hl
            · have := hS.2.2.1 k j hl hj1; rw [hj2] at this; omega
            · rw [← hl] at hj2; rw [← hj2] at hky; omega
            · omega
          show NS M false (io k - un p) (τ.1 31 (io k - un p))
          rw [← hj2]; exact (hj j hjk).1) (fun d hd hMd hl => hgo _ d s2 s3 hMf hd hMd hl)
        rw [show f_X4_nearestBeyond (nI (io k)) 0 τ = some (v, τ) from v1, pz_bi_some]
        exact put v v2 (fun e => absurd e hM)
/-- closed, pair by pair -/
def CLs (M : Nat → Bool) (m : Bool) (a b : Nat) : Prop := M a = true → M b = true → M (jn m a b 4) = true
theorem MJ_cl {P M : Nat → Bool} {m : Bool} {r : Int32} (hr : MJ P M m r) (hMP : ∀ c, M c = true → c < 2401 ∧ P c = true) (hj : ∀ a b, P a = true → P b = true → P (jn m a b 4) = true) : ((∀ a b, CLs M m a b) → r = 1) ∧ ((∃ a b, ¬ CLs M m a b) → r = 0) := by
  rcases hr with ⟨r1, r2⟩ | ⟨r1, c, c1, c2, c3, c4⟩
  · refine ⟨fun _ => r1, fun ⟨a, b, h⟩ => ?_⟩
    exfalso
    refine h (fun ha hb => ?_)
    obtain ⟨a1, a2⟩ := hMP a ha
    obtain ⟨b1, b2⟩ := hMP b hb
    cases hm : M (jn m a b 4)
    · obtain ⟨v, v1, v2⟩ := r2 _ (jn_lt _ _ _) (hj a b a2 b2) hm
      rcases v1 with ⟨e1, e2⟩ | ⟨x, e1, e2, e3, e4, e5⟩
      · exact absurd (jn_l m a b) (e2 a a1 ha)
      · exact absurd (by rw [e1, leb_as (m := m) e2 (jn_lt m a b) (jn_g (e4 a a1 ha (jn_l m a b)) (e4 b b1 hb (jn_r m a b))) e3]) v2
    · rfl
  · refine ⟨fun h => ?_, fun _ => r1⟩
    exfalso
    rcases c4 with ⟨e1, e2⟩ | ⟨x, e1, e2, e3, e4, e5⟩
    · exact nm1 (show c < 2 ^ 31 by omega) e1
    · have ec := (nI_eq (by omega) (by omega)).mp e1
      have := e5 (fun t => M t = true) (fun d _ hd => hd) (fun a b ha hb => h a b ha hb)
      rw [← ec, c3] at this
      cases this
theorem ic_in {σ : pw_St} {M : Nat → Bool} {a : Nat} (m : Bool) (h51 : ∀ t, t < 2401 → σ.1 51 t = if M t then 1 else 0) (ha : a < 2401) (hM : M a = true) (k2 : Int32 → Int32 → pw_St → Option (Int32 × pw_St)) : ∀ (n b : Nat), b ≤ a → a - b < n → ((∀ j, b ≤ j → j < a → CLs M m a j) → l_X11_isClosed_11 k2 n (bI m) (nI a) (nI b) σ = k2 (bI m) (nI (a + 1)) σ) ∧ ((∃ j, b ≤ j ∧ j < a ∧ ¬ CLs M m a j) → l_X11_isClosed_11 k2 n (bI m) (nI a) (nI b) σ = some (0, σ)) := by
  intro n
  induction n with
  | zero => intro b _ h; omega
  | succ n ih =>
    intro b h1 h2
    rw [show l_X11_isClosed_11 k2 (n + 1) (bI m) (nI a) (nI b) σ = b_X11_isClosed_11 k2 (l_X11_isClosed_11 k2 n) (bI m) (nI a) (nI b) σ from rfl]
    unfold b_X11_isClosed_11
    rw [nI_1, nI_1]
    by_cases h : b = a
    · subst h
      rw [if_pos (nI_le (Nat.le_refl _) (by omega))]
      exact ⟨fun _ => rfl, fun ⟨q, x, y, _⟩ => by omega⟩
    · have hb : b < a := by omega
      obtain ⟨i1, i2⟩ := ih (b + 1) (by omega) (by omega)
      have skip : CLs M m a b → ((∀ j, b ≤ j → j < a → CLs M m a j) → l_X11_isClosed_11 k2 n (bI m) (nI a) (nI (b + 1)) σ = k2 (bI m) (nI (a + 1)) σ) ∧ ((∃ j, b ≤ j ∧ j < a ∧ ¬ CLs M m a j) → l_X11_isClosed_11 k2 n (bI m) (nI a) (nI (b + 1)) σ = some (0, σ)) := by
        intro hk
        refine ⟨fun hh => i1 (fun q x y => hh q (by omega) y), fun ⟨q, x, y, hh⟩ => i2 ⟨q, ?_, y, hh⟩⟩
        by_cases e : q = b
        · subst e; exact absurd hk hh
        · omega
      have hjl := jn_lt m a b
      rw [if_neg (nI_ge hb (by omega)), if_pos (pz_in ha (by decide)), nI_clamp (n := a) (by omega), h51 a ha, hM, mk1, if_neg (by decide), if_pos (pz_in (show b < 2401 by omega) (by decide)), nI_clamp (n := b) (by omega), h51 b (by omega)]
      by_cases hMb : M b = true
      · rw [hMb, mk1, if_neg (by decide), pz_joined m ha (by omega), pz_bi_some, if_pos (pz_in hjl (by decide)), nI_clamp (n := jn m a b 4) (by omega), h51 _ hjl]
        by_cases hMj : M (jn m a b 4) = true
        · rw [hMj, mk1, if_neg (by decide)]
          exact skip (fun _ _ => hMj)
        · have hMf : M (jn m a b 4) = false := by simpa using hMj
          rw [hMf, mk0, if_pos rfl, if_pos pz_isb0]
          exact ⟨fun hh => absurd (hh b (Nat.le_refl _) hb hM hMb) hMj, fun _ => rfl⟩
      · have hMf : M b = false := by simpa using hMb
        rw [hMf, mk0, if_pos rfl]
        exact skip (fun _ e => absurd e hMb)
theorem ic_out {σ : pw_St} {M : Nat → Bool} (m : Bool) (h51 : ∀ t, t < 2401 → σ.1 51 t = if M t then 1 else 0) : ∀ (n a : Nat), a ≤ 2401 → 2401 - a < n → ((∀ i j, a ≤ i → i < 2401 → j < i → CLs M m i j) → l_X11_isClosed_2 n (bI m) (nI a) σ = some (1, σ)) ∧ ((∃ i j, a ≤ i ∧ i < 2401 ∧ j < i ∧ ¬ CLs M m i j) → l_X11_isClosed_2 n (bI m) (nI a) σ = some (0, σ)) := by
  intro n
  induction n with
  | zero => intro b _ h; omega
  | succ n ih =>
    intro a h1 h2
    rw [show l_X11_isClosed_2 (n + 1) (bI m) (nI a) σ = b_X11_isClosed_2 (l_X11_isClosed_2 n) (bI m) (nI a) σ from rfl]
    unfold b_X11_isClosed_2
    by_cases h : a = 2401
    · subst h
      rw [if_pos (by decide), if_pos pz_isb1]
      exact ⟨fun _ => rfl, fun ⟨i, j, x, y, _⟩ => by omega⟩
    · have ha : a < 2401 := by omega
      obtain ⟨i1, i2⟩ := ih (a + 1) (by omega) (by omega)
      rw [if_neg (show ¬ (2401 : Int32) ≤ nI a from nI_ge (b := 2401) ha (by decide))]
      have skip : (∀ j, j < a → CLs M m a j) → ((∀ i j, a ≤ i → i < 2401 → j < i → CLs M m i j) → l_X11_isClosed_2 n (bI m) (nI (a + 1)) σ = some (1, σ)) ∧ ((∃ i j, a ≤ i ∧ i < 2401 ∧ j < i ∧ ¬ CLs M m i j) → l_X11_isClosed_2 n (bI m) (nI (a + 1)) σ = some (0, σ)) := by
        intro hk
        refine ⟨fun hh => i1 (fun i j x y z => hh i j (by omega) y z), fun ⟨i, j, x, y, z, hh⟩ => i2 ⟨i, j, ?_, y, z, hh⟩⟩
        by_cases e : i = a
        · subst e; exact absurd (hk j z) hh
        · omega
      by_cases hM : M a = true
      · obtain ⟨j1, j2⟩ := ic_in m h51 ha hM (l_X11_isClosed_2 n) pw_FU 0 (by omega) (by unfold pw_FU; omega)
        by_cases hK : ∀ j, 0 ≤ j → j < a → CLs M m a j
        · rw [pz_0, j1 hK]
          exact skip (fun j hj => hK j (Nat.zero_le _) hj)
        · have hex : ∃ j, 0 ≤ j ∧ j < a ∧ ¬ CLs M m a j := by
            by_cases hh : ∃ j, 0 ≤ j ∧ j < a ∧ ¬ CLs M m a j
            · exact hh
            · refine absurd (fun q x y => ?_) hK
              by_cases h9 : CLs M m a q
              · exact h9
              · exact absurd ⟨q, x, y, h9⟩ hh
          rw [pz_0, j2 hex]
          exact ⟨fun hh => absurd (fun q _ y => hh a q (Nat.le_refl _) ha y) hK, fun _ => rfl⟩
      · have hMf : M a = false := by simpa using hM
        rw [show l_X11_isClosed_11 (l_X11_isClosed_2 n) pw_FU (bI m) (nI a) 0 σ = b_X11_isClosed_11 (l_X11_isClosed_2 n) (l_X11_isClosed_11 (l_X11_isClosed_2 n) 2999) (bI m) (nI a) 0 σ from rfl]
        unfold b_X11_isClosed_11
        rw [nI_1]
        by_cases hz : a = 0
        · rw [if_pos (show nI a ≤ 0 by rw [hz]; decide)]
          exact skip (fun j hj => by omega)
        · rw [if_neg (show ¬ nI a ≤ 0 from nI_ge (a := 0) (by omega) (by omega)), if_pos (pz_in ha (by decide)), nI_clamp (n := a) (by omega), h51 a ha, hMf, mk0, if_pos rfl]
          exact skip (fun j hj e => absurd e hM)
