-- PURE PART: which cuts are possible, on both sides
theorem cl_in {σ : pw_St} {d : Nat → Nat} {p : Nat} (k : Int32 → pw_St → Option (Int32 × pw_St)) (hp : p < 4) (hd : ∀ j, j < 4 → d j ≤ 6 ∧ σ.1 25 j = nI (d j)) : ∀ (n q : Nat), q ≤ 4 → 4 - q < n → ((∀ j, q ≤ j → j < 4 → okk (σ.1 16) d p j) → l_X6_isClosed_40 k n (nI p) (nI q) σ = k (nI (p + 1)) σ) ∧ ((∃ j, q ≤ j ∧ j < 4 ∧ ¬ okk (σ.1 16) d p j) → l_X6_isClosed_40 k n (nI p) (nI q) σ = some (0, σ)) := by
  intro n
  induction n with
  | zero => intro q _ h; omega
  | succ n ih =>
    intro q h1 h2
    have key : l_X6_isClosed_40 k (n + 1) (nI p) (nI q) σ = b_X6_isClosed_40 k (l_X6_isClosed_40 k n) (nI p) (nI q) σ := rfl
    rw [key]
    unfold b_X6_isClosed_40
    by_cases h : q = 4
    · subst h
      rw [if_pos (by decide), pz_1, nI_add]
      exact ⟨fun _ => rfl, fun ⟨j, a, b, _⟩ => by omega⟩
    · have hq : q < 4 := by omega
      obtain ⟨d1, d2⟩ := hd p hp
      obtain ⟨d3, d4⟩ := hd q hq
      obtain ⟨i1, i2⟩ := ih (q + 1) (by omega) (by omega)
      rw [if_neg (show ¬ (4 : Int32) ≤ nI q from nI_ge (b := 4) hq (by decide)), if_pos (pz_in hp (by decide)), nI_clamp (n := p) (by omega), d2]
      have next : ((∀ j, q ≤ j → j < 4 → okk (σ.1 16) d p j) → okk (σ.1 16) d p q) := fun h => h q (Nat.le_refl _) hq
      have go : okk (σ.1 16) d p q → ((∀ j, q ≤ j → j < 4 → okk (σ.1 16) d p j) → l_X6_isClosed_40 k n (nI p) (nI (q + 1)) σ = k (nI (p + 1)) σ) ∧ ((∃ j, q ≤ j ∧ j < 4 ∧ ¬ okk (σ.1 16) d p j) → l_X6_isClosed_40 k n (nI p) (nI (q + 1)) σ = some (0, σ)) := by
        intro hok
        refine ⟨fun hh => i1 (fun j a b => hh j (by omega) b), fun ⟨j, a, b, e⟩ => i2 ⟨j, ?_, b, e⟩⟩
        rcases Nat.lt_or_ge q j with h9 | h9
        · omega
        · have : j = q := by omega
          subst this; exact absurd hok e
      by_cases h0 : d p = 0
      · rw [h0, if_pos (by decide), pz_1, nI_add]
        exact go (fun h => by omega)
      · rw [if_neg (nI_nle (by omega) (by omega)), if_pos (pz_in hp (by decide)), pz_m1 (by omega), pz_clockOf σ hp (by omega) hq, pz_bi_some, if_pos (pz_in hq (by decide)), nI_clamp (n := q) (by omega), d4, pz_1, nI_add]
        by_cases hk : σ.1 16 (4 * (6 * p + (d p - 1)) + q) ≤ nI (d q)
        · rw [if_pos hk]
          exact go (fun _ => hk)
        · rw [if_neg hk, if_pos pz_isb0]
          exact ⟨fun hh => absurd (next hh (by omega)) hk, fun _ => rfl⟩
theorem cl_out {σ : pw_St} {d : Nat → Nat} (hd : ∀ j, j < 4 → d j ≤ 6 ∧ σ.1 25 j = nI (d j)) : ∀ (n p : Nat), p ≤ 4 → 4 - p < n → ((∀ i, p ≤ i → i < 4 → ∀ j, j < 4 → okk (σ.1 16) d i j) → l_X6_isClosed_32 n (nI p) σ = some (1, σ)) ∧ ((∃ i j, p ≤ i ∧ i < 4 ∧ j < 4 ∧ ¬ okk (σ.1 16) d i j) → l_X6_isClosed_32 n (nI p) σ = some (0, σ)) := by
  intro n
  induction n with
  | zero => intro p _ h; omega
  | succ n ih =>
    intro p h1 h2
    have key : l_X6_isClosed_32 (n + 1) (nI p) σ = b_X6_isClosed_32 (l_X6_isClosed_32 n) (nI p) σ := rfl
    rw [key]
    unfold b_X6_isClosed_32
    by_cases h : p = 4
    · subst h
      rw [if_pos (by decide), if_pos pz_isb1]
      exact ⟨fun _ => rfl, fun ⟨i, j, a, b, _⟩ => by omega⟩
    · have hp : p < 4 := by omega
      obtain ⟨i1, i2⟩ := ih (p + 1) (by omega) (by omega)
      obtain ⟨c1, c2⟩ := cl_in (l_X6_isClosed_32 n) hp hd pw_FU 0 (by omega) (by unfold pw_FU; omega)
      rw [if_neg (show ¬ (4 : Int32) ≤ nI p from nI_ge (b := 4) hp (by decide)), pz_0]
      refine ⟨fun hh => ?_, fun ⟨i, j, a, b, e, f⟩ => ?_⟩
      · rw [c1 (fun j _ b => hh p (Nat.le_refl _) hp j b)]
        exact i1 (fun i a b => hh i (by omega) b)
      · by_cases hb : ∃ j, 0 ≤ j ∧ j < 4 ∧ ¬ okk (σ.1 16) d p j
        · exact c2 hb
        · have hall : ∀ j, 0 ≤ j → j < 4 → okk (σ.1 16) d p j := fun j a b => Classical.byContradiction (fun hn => hb ⟨j, a, b, hn⟩)
          rw [c1 hall]
          refine i2 ⟨i, j, ?_, b, e, f⟩
          rcases Nat.lt_or_ge p i with h9 | h9
          · omega
          · have : i = p := by omega
            subst this; exact absurd (hall j (Nat.zero_le _) e) f
/-- the net's own counts: the digits of a cut -/
def cntP (f : Nat → Int32) (c n : Nat) : Nat → Int32 := fun j => if j < n then nI (dg c j) else f j
theorem cl_cnt {σ : pw_St} (f : Nat → Int32) (c : Nat) (hc : c < 2401) : ∀ (n p : Nat), p ≤ 4 → 4 - p < n → l_X6_isClosed_4 n (nI (c / 7 ^ p)) (nI p) (pw_rw σ 25 (cntP f c p)) = l_X6_isClosed_32 pw_FU (nI 0) (pw_rw σ 25 (cntP f c 4)) := by
  intro n
  induction n with
  | zero => intro p _ h; omega
  | succ n ih =>
    intro p h1 h2
    show b_X6_isClosed_4 (l_X6_isClosed_4 n) _ _ _ = _
    unfold b_X6_isClosed_4
    have hcp : c / 7 ^ p < 2 ^ 31 := Nat.lt_of_le_of_lt (Nat.div_le_self _ _) (by omega)
    by_cases h : p = 4
    · subst h
      rw [if_pos (by decide)]
      rfl
    · have hp : p < 4 := by omega
      rw [if_neg (show ¬ (4 : Int32) ≤ nI p from nI_ge (b := 4) hp (by decide)), if_pos (pz_in hp (by decide)), pz_lt, rw_sM, rw_get, rw_rw, nI_clamp (n := p) (by omega), pz_rem7 hcp, pz_div7 hcp, pz_1, nI_add, Nat.div_div_eq_div_mul, ← Nat.pow_succ]
      have e : upd (cntP f c p) p (nI (c / 7 ^ p % 7)) = cntP f c (p + 1) := by
        funext j
        unfold cntP upd
        by_cases hj : j = p
        · subst hj
          rw [if_pos rfl, if_pos (by omega)]
          rfl
        · rw [if_neg hj]
          dsimp only
          by_cases hl : j < p
          · rw [if_pos hl, if_pos (by omega)]
          · rw [if_neg hl, if_neg (by omega)]
      rw [e]
      exact ih (p + 1) (by omega) (by omega)
theorem pz_closed {σ : pw_St} {c : Nat} (hc : c < 2401) : (clo (σ.1 16) c → f_X6_isClosed (nI c) σ = some (1, pw_rw σ 25 (cntP (σ.1 25) c 4))) ∧ (¬ clo (σ.1 16) c → f_X6_isClosed (nI c) σ = some (0, pw_rw σ 25 (cntP (σ.1 25) c 4))) := by
  have h0 : f_X6_isClosed (nI c) σ = l_X6_isClosed_32 pw_FU (nI 0) (pw_rw σ 25 (cntP (σ.1 25) c 4)) := by
    unfold f_X6_isClosed
    have := cl_cnt (σ := σ) (σ.1 25) c hc pw_FU 0 (by omega) (by unfold pw_FU; omega)
    rw [Nat.pow_zero, Nat.div_one, show cntP (σ.1 25) c 0 = σ.1 25 by funext j; unfold cntP; rw [if_neg (by omega)], rw_id] at this
    exact this
  rw [h0]
  have hd : ∀ j, j < 4 → dg c j ≤ 6 ∧ (pw_rw σ 25 (cntP (σ.1 25) c 4)).1 25 j = nI (dg c j) := by
    intro j hj
    refine ⟨by have := dg_lt c j; omega, ?_⟩
    rw [rw_get]
    unfold cntP
    rw [if_pos hj]
  obtain ⟨c1, c2⟩ := cl_out hd pw_FU 0 (by omega) (by unfold pw_FU; omega)
  refine ⟨fun h => c1 (fun i _ b j e => h i b j e), fun h => c2 ?_⟩
  refine Classical.byContradiction (fun hn => h (fun p hp q hq => Classical.byContradiction (fun hk => hn ⟨p, q, Nat.zero_le _, hp, hq, hk⟩)))
-- the reference
theorem ip_inn {σ : pw_St} {np c p : Nat} {d : Nat} (k : Int32 → Int32 → pw_St → Option (Int32 × pw_St)) (hnp : np ≤ 4) (e1 : σ.1 10 1 = nI np) (hc : c < 2401) (hp : p < 4) (hd : d = dg c p) : ∀ (n q : Nat), q ≤ np → np - q < n → ((∀ j, q ≤ j → j < np → okk (σ.1 39) (dg c) p j) → l_X11_isPossible_29 k n (nI c) (nI p) (nI d) (nI q) σ = k (nI c) (nI (p + 1)) σ) ∧ ((∃ j, q ≤ j ∧ j < np ∧ ¬ okk (σ.1 39) (dg c) p j) → l_X11_isPossible_29 k n (nI c) (nI p) (nI d) (nI q) σ = some (0, σ)) := by
  intro n
  induction n with
  | zero => intro q _ h; omega
  | succ n ih =>
    intro q h1 h2
    have key : l_X11_isPossible_29 k (n + 1) (nI c) (nI p) (nI d) (nI q) σ = b_X11_isPossible_29 k (l_X11_isPossible_29 k n) (nI c) (nI p) (nI d) (nI q) σ := rfl
    rw [key]
    unfold b_X11_isPossible_29
    have h7 := dg_lt c p
    by_cases h : q = np
    · subst h
      rw [e1, if_pos (nI_le (Nat.le_refl _) (by omega)), pz_1, nI_add]
      exact ⟨fun _ => rfl, fun ⟨j, a, b, _⟩ => by omega⟩
    · have hq : q < np := by omega
      obtain ⟨i1, i2⟩ := ih (q + 1) (by omega) (by omega)
      rw [e1, if_neg (nI_ge hq (by omega)), pz_1, nI_add, nI_add]
      by_cases h0 : d = 0
      · rw [h0, if_pos (by decide)]
        have hok : ∀ j, okk (σ.1 39) (dg c) p j := fun j hh => by omega
        exact ⟨fun _ => rfl, fun ⟨j, _, _, e⟩ => absurd (hok j) e⟩
      · rw [if_neg (nI_nle (by omega) (by omega)), ixp2, show nI (6 * p + d) - nI 1 = nI (6 * p + (d - 1)) by rw [pk_sub (by omega)]; congr 1; omega, ix46, if_pos (pz_in (by omega) (by decide)), pz_part σ (by omega) (by omega), pz_bi_some, nI_clamp (by omega)]
        by_cases hk : σ.1 39 (4 * (6 * p + (d - 1)) + q) ≤ nI (dg c q)
        · rw [if_pos hk]
          refine ⟨fun hh => i1 (fun j a b => hh j (by omega) b), fun ⟨j, a, b, e⟩ => i2 ⟨j, ?_, b, e⟩⟩
          rcases Nat.lt_or_ge q j with h9 | h9
          · omega
          · have : j = q := by omega
            subst this
            rw [hd] at hk
            exact absurd (fun _ => hk) e
        · rw [if_neg hk, if_pos pz_isb0]
          refine ⟨fun hh => absurd ?_ hk, fun _ => rfl⟩
          rw [hd]
          exact hh q (Nat.le_refl _) hq (by omega)
theorem ip_out {σ : pw_St} {np c : Nat} (hnp : np ≤ 4) (e1 : σ.1 10 1 = nI np) (hc : c < 2401) : ∀ (n p : Nat), p ≤ np → np - p < n → ((∀ i, p ≤ i → i < np → ∀ j, j < np → okk (σ.1 39) (dg c) i j) → l_X11_isPossible_12 n (nI c) (nI p) σ = some (1, σ)) ∧ ((∃ i j, p ≤ i ∧ i < np ∧ j < np ∧ ¬ okk (σ.1 39) (dg c) i j) → l_X11_isPossible_12 n (nI c) (nI p) σ = some (0, σ)) := by
  intro n
  induction n with
  | zero => intro p _ h; omega
  | succ n ih =>
    intro p h1 h2
    have key : l_X11_isPossible_12 (n + 1) (nI c) (nI p) σ = b_X11_isPossible_12 (l_X11_isPossible_12 n) (nI c) (nI p) σ := rfl
    rw [key]
    unfold b_X11_isPossible_12
    by_cases h : p = np
    · subst h
      rw [e1, if_pos (nI_le (Nat.le_refl _) (by omega)), if_pos pz_isb1]
      exact ⟨fun _ => rfl, fun ⟨i, j, a, b, _⟩ => by omega⟩
    · have hp : p < np := by omega
      obtain ⟨i1, i2⟩ := ih (p + 1) (by omega) (by omega)
      obtain ⟨c1, c2⟩ := ip_inn (l_X11_isPossible_12 n) hnp e1 hc (show p < 4 by omega) rfl pw_FU 0 (by omega) (by unfold pw_FU; omega)
      rw [e1, if_neg (nI_ge hp (by omega)), pz_part σ (by omega) (by omega), pz_bi_some, pz_0]
      refine ⟨fun hh => ?_, fun ⟨i, j, a, b, e, f⟩ => ?_⟩
      · rw [c1 (fun j _ b => hh p (Nat.le_refl _) hp j b)]
        exact i1 (fun i a b => hh i (by omega) b)
      · by_cases hb : ∃ j, 0 ≤ j ∧ j < np ∧ ¬ okk (σ.1 39) (dg c) p j
        · exact c2 hb
        · have hall : ∀ j, 0 ≤ j → j < np → okk (σ.1 39) (dg c) p j := fun j a b => Classical.byContradiction (fun hn => hb ⟨j, a, b, hn⟩)
          rw [c1 hall]
          refine i2 ⟨i, j, ?_, b, e, f⟩
          rcases Nat.lt_or_ge p i with h9 | h9
          · omega
          · have : i = p := by omega
            subst this; exact absurd (hall j (Nat.zero_le _) e) f
/-- clocks of what came: none is beyond what came -/
def ckB (np : Nat) (ev : Nat → Nat) (f : Nat → Int32) : Prop := ∀ p, p < 4 → ∀ i, i < ev p → ∀ q, q < 4 → ∃ v, v ≤ ev q ∧ f (4 * (6 * p + i) + q) = nI v
theorem ckB_of {r12 r13 r14 r15 r16 r18 r19 r20 : Nat → Int32} {np nl tot : Nat} {ev g : Nat → Nat} (hO : HOf r12 r13 r14 r15 r16 r18 r19 r20 np nl tot ev g) : ckB np ev r16 := by
  intro p hp i hi q hq
  obtain ⟨t, t1, t2, t3, t4⟩ := sl_of hO.2.1 hp hi
  obtain ⟨v, a1, a2⟩ := hO.2.2.2.1 t t1 q hq
  refine ⟨v, ?_, by rw [← t4]; exact a2⟩
  have := cn_mono g q (show t + 1 ≤ tot by omega)
  rw [hO.2.1 q hq] at this
  omega
/-- possible, for the processes that there are -/
theorem clo_np {np c : Nat} {ev : Nat → Nat} {f : Nat → Int32} (h0 : ∀ p, np ≤ p → p < 4 → ev p = 0) (hk : ckB np ev f) (hC : isC ev c) (h : ∀ i, i < np → i < 4 → ∀ j, j < np → j < 4 → okk f (dg c) i j) : clo f c := by
  intro p hp q hq hd
  have h1 := hC.2 p hp
  have hpn : p < np := by
    rcases Nat.lt_or_ge p np with h9 | h9
    · exact h9
    · have := h0 p h9 hp; omega
  by_cases hqn : q < np
  · exact h p hpn hp q hqn hq hd
  · obtain ⟨v, a1, a2⟩ := hk p hp (dg c p - 1) (by omega) q hq
    rw [a2]
    have := h0 q (by omega) hq
    have hv : v = 0 := by omega
    subst hv
    exact nI_le (Nat.zero_le _) (by have := dg_lt c q; omega)
theorem ips {σ : pw_St} {np : Nat} {ev : Nat → Nat} (hM : CutM σ np ev) (hk : ckB np ev (σ.1 39)) (x : Int32) : (∀ c, x = nI c → pos ev (σ.1 39) c → f_X11_isPossible x σ = some (1, σ)) ∧ ((∀ c, x = nI c → c < 2401 → ¬ pos ev (σ.1 39) c) → f_X11_isPossible x σ = some (0, σ)) := by
  have hM2 := hM
  obtain ⟨m1, m2, m3, m4, m5⟩ := hM2
  refine ⟨fun c hx hp => ?_, fun hn => ?_⟩
  · subst hx
    unfold f_X11_isPossible
    rw [ic_yes hM hp.1, pz_bi_some, if_neg (by decide), pz_0]
    exact (ip_out m1 m4 hp.1.1 pw_FU 0 (by omega) (by unfold pw_FU; omega)).1 (fun i _ b j e => hp.2 i (by omega) j (by omega))
  · unfold f_X11_isPossible
    rcases cut3 ev x with ⟨c, rfl, hC⟩ | h
    · rw [ic_yes hM hC, pz_bi_some, if_neg (by decide), pz_0]
      refine (ip_out m1 m4 hC.1 pw_FU 0 (by omega) (by unfold pw_FU; omega)).2 ?_
      refine Classical.byContradiction (fun hh => hn c rfl hC.1 ⟨hC, clo_np m3 hk hC (fun i a _ j b _ => ?_)⟩)
      exact Classical.byContradiction (fun h9 => hh ⟨i, j, Nat.zero_le _, a, b, h9⟩)
    · rw [ic_no hM h, pz_bi_some, if_pos rfl, if_pos pz_isb0]
