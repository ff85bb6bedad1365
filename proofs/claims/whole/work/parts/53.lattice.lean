-- PURE PART: possible cuts as a lattice
def lec (a b : Nat) : Prop := ∀ p, p < 4 → dg a p ≤ dg b p
theorem lec_rf (a : Nat) : lec a a := fun _ _ => Nat.le_refl _
theorem lec_tr {a b c : Nat} (h1 : lec a b) (h2 : lec b c) : lec a c := fun p hp => Nat.le_trans (h1 p hp) (h2 p hp)
theorem dg_all {a b : Nat} (ha : a < 2401) (hb : b < 2401) (h : ∀ p, p < 4 → dg a p = dg b p) : a = b := by
  rw [dg_sum ha, dg_sum hb, h 0 (by omega), h 1 (by omega), h 2 (by omega), h 3 (by omega)]
theorem lec_as {a b : Nat} (ha : a < 2401) (hb : b < 2401) (h1 : lec a b) (h2 : lec b a) : a = b := dg_all ha hb (fun p hp => Nat.le_antisymm (h1 p hp) (h2 p hp))
theorem jd_lt {m : Bool} {a b : Nat} (ha : a < 7) (hb : b < 7) : jd m a b < 7 := by
  unfold jd; cases m <;> (simp only [Bool.false_eq_true, if_false, if_true]; split <;> omega)
theorem jn4 (m : Bool) (a b : Nat) : jn m a b 4 = jd m (dg a 0) (dg b 0) + 7 * jd m (dg a 1) (dg b 1) + 49 * jd m (dg a 2) (dg b 2) + 343 * jd m (dg a 3) (dg b 3) := by
  show 0 + 1 * jd m (dg a 0) (dg b 0) + 7 * jd m (dg a 1) (dg b 1) + 49 * jd m (dg a 2) (dg b 2) + 343 * jd m (dg a 3) (dg b 3) = _
  omega
theorem jn_lt (m : Bool) (a b : Nat) : jn m a b 4 < 2401 := by
  rw [jn4]
  have h0 := jd_lt (m := m) (dg_lt a 0) (dg_lt b 0)
  have h1 := jd_lt (m := m) (dg_lt a 1) (dg_lt b 1)
  have h2 := jd_lt (m := m) (dg_lt a 2) (dg_lt b 2)
  have h3 := jd_lt (m := m) (dg_lt a 3) (dg_lt b 3)
  omega
theorem jn_dg (m : Bool) (a b : Nat) {p : Nat} (hp : p < 4) : dg (jn m a b 4) p = jd m (dg a p) (dg b p) := by
  rw [jn4]
  have h0 := jd_lt (m := m) (dg_lt a 0) (dg_lt b 0)
  have h1 := jd_lt (m := m) (dg_lt a 1) (dg_lt b 1)
  have h2 := jd_lt (m := m) (dg_lt a 2) (dg_lt b 2)
  have h3 := jd_lt (m := m) (dg_lt a 3) (dg_lt b 3)
  generalize e0 : jd m (dg a 0) (dg b 0) = d0 at *
  generalize e1 : jd m (dg a 1) (dg b 1) = d1 at *
  generalize e2 : jd m (dg a 2) (dg b 2) = d2 at *
  generalize e3 : jd m (dg a 3) (dg b 3) = d3 at *
  have k0 : dg (d0 + 7 * d1 + 49 * d2 + 343 * d3) 0 = d0 := by simp only [dg, Nat.reducePow]; omega
  have k1 : dg (d0 + 7 * d1 + 49 * d2 + 343 * d3) 1 = d1 := by simp only [dg, Nat.reducePow]; omega
  have k2 : dg (d0 + 7 * d1 + 49 * d2 + 343 * d3) 2 = d2 := by simp only [dg, Nat.reducePow]; omega
  have k3 : dg (d0 + 7 * d1 + 49 * d2 + 343 * d3) 3 = d3 := by simp only [dg, Nat.reducePow]; omega
  rcases (show p = 0 ∨ p = 1 ∨ p = 2 ∨ p = 3 by omega) with rfl | rfl | rfl | rfl
  · rw [k0, e0]
  · rw [k1, e1]
  · rw [k2, e2]
  · rw [k3, e3]
/-- the order, or the order the other way -/
def leb (m : Bool) (a b : Nat) : Prop := if m then lec a b else lec b a
theorem leb_rf (m : Bool) (a : Nat) : leb m a a := by unfold leb; cases m <;> exact lec_rf a
theorem leb_tr {m : Bool} {a b c : Nat} (h1 : leb m a b) (h2 : leb m b c) : leb m a c := by
  unfold leb at *; cases m
  · exact lec_tr h2 h1
  · exact lec_tr h1 h2
theorem leb_as {m : Bool} {a b : Nat} (ha : a < 2401) (hb : b < 2401) (h1 : leb m a b) (h2 : leb m b a) : a = b := by
  unfold leb at *; cases m
  · exact lec_as ha hb h2 h1
  · exact lec_as ha hb h1 h2
theorem jd_1 (m : Bool) (x y : Nat) : if m then jd m x y ≤ x ∧ jd m x y ≤ y else x ≤ jd m x y ∧ y ≤ jd m x y := by
  unfold jd
  cases m
  · simp only [Bool.false_eq_true, if_false]; split <;> omega
  · simp only [if_true]; split <;> omega
theorem jn_l (m : Bool) (a b : Nat) : leb m (jn m a b 4) a := by
  unfold leb; cases m
  · intro p hp; rw [jn_dg false a b hp]; exact (jd_1 false _ _).1
  · intro p hp; rw [jn_dg true a b hp]; exact (jd_1 true _ _).1
theorem jn_r (m : Bool) (a b : Nat) : leb m (jn m a b 4) b := by
  unfold leb; cases m
  · intro p hp; rw [jn_dg false a b hp]; exact (jd_1 false _ _).2
  · intro p hp; rw [jn_dg true a b hp]; exact (jd_1 true _ _).2
theorem jd_g (m : Bool) {x y z : Nat} : if m then (z ≤ x → z ≤ y → z ≤ jd m x y) else (x ≤ z → y ≤ z → jd m x y ≤ z) := by
  unfold jd
  cases m
  · simp only [Bool.false_eq_true, if_false]; intro h1 h2; split <;> omega
  · simp only [if_true]; intro h1 h2; split <;> omega
theorem jn_g {m : Bool} {a b c : Nat} (h1 : leb m c a) (h2 : leb m c b) : leb m c (jn m a b 4) := by
  unfold leb at *; cases m
  · intro p hp; rw [jn_dg false a b hp]; exact jd_g false (h1 p hp) (h2 p hp)
  · intro p hp; rw [jn_dg true a b hp]; exact jd_g true (h1 p hp) (h2 p hp)
theorem jn_c (m : Bool) (a b : Nat) : jn m a b 4 = jn m b a 4 :=
  leb_as (m := m) (jn_lt _ _ _) (jn_lt _ _ _) (jn_g (jn_r m a b) (jn_l m a b)) (jn_g (jn_r m b a) (jn_l m b a))
theorem jn_s (m : Bool) {a : Nat} (ha : a < 2401) : jn m a a 4 = a := leb_as (m := m) (jn_lt _ _ _) ha (jn_l m a a) (jn_g (leb_rf m a) (leb_rf m a))
theorem MoC_le {f : Nat → Int32} {ev : Nat → Nat} (h : MoC f ev) {p q : Nat} (hp : p < 4) (hq : q < 4) : ∀ {i j : Nat}, i ≤ j → j < ev p → f (4 * (6 * p + i) + q) ≤ f (4 * (6 * p + j) + q) := by
  intro i j
  induction j with
  | zero => intro h1 _; rw [show i = 0 by omega]; exact Int32.le_refl _
  | succ j ih =>
    intro h1 h2
    by_cases e : i = j + 1
    · rw [e]; exact Int32.le_refl _
    · exact Int32.le_trans (ih (by omega) (by omega)) (h p hp j h2 q hq)
theorem okk_jn {f : Nat → Int32} {ev : Nat → Nat} (h6 : ∀ p, p < 4 → ev p ≤ 6) (hm : MoC f ev) (m : Bool) {a b p q : Nat} (hp : p < 4) (hq : q < 4) (ha : pos ev f a) (hb : pos ev f b) (hle : jd m (dg a p) (dg b p) = dg a p) : 0 < dg a p → f (4 * (6 * p + (dg a p - 1)) + q) ≤ nI (jd m (dg a q) (dg b q)) := by
  intro h0
  have k1 := ha.2 p hp q hq h0
  have d1 := dg_lt a q
  have d2 := dg_lt b q
  have d3 := hb.1.2 p hp
  cases m
  · refine Int32.le_trans k1 (nI_le (jd_1 false _ _).1 ?_)
    have := jd_lt (m := false) d1 d2; omega
  · have h1 := (jd_1 true (dg a p) (dg b p)).2
    rw [hle] at h1
    have k2 := hb.2 p hp q hq (show 0 < dg b p by omega)
    have k3 := Int32.le_trans (MoC_le hm hp hq (show dg a p - 1 ≤ dg b p - 1 by omega) (by omega)) k2
    unfold jd
    rw [if_pos rfl]
    split
    · exact k1
    · exact k3
theorem jd_c (m : Bool) (a b : Nat) : jd m a b = jd m b a := by
  unfold jd; cases m
  · simp only [Bool.false_eq_true, if_false]; split <;> split <;> omega
  · simp only [if_true]; split <;> split <;> omega
theorem jd_2 (m : Bool) (a b : Nat) : jd m a b = a ∨ jd m a b = b := by
  unfold jd; cases m
  · simp only [Bool.false_eq_true, if_false]; split <;> simp
  · simp only [if_true]; split <;> simp
theorem pos_jn {f : Nat → Int32} {ev : Nat → Nat} (h6 : ∀ p, p < 4 → ev p ≤ 6) (hm : MoC f ev) (m : Bool) {a b : Nat} (ha : pos ev f a) (hb : pos ev f b) : pos ev f (jn m a b 4) := by
  refine ⟨⟨jn_lt _ _ _, fun p hp => ?_⟩, fun p hp q hq => ?_⟩
  · rw [jn_dg m a b hp]
    rcases jd_2 m (dg a p) (dg b p) with h | h
    · rw [h]; exact ha.1.2 p hp
    · rw [h]; exact hb.1.2 p hp
  · unfold okk
    rw [jn_dg m a b hp, jn_dg m a b hq]
    rcases jd_2 m (dg a p) (dg b p) with h | h
    · rw [h]; exact okk_jn h6 hm m hp hq ha hb h
    · have h' := h
      rw [jd_c] at h'
      rw [h, jd_c m (dg a q)]
      exact okk_jn h6 hm m hp hq hb ha h'
theorem nat_least {X : Nat → Prop} : ∀ t, X t → ∃ u, X u ∧ ∀ v, v < u → ¬ X v := by
  intro t
  induction t using Nat.strongRecOn with
  | ind t ih =>
    intro h
    by_cases hh : ∃ v, v < t ∧ X v
    · obtain ⟨v, h1, h2⟩ := hh
      exact ih v h1 h2
    · exact ⟨t, h, fun v hv hx => hh ⟨v, hv, hx⟩⟩
theorem nat_most {X : Nat → Prop} {T t : Nat} (ht : t < T) (h : X t) : ∃ u, u < T ∧ X u ∧ ∀ v, u < v → v < T → ¬ X v := by
  obtain ⟨s, ⟨s1, s2, s3⟩, s4⟩ := nat_least (X := fun s => 0 < s ∧ s ≤ T ∧ X (T - s)) (T - t) ⟨by omega, by omega, by rw [show T - (T - t) = t by omega]; exact h⟩
  exact ⟨T - s, by omega, s3, fun v h1 h2 hx => s4 (T - v) (by omega) ⟨by omega, by omega, by rw [show T - (T - v) = v by omega]; exact hx⟩⟩
theorem lec_ne {a b : Nat} (ha : a < 2401) (hb : b < 2401) (h : lec a b) (hne : a ≠ b) : ∃ p, p < 4 ∧ dg a p < dg b p := by
  by_cases hh : ∃ p, p < 4 ∧ dg a p < dg b p
  · exact hh
  · refine absurd (dg_all ha hb (fun p hp => ?_)) hne
    have := h p hp
    have : ¬ dg a p < dg b p := fun hl => hh ⟨p, hp, hl⟩
    omega
/-- a step up from a possible cut towards one above it -/
theorem go_up {r12 r13 r14 r15 f r18 r19 r20 : Nat → Int32} {np nl tot : Nat} {ev g : Nat → Nat} (hO : HOf r12 r13 r14 r15 f r18 r19 r20 np nl tot ev g) (hnp : np ≤ 4) (h6 : ∀ p, p < 4 → ev p ≤ 6) (hm : MoC f ev) {c d : Nat} (hc : pos ev f c) (hd : pos ev f d) (hl : lec c d) (hne : c ≠ d) : ∃ p, p < 4 ∧ dg c p < dg d p ∧ pos ev f (c + un p) := by
  obtain ⟨o1, o2, o3, o4, -⟩ := hO
  obtain ⟨p0, hp0, hl0⟩ := lec_ne hc.1.1 hd.1.1 hl hne
  obtain ⟨t0, a1, a2, a3, a4⟩ := sl_of o2 hp0 (show dg c p0 < ev p0 by have := hd.1.2 p0 hp0; omega)
  obtain ⟨t, ⟨x1, x2, x3⟩, x4⟩ := nat_least (X := fun t => t < tot ∧ cn g (g t) t = dg c (g t) ∧ dg c (g t) < dg d (g t)) t0 ⟨a1, by rw [a2]; exact a3, by rw [a2]; exact hl0⟩
  have hp : g t < 4 := by have := (o1 t x1).2; omega
  obtain ⟨p, ep⟩ : ∃ p, p = g t := ⟨_, rfl⟩
  rw [← ep] at hp x2 x3
  have h6p := h6 p hp
  have hdp := hd.1.2 p hp
  have hc6 : dg c p < 6 := by omega
  refine ⟨p, hp, x3, ⟨up_lt hc.1.1 hp hc6, fun q hq => ?_⟩, fun p' hp' q hq => ?_⟩
  · by_cases e : q = p
    · subst e; rw [dg_up hp hc6]; omega
    · rw [dg_ot hp hq e hc6]; exact hc.1.2 q hq
  · have hq7 := dg_lt c q
    have hqle : dg c q ≤ dg (c + un p) q := by
      by_cases e : q = p
      · subst e; rw [dg_up hp hc6]; omega
      · rw [dg_ot hp hq e hc6]; exact Nat.le_refl _
    have hq8 := dg_lt (c + un p) q
    by_cases e : p' = p
    · subst e
      intro _
      rw [dg_up hp hc6, show dg c p' + 1 - 1 = dg c p' by omega]
      obtain ⟨v, v1, v2⟩ := o4 t x1 q hq
      have es : sl g t = 6 * p' + dg c p' := by unfold sl; rw [← ep, x2]
      rw [es] at v2
      rw [v2]
      by_cases e2 : q = p'
      · subst e2
        rw [dg_up hp hc6]
        rw [cn_s, if_pos ep.symm, x2] at v1
        exact nI_le (by omega) (by omega)
      · rw [dg_ot hp hq e2 hc6]
        rw [cn_s, if_neg (fun e3 => e2 (by rw [ep, e3]))] at v1
        refine nI_le ?_ (by omega)
        rcases Nat.lt_or_ge (dg c q) v with hv | hv
        · exfalso
          obtain ⟨t', y1, y2, y3⟩ := ct_kth (fun u => decide (g u = q)) (k := dg c q) (n := t) (by unfold cn at v1; omega)
          have y4 : g t' = q := of_decide_eq_true y2
          have hnl : ¬ dg c q < dg d q := fun hh => x4 t' y1 ⟨by omega, by rw [y4]; exact y3, by rw [y4]; exact hh⟩
          have k2 := hd.2 p' hp q hq (show 0 < dg d p' by omega)
          have k3 := Int32.le_trans (MoC_le hm hp hq (show dg c p' ≤ dg d p' - 1 by omega) (by omega)) k2
          rw [v2] at k3
          have d7 := dg_lt d q
          have hev := h6 q hq
          have hcn : cn g q t ≤ cn g q tot := cn_mono g q (by omega)
          rw [o2 q hq] at hcn
          have := (nI_leI (by omega) (by omega)).mp k3
          have := hl q hq
          omega
        · exact hv
    · unfold okk
      rw [dg_ot hp hp' e hc6]
      intro h0
      exact Int32.le_trans (hc.2 p' hp' q hq h0) (nI_le hqle (by omega))
theorem dg_dn {c p : Nat} (hp : p < 4) (h : 0 < dg c p) : dg (c - un p) p = dg c p - 1 := by
  rcases (show p = 0 ∨ p = 1 ∨ p = 2 ∨ p = 3 by omega) with rfl | rfl | rfl | rfl <;> (simp only [dg, un, Nat.reducePow] at h ⊢; omega)
theorem dg_od {c p q : Nat} (hp : p < 4) (hq : q < 4) (hne : q ≠ p) (h : 0 < dg c p) : dg (c - un p) q = dg c q := by
  rcases (show p = 0 ∨ p = 1 ∨ p = 2 ∨ p = 3 by omega) with rfl | rfl | rfl | rfl <;> rcases (show q = 0 ∨ q = 1 ∨ q = 2 ∨ q = 3 by omega) with rfl | rfl | rfl | rfl <;> first | omega | (simp only [dg, un, Nat.reducePow] at h ⊢; omega)
theorem un_lec {c p : Nat} (hp : p < 4) (h : 0 < dg c p) : un p ≤ c := by
  rcases (show p = 0 ∨ p = 1 ∨ p = 2 ∨ p = 3 by omega) with rfl | rfl | rfl | rfl <;> (simp only [dg, un, Nat.reducePow] at h ⊢; omega)
/-- a step down from a possible cut towards one below it -/
theorem go_dn {r12 r13 r14 r15 f r18 r19 r20 : Nat → Int32} {np nl tot : Nat} {ev g : Nat → Nat} (hO : HOf r12 r13 r14 r15 f r18 r19 r20 np nl tot ev g) (hnp : np ≤ 4) (h6 : ∀ p, p < 4 → ev p ≤ 6) (hm : MoC f ev) {c d : Nat} (hc : pos ev f c) (hd : pos ev f d) (hl : lec c d) (hne : c ≠ d) : ∃ p, p < 4 ∧ dg c p < dg d p ∧ pos ev f (d - un p) := by
  obtain ⟨o1, o2, o3, o4, -⟩ := hO
  obtain ⟨p0, hp0, hl0⟩ := lec_ne hc.1.1 hd.1.1 hl hne
  obtain ⟨t0, a1, a2, a3, a4⟩ := sl_of o2 hp0 (show dg d p0 - 1 < ev p0 by have := hd.1.2 p0 hp0; omega)
  obtain ⟨t, x1, ⟨x2, x3⟩, x4⟩ := nat_most (X := fun t => cn g (g t) t + 1 = dg d (g t) ∧ dg c (g t) < dg d (g t)) a1 ⟨by rw [a2, a3]; omega, by rw [a2]; exact hl0⟩
  have hp : g t < 4 := by have := (o1 t x1).2; omega
  obtain ⟨p, ep⟩ : ∃ p, p = g t := ⟨_, rfl⟩
  rw [← ep] at hp x2 x3
  have h6p := h6 p hp
  have hdp := hd.1.2 p hp
  have hd0 : 0 < dg d p := by omega
  refine ⟨p, hp, x3, ⟨by have := hd.1.1; omega, fun q hq => ?_⟩, fun p' hp' q hq => ?_⟩
  · by_cases e : q = p
    · subst e; rw [dg_dn hp hd0]; omega
    · rw [dg_od hp hq e hd0]; exact hd.1.2 q hq
  · have hq7 := dg_lt d q
    by_cases e : p' = p
    · subst e
      intro h0
      rw [dg_dn hp hd0] at h0 ⊢
      have k2 := hd.2 p' hp q hq hd0
      have k3 := Int32.le_trans (MoC_le hm hp hq (show dg d p' - 1 - 1 ≤ dg d p' - 1 by omega) (by omega)) k2
      by_cases e2 : q = p'
      · subst e2
        rw [dg_dn hp hd0]
        obtain ⟨t2, b1, b2, b3, b4⟩ := sl_of o2 hp (show dg d q - 1 - 1 < ev q by omega)
        obtain ⟨v, v1, v2⟩ := o4 t2 b1 q hq
        rw [b4] at v2
        rw [v2]
        rw [cn_s, if_pos b2, b3] at v1
        exact nI_le (by omega) (by omega)
      · rw [dg_od hp hq e2 hd0]; exact k3
    · intro h0
      rw [dg_od hp hp' e hd0] at h0 ⊢
      have k2 := hd.2 p' hp' q hq h0
      by_cases e2 : q = p
      · subst e2
        rw [dg_dn hp hd0]
        by_cases hcd : dg c p' < dg d p'
        · obtain ⟨t2, b1, b2, b3, b4⟩ := sl_of o2 hp' (show dg d p' - 1 < ev p' by have := hd.1.2 p' hp'; omega)
          obtain ⟨v, v1, v2⟩ := o4 t2 b1 q hq
          rw [b4] at v2
          rw [v2]
          have hlt : t2 < t := by
            rcases Nat.lt_trichotomy t2 t with h | h | h
            · exact h
            · rw [h] at b2; exact absurd (b2.symm.trans ep.symm) e
            · exact absurd ⟨by rw [b2, b3]; omega, by rw [b2]; exact hcd⟩ (x4 t2 h b1)
          have := cn_mono g q (show t2 + 1 ≤ t by omega)
          exact nI_le (by omega) (by omega)
        · have e3 : dg c p' = dg d p' := by have := hl p' hp'; omega
          have k4 := hc.2 p' hp' q hq (by omega)
          rw [e3] at k4
          exact Int32.le_trans k4 (nI_le (by omega) (by omega))
      · rw [dg_od hp hq e2 hd0]; exact k2
