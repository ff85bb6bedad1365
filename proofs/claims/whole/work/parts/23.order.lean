-- PURE PART: the order in which events came
def ct (P : Nat → Bool) : Nat → Nat
  | 0 => 0
  | n + 1 => ct P n + (if P n then 1 else 0)
theorem ct_s (P : Nat → Bool) (n : Nat) : ct P (n + 1) = ct P n + (if P n then 1 else 0) := rfl
theorem ct_cong {P Q : Nat → Bool} : ∀ {n : Nat}, (∀ t, t < n → P t = Q t) → ct P n = ct Q n
  | 0, _ => rfl
  | n + 1, h => by rw [ct_s, ct_s, ct_cong (fun t ht => h t (by omega)), h n (by omega)]
theorem ct_mono (P : Nat → Bool) {m : Nat} : ∀ {n : Nat}, m ≤ n → ct P m ≤ ct P n
  | 0, h => by rw [show m = 0 by omega]; exact Nat.le_refl _
  | n + 1, h => by
    rcases Nat.lt_or_ge m (n + 1) with h1 | h1
    · have := ct_mono P (show m ≤ n by omega)
      rw [ct_s]; omega
    · rw [show m = n + 1 by omega]; exact Nat.le_refl _
theorem ct_le (P : Nat → Bool) : ∀ n : Nat, ct P n ≤ n
  | 0 => Nat.le_refl _
  | n + 1 => by
    have := ct_le P n
    rw [ct_s]
    split <;> omega
theorem ct_lt (P : Nat → Bool) {t n : Nat} (h : t < n) (hp : P t = true) : ct P t < ct P n := by
  have h1 := ct_mono P (show t + 1 ≤ n by omega)
  rw [ct_s, if_pos hp] at h1
  omega
theorem ct_kth (P : Nat → Bool) {k : Nat} : ∀ {n : Nat}, k < ct P n → ∃ t, t < n ∧ P t = true ∧ ct P t = k
  | 0, h => absurd h (Nat.not_lt_zero k)
  | n + 1, h => by
    rcases Nat.lt_or_ge k (ct P n) with h1 | h1
    · obtain ⟨t, h2, h3⟩ := ct_kth P h1
      exact ⟨t, by omega, h3⟩
    · rw [ct_s] at h
      by_cases hp : P n = true
      · rw [if_pos hp] at h
        exact ⟨n, by omega, hp, by omega⟩
      · rw [if_neg hp] at h; omega
/-- how many of the first t events are q's; the place of event t among all -/
def cn (g : Nat → Nat) (q t : Nat) : Nat := ct (fun u => decide (g u = q)) t
def sl (g : Nat → Nat) (t : Nat) : Nat := 6 * g t + cn g (g t) t
theorem cn_s (g : Nat → Nat) (q t : Nat) : cn g q (t + 1) = cn g q t + (if g t = q then 1 else 0) := by
  unfold cn
  rw [ct_s]
  by_cases h : g t = q <;> simp [h]
theorem cn_mono (g : Nat → Nat) (q : Nat) {m n : Nat} (h : m ≤ n) : cn g q m ≤ cn g q n := ct_mono _ h
theorem cn_lt (g : Nat → Nat) {t n : Nat} (h : t < n) : cn g (g t) t < cn g (g t) n := ct_lt _ h (by simp)
theorem cn_cong {g g2 : Nat → Nat} {q n : Nat} (h : ∀ t, t < n → g t = g2 t) : cn g q n = cn g2 q n := ct_cong (fun t ht => by rw [h t ht])
def HOf (r12 r13 r14 r15 r16 r18 r19 r20 : Nat → Int32) (np nl tot : Nat) (ev g : Nat → Nat) : Prop :=
  (∀ t, t < tot → r12 t = nI (g t) ∧ g t < np) ∧ (∀ p, p < 4 → cn g p tot = ev p) ∧ (∀ t, t < tot → r15 (sl g t) = nI t) ∧ (∀ t, t < tot → ∀ q, q < 4 → ∃ v, v ≤ cn g q (t + 1) ∧ r16 (4 * sl g t + q) = nI v) ∧
  ct (fun t => decide (r13 (sl g t) = 2)) tot = nl ∧ (∀ t, t < tot → r13 (sl g t) = 3 → ∃ l, l < 24 ∧ r14 (sl g t) = nI l) ∧
  (∀ l, l < nl → ∃ t, t < tot ∧ r13 (sl g t) = 2 ∧ ct (fun u => decide (r13 (sl g u) = 2)) t = l ∧ r18 l = nI (g t) ∧ r20 l = nI (cn g (g t) t) ∧ ∃ b, b < np ∧ b ≠ g t ∧ r19 l = nI b)
/-- the places of events differ from the next place of a process -/
theorem sl_ne {g ev : Nat → Nat} {tot np p t : Nat} (hnp : np ≤ 4) (h1 : ∀ t, t < tot → g t < np) (h2 : ∀ p, p < 4 → cn g p tot = ev p) (h6 : ∀ p, p < 4 → ev p ≤ 6) (hp : p < 4) (hi : ev p < 6) (ht : t < tot) : sl g t ≠ 6 * p + ev p := by
  have a1 := h1 t ht
  have a2 := cn_lt g ht
  rw [h2 (g t) (by omega)] at a2
  have a3 := h6 (g t) (by omega)
  unfold sl
  by_cases h : g t = p
  · rw [h] at a2 ⊢; omega
  · omega
theorem sl_lt {g ev : Nat → Nat} {tot np t : Nat} (hnp : np ≤ 4) (h1 : ∀ t, t < tot → g t < np) (h2 : ∀ p, p < 4 → cn g p tot = ev p) (h6 : ∀ p, p < 4 → ev p ≤ 6) (ht : t < tot) : cn g (g t) t < 6 ∧ sl g t < 24 := by
  have a1 := h1 t ht
  have a2 := cn_lt g ht
  rw [h2 (g t) (by omega)] at a2
  have a3 := h6 (g t) (by omega)
  unfold sl
  omega
/-- where the i-th event of p lies -/
theorem sl_of {g ev : Nat → Nat} {tot p i : Nat} (h2 : ∀ p, p < 4 → cn g p tot = ev p) (hp : p < 4) (hi : i < ev p) : ∃ t, t < tot ∧ g t = p ∧ cn g p t = i ∧ sl g t = 6 * p + i := by
  obtain ⟨t, a1, a2, a3⟩ := ct_kth (fun u => decide (g u = p)) (k := i) (n := tot) (by have := h2 p hp; unfold cn at this; omega)
  have a4 : g t = p := of_decide_eq_true a2
  refine ⟨t, a1, a4, a3, ?_⟩
  unfold sl
  rw [a4]
  unfold cn
  rw [a3]
def gp (g : Nat → Nat) (tot p : Nat) : Nat → Nat := fun t => if t = tot then p else g t
def evp (ev : Nat → Nat) (p : Nat) : Nat → Nat := fun q => if q = p then ev q + 1 else ev q
theorem gp_lo {g : Nat → Nat} {tot p t : Nat} (h : t < tot) : gp g tot p t = g t := by unfold gp; rw [if_neg (by omega)]
theorem gp_cn {g : Nat → Nat} {tot p q n : Nat} (h : n ≤ tot) : cn (gp g tot p) q n = cn g q n := cn_cong (fun t ht => gp_lo (by omega))
theorem gp_sl {g : Nat → Nat} {tot p t : Nat} (h : t < tot) : sl (gp g tot p) t = sl g t := by
  unfold sl
  rw [gp_lo h, gp_cn (by omega)]
theorem gp_new {g : Nat → Nat} {tot p : Nat} : sl (gp g tot p) tot = 6 * p + cn g p tot := by
  unfold sl
  rw [show gp g tot p tot = p by unfold gp; rw [if_pos rfl], gp_cn (Nat.le_refl _)]
/-- an event more -/
theorem HO_push {r12 r13 r14 r15 r16 r18 r19 r20 s16 s18 s19 s20 : Nat → Int32} {np nl nl2 tot p : Nat} {ev g : Nat → Nat} {kd sb : Int32} (hO : HOf r12 r13 r14 r15 r16 r18 r19 r20 np nl tot ev g) (hnp : np ≤ 4) (h6 : ∀ p, p < 4 → ev p ≤ 6) (hp : p < np) (hi : ev p < 6)
    (h16 : ∀ j, j < 4 * (6 * p + ev p) ∨ 4 * (6 * p + ev p) + 4 ≤ j → s16 j = r16 j) (h16n : ∀ q, q < 4 → ∃ v, v ≤ evp ev p q ∧ s16 (4 * (6 * p + ev p) + q) = nI v)
    (hnl : nl2 = nl + (if kd = 2 then 1 else 0)) (h3 : kd = 3 → ∃ l, l < 24 ∧ sb = nI l) (hlo : ∀ l, l < nl → s18 l = r18 l ∧ s19 l = r19 l ∧ s20 l = r20 l)
    (hln : kd = 2 → s18 nl = nI p ∧ s20 nl = nI (ev p) ∧ ∃ b, b < np ∧ b ≠ p ∧ s19 nl = nI b) :
    HOf (upd r12 tot (nI p)) (upd r13 (6 * p + ev p) kd) (upd r14 (6 * p + ev p) sb) (upd r15 (6 * p + ev p) (nI tot)) s16 s18 s19 s20 np nl2 (tot + 1) (evp ev p) (gp g tot p) := by
  obtain ⟨o1, o2, o3, o4, o5, o6, o7⟩ := hO
  have hne : ∀ t, t < tot → sl g t ≠ 6 * p + ev p := fun t ht => sl_ne hnp (fun t ht => (o1 t ht).2) o2 h6 (by omega) hi ht
  have hnew : sl (gp g tot p) tot = 6 * p + ev p := by rw [gp_new, o2 p (by omega)]
  have k13 : ∀ t, t < tot → upd r13 (6 * p + ev p) kd (sl (gp g tot p) t) = r13 (sl g t) := fun t ht => by rw [gp_sl ht]; exact pk_un (hne t ht)
  have c13 : ∀ n, n ≤ tot → ct (fun t => decide (upd r13 (6 * p + ev p) kd (sl (gp g tot p) t) = 2)) n = ct (fun t => decide (r13 (sl g t) = 2)) n := fun n hn => ct_cong (fun t ht => by rw [k13 t (by omega)])
  have n13 : upd r13 (6 * p + ev p) kd (sl (gp g tot p) tot) = kd := by rw [hnew]; exact pk_us
  refine ⟨fun t ht => ?_, fun q hq => ?_, fun t ht => ?_, fun t ht q hq => ?_, ?_, fun t ht h => ?_, fun l hl => ?_⟩
  · by_cases h : t = tot
    · subst h
      rw [show gp g t p t = p by unfold gp; rw [if_pos rfl]]
      exact ⟨pk_us, hp⟩
    · rw [gp_lo (by omega), pk_un h]
      exact o1 t (by omega)
  · rw [cn_s, gp_cn (Nat.le_refl _), o2 q hq, show gp g tot p tot = p by unfold gp; rw [if_pos rfl]]
    unfold evp
    by_cases h : q = p
    · subst h; simp
    · rw [if_neg (fun e => h e.symm), if_neg h]; omega
  · by_cases h : t = tot
    · subst h; rw [hnew]; exact pk_us
    · rw [gp_sl (by omega), pk_un (hne t (by omega))]
      exact o3 t (by omega)
  · by_cases h : t = tot
    · subst h
      rw [hnew]
      obtain ⟨v, a1, a2⟩ := h16n q hq
      refine ⟨v, ?_, a2⟩
      rw [cn_s, gp_cn (Nat.le_refl _), o2 q hq, show gp g t p t = p by unfold gp; rw [if_pos rfl]]
      unfold evp at a1
      by_cases hqp : q = p
      · subst hqp; simp at a1 ⊢; exact a1
      · rw [if_neg hqp] at a1
        rw [if_neg (fun e => hqp e.symm)]; omega
    · have hs := hne t (by omega)
      rw [gp_sl (by omega), h16 _ (by omega), gp_cn (by omega)]
      exact o4 t (by omega) q hq
  · rw [ct_s, c13 tot (Nat.le_refl _), o5, n13, hnl]
    by_cases h : kd = 2 <;> simp [h]
  · by_cases h2 : t = tot
    · subst h2
      rw [n13] at h
      obtain ⟨l, a1, a2⟩ := h3 h
      exact ⟨l, a1, by rw [hnew, pk_us]; exact a2⟩
    · rw [k13 t (by omega)] at h
      obtain ⟨l, a1, a2⟩ := o6 t (by omega) h
      exact ⟨l, a1, by rw [gp_sl (by omega), pk_un (hne t (by omega))]; exact a2⟩
  · by_cases hll : l < nl
    · obtain ⟨t, b1, b2, b3, b4, b5, b, b6, b7, b8⟩ := o7 l hll
      obtain ⟨e1, e2, e3⟩ := hlo l hll
      refine ⟨t, by omega, by rw [k13 t b1]; exact b2, by rw [c13 t (by omega)]; exact b3, ?_, ?_, b, b6, ?_, by rw [e2]; exact b8⟩
      · rw [e1, gp_lo b1]; exact b4
      · rw [e3, gp_lo b1, gp_cn (by omega)]; exact b5
      · rw [gp_lo b1]; exact b7
    · have hk : kd = 2 := by
        by_cases h : kd = 2
        · exact h
        · rw [if_neg h] at hnl; omega
      rw [if_pos hk] at hnl
      have el : l = nl := by omega
      subst el
      obtain ⟨e1, e2, b, e3, e4, e5⟩ := hln hk
      refine ⟨tot, by omega, by rw [n13]; exact hk, by rw [c13 tot (Nat.le_refl _)]; exact o5, ?_, ?_, b, e3, ?_, e5⟩
      · rw [show gp g tot p tot = p by unfold gp; rw [if_pos rfl]]; exact e1
      · rw [show gp g tot p tot = p by unfold gp; rw [if_pos rfl], gp_cn (Nat.le_refl _), o2 p (by omega)]; exact e2
      · rw [show gp g tot p tot = p by unfold gp; rw [if_pos rfl]]; exact e4
def evm (ev : Nat → Nat) (p : Nat) : Nat → Nat := fun q => if q = p then ev q - 1 else ev q
/-- an event less -/
theorem HO_pop {r12 r13 r14 r15 r16 r18 r19 r20 : Nat → Int32} {np nl nl2 tot : Nat} {ev g : Nat → Nat} (hO : HOf r12 r13 r14 r15 r16 r18 r19 r20 np nl (tot + 1) ev g) (hnl : nl = nl2 + (if r13 (sl g tot) = 2 then 1 else 0)) :
    HOf r12 r13 r14 r15 r16 r18 r19 r20 np nl2 tot (evm ev (g tot)) g := by
  obtain ⟨o1, o2, o3, o4, o5, o6, o7⟩ := hO
  have c5 : ct (fun t => decide (r13 (sl g t) = 2)) tot = nl2 := by
    rw [ct_s] at o5
    by_cases h : r13 (sl g tot) = 2
    · simp [h] at o5 hnl; omega
    · simp [h] at o5 hnl; omega
  refine ⟨fun t ht => o1 t (by omega), fun q hq => ?_, fun t ht => o3 t (by omega), fun t ht => o4 t (by omega), c5, fun t ht => o6 t (by omega), fun l hl => ?_⟩
  · have h := o2 q hq
    rw [cn_s] at h
    unfold evm
    by_cases hqp : q = g tot
    · rw [if_pos hqp]; rw [if_pos hqp.symm] at h; omega
    · rw [if_neg hqp]; rw [if_neg (fun e => hqp e.symm)] at h; omega
  · obtain ⟨t, b1, b2, b3, b4⟩ := o7 l (by omega)
    refine ⟨t, ?_, b2, b3, b4⟩
    rcases Nat.lt_or_ge t tot with h | h
    · exact h
    · have : t = tot := by omega
      subst this
      omega
