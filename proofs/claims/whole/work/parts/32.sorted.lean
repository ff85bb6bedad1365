-- PURE PART: cuts in the order of their sizes
/-- how many of the first n that are P have the size s; how many in all are smaller than s -/
def cs (P : Nat → Bool) (s n : Nat) : Nat := ct (fun c => P c && decide (sz c = s)) n
def le_ (P : Nat → Bool) : Nat → Nat
  | 0 => 0
  | s + 1 => le_ P s + cs P s 2401
def rk (P : Nat → Bool) (c : Nat) : Nat := le_ P (sz c) + cs P (sz c) c
theorem le_s (P : Nat → Bool) (s : Nat) : le_ P (s + 1) = le_ P s + cs P s 2401 := rfl
theorem le_mono (P : Nat → Bool) {a : Nat} : ∀ {b : Nat}, a ≤ b → le_ P a ≤ le_ P b
  | 0, h => by rw [show a = 0 by omega]; exact Nat.le_refl _
  | b + 1, h => by
    rcases Nat.lt_or_ge a (b + 1) with h1 | h1
    · have := le_mono P (show a ≤ b by omega)
      rw [le_s]; omega
    · rw [show a = b + 1 by omega]; exact Nat.le_refl _
theorem ct_split (P : Nat → Bool) (s : Nat) : ∀ n, ct (fun c => P c && decide (sz c < s + 1)) n = ct (fun c => P c && decide (sz c < s)) n + cs P s n
  | 0 => rfl
  | n + 1 => by
    have ih := ct_split P s n
    unfold cs at ih ⊢
    rw [ct_s, ct_s, ct_s, ih]
    cases hp : P n
    · simp
    · rcases Nat.lt_trichotomy (sz n) s with h | h | h
      · simp [h, show sz n < s + 1 by omega, show ¬ sz n = s by omega]; omega
      · simp [h]; omega
      · simp [show ¬ sz n < s by omega, show ¬ sz n < s + 1 by omega, show ¬ sz n = s by omega]
theorem le_ct (P : Nat → Bool) : ∀ s, le_ P s = ct (fun c => P c && decide (sz c < s)) 2401
  | 0 => by
    rw [show ct (fun c => P c && decide (sz c < 0)) 2401 = ct (fun _ => false) 2401 from ct_cong (fun t _ => by simp)]
    have : ∀ n, ct (fun _ => false) n = 0 := fun n => by
      induction n with
      | zero => rfl
      | succ n ih => rw [ct_s, ih]; rfl
    rw [this]; rfl
  | s + 1 => by rw [le_s, le_ct P s, ct_split]
theorem le_2401 (P : Nat → Bool) (s : Nat) : le_ P s ≤ 2401 := by rw [le_ct]; exact ct_le _ _
theorem le_all (P : Nat → Bool) : le_ P 25 = ct P 2401 := by
  rw [le_ct]
  exact ct_cong (fun t _ => by
    have := sz_le t
    rw [decide_eq_true (show sz t < 25 by omega), Bool.and_true])
theorem cs_lt (P : Nat → Bool) {c n : Nat} (hp : P c = true) (h : c < n) : cs P (sz c) c < cs P (sz c) n := by
  unfold cs
  exact ct_lt _ h (by simp [hp])
theorem rk_lt (P : Nat → Bool) {c : Nat} (hp : P c = true) (hc : c < 2401) : le_ P (sz c) ≤ rk P c ∧ rk P c < le_ P (sz c + 1) := by
  unfold rk
  have := cs_lt P hp hc
  rw [le_s]
  omega
def key (c : Nat) : Nat := 2401 * sz c + c
theorem rk_key (P : Nat → Bool) {a b : Nat} (ha : P a = true) (hb : P b = true) (ha2 : a < 2401) (hb2 : b < 2401) (h : key a < key b) : rk P a < rk P b := by
  unfold key at h
  obtain ⟨a1, a2⟩ := rk_lt P ha ha2
  obtain ⟨b1, b2⟩ := rk_lt P hb hb2
  by_cases hs : sz a = sz b
  · unfold rk
    rw [hs]
    have hlt : a < b := by rw [hs] at h; omega
    have := cs_lt P ha hlt
    rw [hs] at this
    omega
  · have hlt : sz a < sz b := by omega
    have := le_mono P (show sz a + 1 ≤ sz b by omega)
    omega
theorem rk_inj (P : Nat → Bool) {a b : Nat} (ha : P a = true) (hb : P b = true) (ha2 : a < 2401) (hb2 : b < 2401) (h : rk P a = rk P b) : a = b := by
  rcases Nat.lt_trichotomy (key a) (key b) with h1 | h1 | h1
  · have := rk_key P ha hb ha2 hb2 h1; omega
  · unfold key at h1; omega
  · have := rk_key P hb ha hb2 ha2 h1; omega
theorem rk_lt_all (P : Nat → Bool) {c : Nat} (hp : P c = true) (hc : c < 2401) : rk P c < le_ P 25 := by
  have h1 := (rk_lt P hp hc).2
  have h2 := le_mono P (show sz c + 1 ≤ 25 by have := sz_le c; omega)
  omega
theorem le_find (P : Nat → Bool) {k : Nat} : ∀ {s : Nat}, k < le_ P s → ∃ r, r < s ∧ le_ P r ≤ k ∧ k < le_ P (r + 1)
  | 0, h => absurd h (Nat.not_lt_zero _)
  | s + 1, h => by
    rcases Nat.lt_or_ge k (le_ P s) with h1 | h1
    · obtain ⟨r, a, b, c⟩ := le_find P h1
      exact ⟨r, by omega, b, c⟩
    · exact ⟨s, by omega, h1, h⟩
theorem rk_onto (P : Nat → Bool) {k : Nat} (h : k < le_ P 25) : ∃ c, c < 2401 ∧ P c = true ∧ rk P c = k := by
  obtain ⟨s, h1, h2, h3⟩ := le_find P h
  rw [le_s] at h3
  unfold cs at h3
  obtain ⟨c, c1, c2, c3⟩ := ct_kth (fun c => P c && decide (sz c = s)) (k := k - le_ P s) (n := 2401) (by omega)
  simp at c2
  refine ⟨c, c1, c2.1, ?_⟩
  unfold rk cs
  rw [c2.2, c3]
  omega
/-- the sorted row: places 0 .. T - 1, each possible cut once, keys rise; where the sizes end -/
def Sorted (P : Nat → Bool) (f : Nat → Int32) (T : Nat) (io : Nat → Nat) (en : Nat → Nat) : Prop :=
  T = ct P 2401 ∧ (∀ k, k < T → f k = nI (io k) ∧ io k < 2401 ∧ P (io k) = true) ∧ (∀ j k, j < k → k < T → key (io j) < key (io k)) ∧ (∀ c, c < 2401 → P c = true → ∃ k, k < T ∧ io k = c) ∧ (∀ s, s ≤ 24 → en s ≤ T ∧ ∀ k, k < T → (k < en s ↔ sz (io k) ≤ s))
theorem sorted_of {P : Nat → Bool} {f : Nat → Int32} (h : ∀ c, c < 2401 → P c = true → f (rk P c) = nI c) : Sorted P f (ct P 2401) (fun k => (f k).toNatClampNeg) (fun s => le_ P (s + 1)) := by
  have all := le_all P
  have at_ : ∀ k, k < ct P 2401 → ∃ c, c < 2401 ∧ P c = true ∧ rk P c = k ∧ (f k).toNatClampNeg = c ∧ f k = nI c := by
    intro k hk
    obtain ⟨c, a1, a2, a3⟩ := rk_onto P (show k < le_ P 25 by omega)
    have := h c a1 a2
    rw [a3] at this
    exact ⟨c, a1, a2, a3, by rw [this, nI_clamp (by omega)], this⟩
  refine ⟨rfl, fun k hk => ?_, fun j k hjk hk => ?_, fun c hc hp => ?_, fun s hs => ⟨?_, fun k hk => ?_⟩⟩
  · obtain ⟨c, a1, a2, a3, a4, a5⟩ := at_ k hk
    dsimp only
    rw [a4]
    exact ⟨a5, a1, a2⟩
  · obtain ⟨c, a1, a2, a3, a4, a5⟩ := at_ k hk
    obtain ⟨d, b1, b2, b3, b4, b5⟩ := at_ j (by omega)
    dsimp only
    rw [a4, b4]
    rcases Nat.lt_or_ge (key d) (key c) with h9 | h9
    · exact h9
    · rcases Nat.lt_or_ge (key c) (key d) with h8 | h8
      · have := rk_key P a2 b2 a1 b1 h8; omega
      · have : c = d := by unfold key at h8 h9; omega
        subst this; omega
  · refine ⟨rk P c, by have := rk_lt_all P hp hc; omega, ?_⟩
    dsimp only
    rw [h c hc hp, nI_clamp (by omega)]
  · have := le_mono P (show s + 1 ≤ 25 by omega)
    show le_ P (s + 1) ≤ ct P 2401
    omega
  · obtain ⟨c, a1, a2, a3, a4, a5⟩ := at_ k hk
    dsimp only
    rw [a4]
    obtain ⟨c1, c2⟩ := rk_lt P a2 a1
    constructor
    · intro hlt
      rcases Nat.lt_or_ge s (sz c) with h9 | h9
      · have := le_mono P (show s + 1 ≤ sz c by omega); omega
      · exact h9
    · intro hle
      have := le_mono P (show sz c + 1 ≤ s + 1 by omega); omega
-- a cut out of its digits
theorem dg_sum {c : Nat} (hc : c < 2401) : c = dg c 0 + 7 * dg c 1 + 49 * dg c 2 + 343 * dg c 3 := by
  unfold dg
  have h1 : c / 7 ^ 1 = c / 7 := by simp
  have h2 : c / 7 ^ 2 = c / 7 / 7 := by rw [Nat.div_div_eq_div_mul]
  have h3 : c / 7 ^ 3 = c / 7 / 7 / 7 := by rw [Nat.div_div_eq_div_mul, Nat.div_div_eq_div_mul]
  rw [h1, h2, h3]
  simp
  omega
def wh (ev : Nat → Nat) : Nat := ev 0 + 7 * ev 1 + 49 * ev 2 + 343 * ev 3
theorem isC_le {ev : Nat → Nat} {c : Nat} (h : isC ev c) : c ≤ wh ev := by
  have := dg_sum h.1
  have h0 := h.2 0 (by omega)
  have h1 := h.2 1 (by omega)
  have h2 := h.2 2 (by omega)
  have h3 := h.2 3 (by omega)
  unfold wh
  omega
theorem wh_lt {ev : Nat → Nat} (h6 : ∀ p, p < 4 → ev p ≤ 6) : wh ev < 2401 := by
  have h0 := h6 0 (by omega)
  have h1 := h6 1 (by omega)
  have h2 := h6 2 (by omega)
  have h3 := h6 3 (by omega)
  unfold wh
  omega
noncomputable def pb (ev : Nat → Nat) (f : Nat → Int32) (c : Nat) : Bool := @decide (pos ev f c) (Classical.propDecidable _)
theorem pb_t {ev : Nat → Nat} {f : Nat → Int32} {c : Nat} : pb ev f c = true ↔ pos ev f c := by
  unfold pb
  exact ⟨fun h => @of_decide_eq_true _ (Classical.propDecidable _) h, fun h => @decide_eq_true _ (Classical.propDecidable _) h⟩
theorem pb_f {ev : Nat → Nat} {f : Nat → Int32} {c : Nat} : pb ev f c = false ↔ ¬ pos ev f c := by
  constructor
  · intro h hp
    rw [pb_t.mpr hp] at h
    cases h
  · intro h
    cases hb : pb ev f c
    · rfl
    · exact absurd (pb_t.mp hb) h
theorem ct_end {P : Nat → Bool} {m : Nat} : ∀ {n : Nat}, m ≤ n → (∀ t, m ≤ t → t < n → P t = false) → ct P n = ct P m
  | 0, h, _ => by rw [show m = 0 by omega]
  | n + 1, h, hf => by
    rcases Nat.lt_or_ge m (n + 1) with h1 | h1
    · rw [ct_s, ct_end (show m ≤ n by omega) (fun t a b => hf t a (by omega)), hf n (by omega) (by omega)]; rfl
    · rw [show m = n + 1 by omega]
