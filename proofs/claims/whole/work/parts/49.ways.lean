-- PURE PART: ways, as numbers
theorem lN_ad (a b : Nat) : lN a + lN b = lN (a + b) := (Int64.ofNat_add a b).symm
theorem lN_sb {a b : Nat} (h : b ≤ a) : lN a - lN b = lN (a - b) := by
  have e : lN a = lN (a - b) + lN b := by rw [lN_ad, show a - b + b = a by omega]
  rw [e]; exact Int64.add_sub_cancel _ _
theorem lN_00 : (0 : Int64) = lN 0 := rfl
theorem lN_11 : (1 : Int64) = lN 1 := rfl
theorem dg_up {c p : Nat} (hp : p < 4) (h : dg c p < 6) : dg (c + un p) p = dg c p + 1 := by
  rcases (show p = 0 ∨ p = 1 ∨ p = 2 ∨ p = 3 by omega) with rfl | rfl | rfl | rfl <;> (simp only [dg, un, Nat.reducePow] at h ⊢; omega)
theorem dg_ot {c p q : Nat} (hp : p < 4) (hq : q < 4) (hne : q ≠ p) (h : dg c p < 6) : dg (c + un p) q = dg c q := by
  rcases (show p = 0 ∨ p = 1 ∨ p = 2 ∨ p = 3 by omega) with rfl | rfl | rfl | rfl <;> rcases (show q = 0 ∨ q = 1 ∨ q = 2 ∨ q = 3 by omega) with rfl | rfl | rfl | rfl <;> first | omega | (simp only [dg, un, Nat.reducePow] at h ⊢; omega)
theorem up_lt {c p : Nat} (hc : c < 2401) (hp : p < 4) (h : dg c p < 6) : c + un p < 2401 := by
  rcases (show p = 0 ∨ p = 1 ∨ p = 2 ∨ p = 3 by omega) with rfl | rfl | rfl | rfl <;> (simp only [dg, un, Nat.reducePow] at h ⊢; omega)
theorem sz_up {c p : Nat} (hp : p < 4) (h : dg c p < 6) : sz (c + un p) = sz c + 1 := by
  unfold sz
  rcases (show p = 0 ∨ p = 1 ∨ p = 2 ∨ p = 3 by omega) with rfl | rfl | rfl | rfl
  · rw [dg_up (by omega) h, dg_ot (by omega) (by omega) (by omega) h, dg_ot (by omega) (by omega) (by omega) h, dg_ot (by omega) (by omega) (by omega) h]; omega
  · rw [dg_up (by omega) h, dg_ot (p := 1) (q := 0) (by omega) (by omega) (by omega) h, dg_ot (p := 1) (q := 2) (by omega) (by omega) (by omega) h, dg_ot (p := 1) (q := 3) (by omega) (by omega) (by omega) h]; omega
  · rw [dg_up (by omega) h, dg_ot (p := 2) (q := 0) (by omega) (by omega) (by omega) h, dg_ot (p := 2) (q := 1) (by omega) (by omega) (by omega) h, dg_ot (p := 2) (q := 3) (by omega) (by omega) (by omega) h]; omega
  · rw [dg_up (by omega) h, dg_ot (p := 3) (q := 0) (by omega) (by omega) (by omega) h, dg_ot (p := 3) (q := 1) (by omega) (by omega) (by omega) h, dg_ot (p := 3) (q := 2) (by omega) (by omega) (by omega) h]; omega
theorem un_pos (p : Nat) : 0 < un p := Nat.pow_pos (by decide)
theorem un_le {p : Nat} (hp : p < 4) : un p ≤ 343 := by
  rcases (show p = 0 ∨ p = 1 ∨ p = 2 ∨ p = 3 by omega) with rfl | rfl | rfl | rfl <;> decide
theorem key_up {c p : Nat} (hp : p < 4) (h : dg c p < 6) : key c < key (c + un p) := by
  unfold key
  rw [sz_up hp h]
  have := un_pos p
  omega
theorem wh_dg {ev : Nat → Nat} (h6 : ∀ p, p < 4 → ev p ≤ 6) {p : Nat} (hp : p < 4) : dg (wh ev) p = ev p := by
  have h0 := h6 0 (by omega)
  have h1 := h6 1 (by omega)
  have h2 := h6 2 (by omega)
  have h3 := h6 3 (by omega)
  unfold wh
  rcases (show p = 0 ∨ p = 1 ∨ p = 2 ∨ p = 3 by omega) with rfl | rfl | rfl | rfl <;> (simp only [dg, Nat.reducePow]; omega)
theorem wh_sz {ev : Nat → Nat} (h6 : ∀ p, p < 4 → ev p ≤ 6) : sz (wh ev) = ev 0 + ev 1 + ev 2 + ev 3 := by
  unfold sz
  rw [wh_dg h6 (by omega), wh_dg h6 (by omega), wh_dg h6 (by omega), wh_dg h6 (by omega)]
def rsf (t : Nat → Nat) : Nat → Nat
  | 0 => 0
  | n + 1 => t (3 - n) + rsf t n
theorem rsf_s (t : Nat → Nat) {p : Nat} (hp : p < 4) : rsf t (4 - p) = t p + rsf t (4 - (p + 1)) := by
  rcases (show p = 0 ∨ p = 1 ∨ p = 2 ∨ p = 3 by omega) with rfl | rfl | rfl | rfl <;> rfl
theorem rsf_cong {t u : Nat → Nat} (h : ∀ p, p < 4 → t p = u p) : rsf t 4 = rsf u 4 := by
  show t 0 + (t 1 + (t 2 + (t 3 + 0))) = u 0 + (u 1 + (u 2 + (u 3 + 0)))
  rw [h 0 (by omega), h 1 (by omega), h 2 (by omega), h 3 (by omega)]
theorem rsf_le {t : Nat → Nat} {B : Nat} (h : ∀ p, p < 4 → t p ≤ B) : rsf t 4 ≤ 4 * B := by
  show t 0 + (t 1 + (t 2 + (t 3 + 0))) ≤ 4 * B
  have h0 := h 0 (by omega)
  have h1 := h 1 (by omega)
  have h2 := h 2 (by omega)
  have h3 := h 3 (by omega)
  omega
def tm (ev : Nat → Nat) (W : Nat → Nat) (c p : Nat) : Nat := if dg c p < ev p then W (c + un p) else 0
def wyf (ev : Nat → Nat) (Q : Nat → Bool) : Nat → Nat → Nat
  | 0, _ => 0
  | n + 1, c => if Q c then (if c = wh ev then 1 else rsf (tm ev (wyf ev Q n) c) 4) else 0
theorem wyf_s (ev : Nat → Nat) (Q : Nat → Bool) (n c : Nat) : wyf ev Q (n + 1) c = if Q c then (if c = wh ev then 1 else rsf (tm ev (wyf ev Q n) c) 4) else 0 := rfl
theorem wyf_le (ev : Nat → Nat) (Q : Nat → Bool) : ∀ n c, wyf ev Q n c ≤ 4 ^ n
  | 0, c => Nat.zero_le _
  | n + 1, c => by
    rw [wyf_s]
    have hp : 0 < 4 ^ n := Nat.pow_pos (by decide)
    have e : 4 ^ (n + 1) = 4 * 4 ^ n := by rw [Nat.pow_succ, Nat.mul_comm]
    split
    · split
      · omega
      · rw [e]
        refine rsf_le (fun p _ => ?_)
        unfold tm
        split
        · exact wyf_le ev Q n _
        · exact Nat.zero_le _
    · exact Nat.zero_le _
theorem wyf_st {ev : Nat → Nat} {Q : Nat → Bool} (h6 : ∀ p, p < 4 → ev p ≤ 6) : ∀ n c, 24 < n + sz c → wyf ev Q n c = wyf ev Q (n + 1) c
  | 0, c, h => by have := sz_le c; omega
  | n + 1, c, h => by
    rw [wyf_s, wyf_s ev Q (n + 1)]
    have : rsf (tm ev (wyf ev Q n) c) 4 = rsf (tm ev (wyf ev Q (n + 1)) c) 4 := by
      refine rsf_cong (fun p hp => ?_)
      unfold tm
      by_cases hd : dg c p < ev p
      · rw [if_pos hd, if_pos hd]
        have := h6 p hp
        exact wyf_st h6 n _ (by rw [sz_up hp (by omega)]; omega)
      · rw [if_neg hd, if_neg hd]
    rw [this]
def wy (ev : Nat → Nat) (Q : Nat → Bool) (c : Nat) : Nat := wyf ev Q 25 c
theorem wy_lt (ev : Nat → Nat) (Q : Nat → Bool) (c : Nat) : wy ev Q c ≤ 1125899906842624 := wyf_le ev Q 25 c
theorem wy_no {ev : Nat → Nat} {Q : Nat → Bool} {c : Nat} (h : Q c = false) : wy ev Q c = 0 := by
  unfold wy
  rw [wyf_s, h]; rfl
theorem wy_wh {ev : Nat → Nat} {Q : Nat → Bool} (h : Q (wh ev) = true) : wy ev Q (wh ev) = 1 := by
  unfold wy
  rw [wyf_s, h, if_pos rfl, if_pos rfl]
theorem wy_eq {ev : Nat → Nat} {Q : Nat → Bool} {c : Nat} (h6 : ∀ p, p < 4 → ev p ≤ 6) (h : Q c = true) (hne : c ≠ wh ev) : wy ev Q c = rsf (tm ev (wy ev Q) c) 4 := by
  unfold wy
  rw [wyf_s, h, if_pos rfl, if_neg hne]
  refine rsf_cong (fun p hp => ?_)
  unfold tm
  by_cases hd : dg c p < ev p
  · rw [if_pos hd, if_pos hd]
    have := h6 p hp
    exact wyf_st h6 24 _ (by rw [sz_up hp (by omega)]; omega)
  · rw [if_neg hd, if_neg hd]
theorem tm_le {ev : Nat → Nat} {Q : Nat → Bool} {c p : Nat} : tm ev (wy ev Q) c p ≤ 1125899906842624 := by
  unfold tm
  split
  · exact wy_lt _ _ _
  · omega
theorem rsf_b {t : Nat → Nat} {B : Nat} (h : ∀ p, t p ≤ B) : ∀ n, rsf t n ≤ n * B
  | 0 => by simp [rsf]
  | n + 1 => by
    show t (3 - n) + rsf t n ≤ (n + 1) * B
    have h1 := h (3 - n)
    have h2 := rsf_b h n
    rw [Nat.succ_mul]; omega
-- the class's up
theorem pz_up {σ : pw_St} {ev : Nat → Nat} {P : Nat → Bool} {c p : Nat} (h6 : ∀ p, p < 4 → ev p ≤ 6) (e11 : ∀ p, p < 4 → σ.1 11 p = nI (ev p)) (e23 : ∀ c, c < 2401 → σ.1 23 c = if P c then 1 else 0) (hc : c < 2401) (hp : p < 4) : f_X6_up (nI c) (nI p) σ = if dg c p < ev p ∧ P (c + un p) = true then some (nI (c + un p), σ) else some (-1, σ) := by
  unfold f_X6_up
  have d := dg_lt c p
  have h6p := h6 p hp
  rw [pz_share σ (by omega) (by omega), pz_bi_some, if_pos (pz_in hp (by decide)), nI_clamp (by omega), e11 p hp, pz_wt hp, nI_add]
  by_cases hd : dg c p < ev p
  · have hl := up_lt hc hp (show dg c p < 6 by omega)
    rw [if_pos (nI_lt hd (by omega)), if_pos (pz_in hp (by decide)), if_pos (pz_in hl (by decide)), nI_clamp (by omega), e23 _ hl]
    by_cases hP : P (c + un p) = true
    · rw [hP, mk1, if_neg (by decide), if_pos ⟨hd, rfl⟩]
    · have hPf : P (c + un p) = false := by simpa using hP
      rw [hPf, mk0, if_pos rfl, if_neg (fun hh => by cases hh.2)]
  · rw [if_neg (nI_nlt (by omega) (by omega)), if_neg (fun hh => hd hh.1)]
theorem pz_over {σ : pw_St} {ev : Nat → Nat} {P Q : Nat → Bool} {c p : Nat} (h6 : ∀ p, p < 4 → ev p ≤ 6) (e11 : ∀ p, p < 4 → σ.1 11 p = nI (ev p)) (e23 : ∀ c, c < 2401 → σ.1 23 c = if P c then 1 else 0) (hQ : ∀ c, Q c = true → P c = true) (hc : c < 2401) (hp : p < 4) (hw : dg c p < ev p → P (c + un p) = true → σ.2 32 (c + un p) = lN (wy ev Q (c + un p))) : f_X9_over (nI c) (nI p) σ = some (lN (tm ev (wy ev Q) c p), σ) := by
  unfold f_X9_over tm
  rw [pz_up h6 e11 e23 hc hp]
  by_cases hd : dg c p < ev p
  · have hl := up_lt hc hp (show dg c p < 6 by have := h6 p hp; omega)
    rw [if_pos hd]
    by_cases hP : P (c + un p) = true
    · rw [if_pos ⟨hd, hP⟩, pz_bi_some, if_neg (nm1 (by omega)), if_pos (pz_in hl (by decide)), nI_clamp (by omega), hw hd hP]
    · rw [if_neg (fun hh => hP hh.2), pz_bi_some, if_pos rfl, wy_no (by cases hq : Q (c + un p); rfl; exact absurd (hQ _ hq) hP)]
      rfl
  · rw [if_neg (fun hh => hd hh.1), pz_bi_some, if_pos rfl, if_neg hd]
    rfl
theorem sumo_l {σ : pw_St} {ev : Nat → Nat} {P Q : Nat → Bool} {c : Nat} (h6 : ∀ p, p < 4 → ev p ≤ 6) (e11 : ∀ p, p < 4 → σ.1 11 p = nI (ev p)) (e23 : ∀ c, c < 2401 → σ.1 23 c = if P c then 1 else 0) (hQ : ∀ c, Q c = true → P c = true) (hc : c < 2401) (hw : ∀ p, p < 4 → dg c p < ev p → P (c + un p) = true → σ.2 32 (c + un p) = lN (wy ev Q (c + un p))) : ∀ (n p a : Nat), p ≤ 4 → 4 - p < n → l_X9_sumOver_5 n (nI c) (lN a) (nI p) σ = some (lN (a + rsf (tm ev (wy ev Q) c) (4 - p)), σ) := by
  intro n
  induction n with
  | zero => intro p a _ h; omega
  | succ n ih =>
    intro p a h1 h2
    rw [show l_X9_sumOver_5 (n + 1) (nI c) (lN a) (nI p) σ = b_X9_sumOver_5 (l_X9_sumOver_5 n) (nI c) (lN a) (nI p) σ from rfl]
    unfold b_X9_sumOver_5
    by_cases h : p = 4
    · subst h
      rw [if_pos (by decide)]; rfl
    · have hp : p < 4 := by omega
      rw [if_neg (show ¬ (4 : Int32) ≤ nI p from nI_ge (b := 4) hp (by decide)), pz_over h6 e11 e23 hQ hc hp (hw p hp), pz_bl_some, lN_ad, nI_1, ih (p + 1) _ (by omega) (by omega), rsf_s _ hp, Nat.add_assoc]
theorem pz_sumOver {σ : pw_St} {ev : Nat → Nat} {P Q : Nat → Bool} {c : Nat} (h6 : ∀ p, p < 4 → ev p ≤ 6) (e11 : ∀ p, p < 4 → σ.1 11 p = nI (ev p)) (e23 : ∀ c, c < 2401 → σ.1 23 c = if P c then 1 else 0) (hQ : ∀ c, Q c = true → P c = true) (hc : c < 2401) (hw : ∀ p, p < 4 → dg c p < ev p → P (c + un p) = true → σ.2 32 (c + un p) = lN (wy ev Q (c + un p))) : f_X9_sumOver (nI c) σ = some (lN (rsf (tm ev (wy ev Q) c) 4), σ) := by
  unfold f_X9_sumOver
  have := sumo_l h6 e11 e23 hQ hc hw pw_FU 0 0 (by omega) (by unfold pw_FU; omega)
  rw [Nat.zero_add] at this
  exact this
