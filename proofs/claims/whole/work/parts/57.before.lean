-- PURE PART: before
def wuf (ev : Nat → Nat) (Q W : Nat → Bool) : Nat → Nat → Nat
  | 0, _ => 0
  | n + 1, c => if Q c then (if W c then 1 else rsf (tm ev (wuf ev Q W n) c) 4) else 0
theorem wuf_s (ev : Nat → Nat) (Q W : Nat → Bool) (n c : Nat) : wuf ev Q W (n + 1) c = if Q c then (if W c then 1 else rsf (tm ev (wuf ev Q W n) c) 4) else 0 := rfl
theorem wuf_le (ev : Nat → Nat) (Q W : Nat → Bool) : ∀ n c, wuf ev Q W n c ≤ 4 ^ n
  | 0, c => Nat.zero_le _
  | n + 1, c => by
    rw [wuf_s]
    have hp : 0 < 4 ^ n := Nat.pow_pos (by decide)
    have e : 4 ^ (n + 1) = 4 * 4 ^ n := by rw [Nat.pow_succ, Nat.mul_comm]
    split
    · split
      · omega
      · rw [e]
        refine rsf_le (fun p _ => ?_)
        unfold tm
        split
        · exact wuf_le ev Q W n _
        · exact Nat.zero_le _
    · exact Nat.zero_le _
theorem wuf_st {ev : Nat → Nat} {Q W : Nat → Bool} (h6 : ∀ p, p < 4 → ev p ≤ 6) : ∀ n c, 24 < n + sz c → wuf ev Q W n c = wuf ev Q W (n + 1) c
  | 0, c, h => by have := sz_le c; omega
  | n + 1, c, h => by
    rw [wuf_s, wuf_s ev Q W (n + 1)]
    have : rsf (tm ev (wuf ev Q W n) c) 4 = rsf (tm ev (wuf ev Q W (n + 1)) c) 4 := by
      refine rsf_cong (fun p hp => ?_)
      unfold tm
      by_cases hd : dg c p < ev p
      · rw [if_pos hd, if_pos hd]
        have := h6 p hp
        exact wuf_st h6 n _ (by rw [sz_up hp (by omega)]; omega)
      · rw [if_neg hd, if_neg hd]
    rw [this]
def wu (ev : Nat → Nat) (Q W : Nat → Bool) (c : Nat) : Nat := wuf ev Q W 25 c
theorem wu_lt (ev : Nat → Nat) (Q W : Nat → Bool) (c : Nat) : wu ev Q W c ≤ 1125899906842624 := wuf_le ev Q W 25 c
theorem wu_no {ev : Nat → Nat} {Q W : Nat → Bool} {c : Nat} (h : Q c = false) : wu ev Q W c = 0 := by
  unfold wu
  rw [wuf_s, h]; rfl
theorem wu_end {ev : Nat → Nat} {Q W : Nat → Bool} {c : Nat} (h : Q c = true) (hw : W c = true) : wu ev Q W c = 1 := by
  unfold wu
  rw [wuf_s, h, hw, if_pos rfl, if_pos rfl]
theorem wu_eq {ev : Nat → Nat} {Q W : Nat → Bool} {c : Nat} (h6 : ∀ p, p < 4 → ev p ≤ 6) (h : Q c = true) (hw : W c = false) : wu ev Q W c = rsf (tm ev (wu ev Q W) c) 4 := by
  unfold wu
  rw [wuf_s, h, hw, if_pos rfl, if_neg (by decide)]
  refine rsf_cong (fun p hp => ?_)
  unfold tm
  by_cases hd : dg c p < ev p
  · rw [if_pos hd, if_pos hd]
    have := h6 p hp
    exact wuf_st h6 24 _ (by rw [sz_up hp (by omega)]; omega)
  · rw [if_neg hd, if_neg hd]
theorem pz_overG {σ : pw_St} {ev V : Nat → Nat} {P : Nat → Bool} {c p : Nat} (h6 : ∀ p, p < 4 → ev p ≤ 6) (e11 : ∀ p, p < 4 → σ.1 11 p = nI (ev p)) (e23 : ∀ c, c < 2401 → σ.1 23 c = if P c then 1 else 0) (hV : ∀ c, P c = false → V c = 0) (hc : c < 2401) (hp : p < 4) (hw : dg c p < ev p → P (c + un p) = true → σ.2 32 (c + un p) = lN (V (c + un p))) : f_X9_over (nI c) (nI p) σ = some (lN (tm ev V c p), σ) := by
  unfold f_X9_over tm
  rw [pz_up h6 e11 e23 hc hp]
  by_cases hd : dg c p < ev p
  · have hl := up_lt hc hp (show dg c p < 6 by have := h6 p hp; omega)
    rw [if_pos hd]
    by_cases hP : P (c + un p) = true
    · rw [if_pos ⟨hd, hP⟩, pz_bi_some, if_neg (nm1 (by omega)), if_pos (pz_in hl (by decide)), nI_clamp (by omega), hw hd hP]
    · rw [if_neg (fun hh => hP hh.2), pz_bi_some, if_pos rfl, hV _ (by simpa using hP)]
      rfl
  · rw [if_neg (fun hh => hd hh.1), pz_bi_some, if_pos rfl, if_neg hd]
    rfl
theorem sumo_lG {σ : pw_St} {ev V : Nat → Nat} {P : Nat → Bool} {c : Nat} (h6 : ∀ p, p < 4 → ev p ≤ 6) (e11 : ∀ p, p < 4 → σ.1 11 p = nI (ev p)) (e23 : ∀ c, c < 2401 → σ.1 23 c = if P c then 1 else 0) (hV : ∀ c, P c = false → V c = 0) (hc : c < 2401) (hw : ∀ p, p < 4 → dg c p < ev p → P (c + un p) = true → σ.2 32 (c + un p) = lN (V (c + un p))) : ∀ (n p a : Nat), p ≤ 4 → 4 - p < n → l_X9_sumOver_5 n (nI c) (lN a) (nI p) σ = some (lN (a + rsf (tm ev V c) (4 - p)), σ) := by
  intro n
  induction n with
  | zero => intro p a _ h; omega
  | succ n ih =>
    intro p a h1 h2
    rw [show l_X9_sumOver_5 (n + 1) (nI c) (lN a) (nI p) σ = b_X9_sumOver_5 (l_X9_sumOver_5 n) (nI c) (lN a) (nI p) σ from rfl]
    unfold b_X9_sumOver_5
    by_cases h : p = 4
    · subst h
      rw [if_pos (by decide)]; rfl
    · have hp : p < 4 := by omega
      rw [if_neg (show ¬ (4 : Int32) ≤ nI p from nI_ge (b := 4) hp (by decide)), pz_overG h6 e11 e23 hV hc hp (hw p hp), pz_bl_some, lN_ad, nI_1, ih (p + 1) _ (by omega) (by omega), rsf_s _ hp, Nat.add_assoc]
theorem pz_sumOverG {σ : pw_St} {ev V : Nat → Nat} {P : Nat → Bool} {c : Nat} (h6 : ∀ p, p < 4 → ev p ≤ 6) (e11 : ∀ p, p < 4 → σ.1 11 p = nI (ev p)) (e23 : ∀ c, c < 2401 → σ.1 23 c = if P c then 1 else 0) (hV : ∀ c, P c = false → V c = 0) (hc : c < 2401) (hw : ∀ p, p < 4 → dg c p < ev p → P (c + un p) = true → σ.2 32 (c + un p) = lN (V (c + un p))) : f_X9_sumOver (nI c) σ = some (lN (rsf (tm ev V c) 4), σ) := by
  unfold f_X9_sumOver
  have := sumo_lG h6 e11 e23 hV hc hw pw_FU 0 0 (by omega) (by unfold pw_FU; omega)
  rw [Nat.zero_add] at this
  exact this
theorem fu_l {σ : pw_St} {ev : Nat → Nat} {P M Q W : Nat → Bool} {T nl m : Nat} {io en : Nat → Nat} {F : List Pt_} (h6 : ∀ p, p < 4 → ev p ≤ 6) (e11 : ∀ p, p < 4 → σ.1 11 p = nI (ev p)) (hS : Sorted P (σ.1 22) T io en) (e23 : ∀ c, c < 2401 → σ.1 23 c = if P c then 1 else 0) (h30 : ∀ t, t < 2401 → P t = true → σ.1 30 t = if M t then 1 else 0) (hQ : ∀ c, Q c = (P c && !M c)) (hW : W = wb σ nl F) (h0 : P 0 = true) (e4 : σ.1 2 4 = nI nl) (hnl : nl ≤ 24) (hF : RepX σ m F) (hw : wfF F 6) : ∀ (n k : Nat) (τ : pw_St), k ≤ T → k < n → (∀ r, r ≠ 28 → r ≠ 29 → τ.1 r = σ.1 r) → (∀ j, k ≤ j → j < T → τ.2 32 (io j) = lN (wu ev Q W (io j))) → ∃ τ2, l_X9_fillUntil_8 n m (nI k - 1) τ = some (lN (wu ev Q W 0), τ2) ∧ (∀ r, r ≠ 28 → r ≠ 29 → τ2.1 r = σ.1 r) := by
  have hT := Sorted_T hS
  have hV : ∀ c, P c = false → wu ev Q W c = 0 := fun c hc => wu_no (by rw [hQ, hc]; rfl)
  intro n
  induction n with
  | zero => intro k τ _ h; omega
  | succ n ih =>
    intro k τ h1 h2 hr hj
    rw [show l_X9_fillUntil_8 (n + 1) m (nI k - 1) τ = b_X9_fillUntil_8 (l_X9_fillUntil_8 n) m (nI k - 1) τ from rfl]
    unfold b_X9_fillUntil_8
    by_cases h : k = 0
    · subst h
      rw [if_pos (by decide)]
      unfold b_X9_fillUntil_87
      rw [if_pos (by decide)]
      obtain ⟨j, hj1, hj2⟩ := hS.2.2.2.1 0 (by omega) h0
      have := hj j (by omega) hj1
      rw [hj2] at this
      refine ⟨τ, ?_, hr⟩
      rw [show τ.2 32 (0 : Int32).toNatClampNeg = lN (wu ev Q W 0) from this]
    · have hk : k - 1 < T := by omega
      obtain ⟨s1, s2, s3⟩ := hS.2.1 (k - 1) hk
      rw [pz_m1 (by omega), if_neg (nI_pos (by omega)), if_pos (pz_in (by omega) (by decide)), nI_clamp (n := k - 1) (by omega), hr 22 (by omega) (by omega), s1, if_pos (pz_in s2 (by decide)), nI_clamp (n := io (k - 1)) (by omega), hr 30 (by omega) (by omega), h30 _ s2 s3]
      have key80 : ∀ (v : Int64) (τ' : pw_St), (∀ r, r ≠ 28 → r ≠ 29 → τ'.1 r = σ.1 r) → τ'.2 = τ.2 → v = lN (wu ev Q W (io (k - 1))) → ∃ τ2, b_X9_fillUntil_80 (l_X9_fillUntil_8 n) m (nI (k - 1)) v (nI (io (k - 1))) τ' = some (lN (wu ev Q W 0), τ2) ∧ (∀ r, r ≠ 28 → r ≠ 29 → τ2.1 r = σ.1 r) := by
        intro v τ' hr' hr2 hv
        subst hv
        unfold b_X9_fillUntil_80
        rw [if_pos (pz_in s2 (by decide)), pz_lt, nI_clamp (n := io (k - 1)) (by omega), rl_sL, ← Int32.sub_eq_add_neg]
        refine ih (k - 1) _ (by omega) (by omega) hr' (fun j hj1 hj2 => ?_)
        rw [rl_get]
        by_cases hjk : j = k - 1
        · subst hjk; exact pk_uLs
        · rw [pk_uLn (fun e => hjk (Sorted_inj hS hj2 hk e)), hr2]
          exact hj j (by omega) hj2
      by_cases hM : M (io (k - 1)) = true
      · rw [hM, mk1, if_neg (by decide)]
        unfold b_X9_fillUntil_44 b_X9_fillUntil_45
        rw [if_pos (pz_in s2 (by decide)), nI_clamp (n := io (k - 1)) (by omega), hr 30 (by omega) (by omega), h30 _ s2 s3, hM, mk1, if_neg (by decide)]
        exact key80 0 τ hr rfl (by rw [wu_no (by rw [hQ, hM]; simp)]; rfl)
      · have hMf : M (io (k - 1)) = false := by simpa using hM
        have hQt : Q (io (k - 1)) = true := by rw [hQ, s3, hMf]; rfl
        rw [hMf, mk0, if_pos rfl]
        have hF' : RepX τ m F := RepX_same hF (by rw [hr _ (by omega) (by omega)]) (hr _ (by omega) (by omega)) (hr _ (by omega) (by omega)) (hr _ (by omega) (by omega))
        obtain ⟨rr, hh, kw⟩ := wx (σ := τ) (m := m) (c := io (k - 1)) (nl := nl) s2 (by rw [hr 2 (by omega) (by omega)]; exact e4) hnl hF' hw
        have ew : wv τ nl F (io (k - 1)) = wv σ nl F (io (k - 1)) := wv_cong (hr _ (by omega) (by omega)) (hr _ (by omega) (by omega)) (hr _ (by omega) (by omega)) (hr _ (by omega) (by omega)) (hr _ (by omega) (by omega))
        rw [kw, pz_bi_some, ew]
        obtain ⟨τ', et⟩ : ∃ τ', τ' = pw_rw (pw_rw τ 28 rr) 29 hh := ⟨_, rfl⟩
        have hr' : ∀ r, r ≠ 28 → r ≠ 29 → τ'.1 r = σ.1 r := fun r a b => by rw [et, rw_ne b, rw_ne a]; exact hr r a b
        have hr2' : τ'.2 = τ.2 := by rw [et]; rfl
        rw [← et]
        by_cases hz : wv σ nl F (io (k - 1)) = 0
        · have hWf : W (io (k - 1)) = false := by rw [hW]; unfold wb; rw [hz]; rfl
          rw [if_pos hz]
          unfold b_X9_fillUntil_44 b_X9_fillUntil_45
          rw [if_pos (pz_in s2 (by decide)), nI_clamp (n := io (k - 1)) (by omega), hr' 30 (by omega) (by omega), h30 _ s2 s3, hMf, mk0, if_pos rfl, if_pos rfl]
          rw [pz_sumOverG (σ := τ') (P := P) (V := wu ev Q W) (c := io (k - 1)) h6 (by rw [hr' 11 (by omega) (by omega)]; exact e11) (by rw [hr' 23 (by omega) (by omega)]; exact e23) hV s2 (fun p hp hd hP => by
            have h6p := h6 p hp
            have hl := up_lt s2 hp (show dg (io (k - 1)) p < 6 by omega)
            obtain ⟨j, hj1, hj2⟩ := hS.2.2.2.1 _ hl hP
            have hky := key_up (c := io (k - 1)) hp (show dg (io (k - 1)) p < 6 by omega)
            have hjk : k ≤ j := by
              rcases Nat.lt_trichotomy j (k - 1) with hl | hl | hl
              · have := hS.2.2.1 j (k - 1) hl hk; rw [hj2] at this; omega
              · rw [hl] at hj2; rw [← hj2] at hky; omega
              · omega
            rw [hr2', ← hj2]; exact hj j hjk hj1), pz_bl_some]
          exact key80 _ τ' hr' hr2' (by rw [wu_eq h6 hQt hWf])
        · have hWt : W (io (k - 1)) = true := by rw [hW]; unfold wb; rw [decide_eq_false hz]; rfl
          rw [if_neg hz]
          unfold b_X9_fillUntil_45
          rw [if_pos (pz_in s2 (by decide)), nI_clamp (n := io (k - 1)) (by omega), hr' 30 (by omega) (by omega), h30 _ s2 s3, hMf, mk0, if_pos rfl, if_neg (by decide)]
          exact key80 1 τ' hr' hr2' (by rw [wu_end hQt hWt]; rfl)
-- what has come
def anyf (t : Nat → Bool) : Nat → Bool
  | 0 => false
  | n + 1 => anyf t n || t n
theorem anyf_s (t : Nat → Bool) (n : Nat) : anyf t (n + 1) = (anyf t n || t n) := rfl
theorem anyf_ex {t : Nat → Bool} : ∀ {n : Nat}, anyf t n = true ↔ ∃ p, p < n ∧ t p = true
  | 0 => ⟨fun h => absurd h (by simp [anyf]), fun ⟨p, h, _⟩ => by omega⟩
  | n + 1 => by
    rw [anyf_s, Bool.or_eq_true, anyf_ex (n := n)]
    constructor
    · rintro (⟨p, h1, h2⟩ | h)
      · exact ⟨p, by omega, h2⟩
      · exact ⟨n, by omega, h⟩
    · rintro ⟨p, h1, h2⟩
      by_cases e : p = n
      · subst e; exact Or.inr h2
      · exact Or.inl ⟨p, by omega, h2⟩
def rt (R : Nat → Bool) (c p : Nat) : Bool := decide (0 < dg c p) && R (c - un p)
def rcf (Q : Nat → Bool) : Nat → Nat → Bool
  | 0, _ => false
  | n + 1, c => Q c && (decide (c = 0) || anyf (rt (rcf Q n) c) 4)
theorem rcf_s (Q : Nat → Bool) (n c : Nat) : rcf Q (n + 1) c = (Q c && (decide (c = 0) || anyf (rt (rcf Q n) c) 4)) := rfl
theorem anyf_cong {t u : Nat → Bool} : ∀ {n : Nat}, (∀ p, p < n → t p = u p) → anyf t n = anyf u n
  | 0, _ => rfl
  | n + 1, h => by rw [anyf_s, anyf_s, anyf_cong (fun p hp => h p (by omega)), h n (by omega)]
theorem sz_dn {c p : Nat} (hp : p < 4) (h : 0 < dg c p) : sz c = sz (c - un p) + 1 := by
  have hu := un_lec hp h
  have d := dg_lt c p
  have := sz_up (c := c - un p) hp (by rw [dg_dn hp h]; omega)
  rw [show c - un p + un p = c by omega] at this
  exact this
theorem rcf_st {Q : Nat → Bool} : ∀ n c, sz c < n → rcf Q n c = rcf Q (n + 1) c
  | 0, c, h => by omega
  | n + 1, c, h => by
    rw [rcf_s, rcf_s Q (n + 1)]
    rw [anyf_cong (t := rt (rcf Q n) c) (u := rt (rcf Q (n + 1)) c) (fun p hp => by
      unfold rt
      by_cases h0 : 0 < dg c p
      · rw [rcf_st n _ (by have := sz_dn hp h0; omega)]
      · rw [decide_eq_false h0, Bool.false_and, Bool.false_and])]
def rc (Q : Nat → Bool) (c : Nat) : Bool := rcf Q 25 c
theorem rc_eq (Q : Nat → Bool) (c : Nat) : rc Q c = (Q c && (decide (c = 0) || anyf (rt (rc Q) c) 4)) := by
  unfold rc
  rw [rcf_s]
  rw [anyf_cong (t := rt (rcf Q 24) c) (u := rt (rcf Q 25) c) (fun p hp => by
    unfold rt
    by_cases h0 : 0 < dg c p
    · rw [rcf_st 24 _ (by have := sz_dn hp h0; have := sz_le c; omega)]
    · rw [decide_eq_false h0, Bool.false_and, Bool.false_and])]
theorem rc_Q {Q : Nat → Bool} {c : Nat} (h : rc Q c = true) : Q c = true := by
  rw [rc_eq] at h
  exact (Bool.and_eq_true _ _ ▸ h).1
theorem rsf_pos {t : Nat → Nat} (h : 0 < rsf t 4) : ∃ p, p < 4 ∧ 0 < t p := by
  have e : rsf t 4 = t 0 + (t 1 + (t 2 + (t 3 + 0))) := rfl
  rw [e] at h
  by_cases h0 : 0 < t 0
  · exact ⟨0, by omega, h0⟩
  · by_cases h1 : 0 < t 1
    · exact ⟨1, by omega, h1⟩
    · by_cases h2 : 0 < t 2
      · exact ⟨2, by omega, h2⟩
      · exact ⟨3, by omega, by omega⟩
theorem rsf_ge {t : Nat → Nat} {p : Nat} (hp : p < 4) : t p ≤ rsf t 4 := by
  have e : rsf t 4 = t 0 + (t 1 + (t 2 + (t 3 + 0))) := rfl
  rw [e]
  rcases (show p = 0 ∨ p = 1 ∨ p = 2 ∨ p = 3 by omega) with rfl | rfl | rfl | rfl <;> omega
theorem wu_fwd {ev : Nat → Nat} {Q W : Nat → Bool} (h6 : ∀ p, p < 4 → ev p ≤ 6) (hQ : ∀ c, Q c = true → isC ev c) : ∀ (d c : Nat), 24 - sz c = d → rc Q c = true → 0 < wu ev Q W c → ∃ e, rc Q e = true ∧ W e = true := by
  intro d
  induction d with
  | zero =>
    intro c hd hr hp
    have hQc := rc_Q hr
    by_cases hw : W c = true
    · exact ⟨c, hr, hw⟩
    · have hwf : W c = false := by simpa using hw
      rw [wu_eq h6 hQc hwf] at hp
      obtain ⟨p, p1, p2⟩ := rsf_pos hp
      unfold tm at p2
      by_cases hl : dg c p < ev p
      · have h6p := h6 p p1
        have := sz_up p1 (show dg c p < 6 by omega)
        have := sz_le (c + un p)
        omega
      · rw [if_neg hl] at p2; omega
  | succ d ih =>
    intro c hd hr hp
    have hQc := rc_Q hr
    by_cases hw : W c = true
    · exact ⟨c, hr, hw⟩
    · have hwf : W c = false := by simpa using hw
      rw [wu_eq h6 hQc hwf] at hp
      obtain ⟨p, p1, p2⟩ := rsf_pos hp
      unfold tm at p2
      by_cases hl : dg c p < ev p
      · have h6p := h6 p p1
        have hu := sz_up p1 (show dg c p < 6 by omega)
        rw [if_pos hl] at p2
        have hQn : Q (c + un p) = true := by
          cases hx : Q (c + un p)
          · rw [wu_no hx] at p2; omega
          · rfl
        refine ih (c + un p) (by omega) ?_ p2
        rw [rc_eq, hQn, Bool.true_and, Bool.or_eq_true]
        refine Or.inr (anyf_ex.mpr ⟨p, p1, ?_⟩)
        unfold rt
        rw [dg_up p1 (by omega), show c + un p - un p = c by omega, hr]
        simp
      · rw [if_neg hl] at p2; omega
theorem wu_bwd {ev : Nat → Nat} {Q W : Nat → Bool} (h6 : ∀ p, p < 4 → ev p ≤ 6) (hQ : ∀ c, Q c = true → isC ev c) : ∀ (d c : Nat), sz c = d → rc Q c = true → 0 < wu ev Q W c → 0 < wu ev Q W 0 := by
  intro d
  induction d with
  | zero =>
    intro c hd hr hp
    rw [rc_eq] at hr
    obtain ⟨q1, q2⟩ := (Bool.and_eq_true _ _ ▸ hr)
    rw [Bool.or_eq_true] at q2
    rcases q2 with q2 | q2
    · rw [of_decide_eq_true q2] at hp; exact hp
    · obtain ⟨p, p1, p2⟩ := anyf_ex.mp q2
      unfold rt at p2
      rw [Bool.and_eq_true] at p2
      have := sz_dn p1 (of_decide_eq_true p2.1)
      omega
  | succ d ih =>
    intro c hd hr hp
    have hQc := rc_Q hr
    rw [rc_eq] at hr
    obtain ⟨q1, q2⟩ := (Bool.and_eq_true _ _ ▸ hr)
    rw [Bool.or_eq_true] at q2
    rcases q2 with q2 | q2
    · rw [of_decide_eq_true q2] at hp; exact hp
    · obtain ⟨p, p1, p2⟩ := anyf_ex.mp q2
      unfold rt at p2
      rw [Bool.and_eq_true] at p2
      have h0 := of_decide_eq_true p2.1
      have hs := sz_dn p1 h0
      have hu := un_lec p1 h0
      refine ih (c - un p) (by omega) p2.2 ?_
      have hQd := rc_Q p2.2
      cases hw : W (c - un p)
      · rw [wu_eq h6 hQd hw]
        have hc := (hQ c hQc).2 p p1
        have hg := rsf_ge (t := tm ev (wu ev Q W) (c - un p)) p1
        have : tm ev (wu ev Q W) (c - un p) p = wu ev Q W c := by
          unfold tm
          rw [dg_dn p1 h0, if_pos (by omega), show c - un p + un p = c by omega]
        omega
      · rw [wu_end hQd hw]; omega
theorem wu_rc {ev : Nat → Nat} {Q W : Nat → Bool} (h6 : ∀ p, p < 4 → ev p ≤ 6) (hQ : ∀ c, Q c = true → isC ev c) : 0 < wu ev Q W 0 ↔ ∃ e, rc Q e = true ∧ W e = true := by
  constructor
  · intro h
    refine wu_fwd h6 hQ _ 0 rfl ?_ h
    rw [rc_eq]
    cases hq : Q 0
    · rw [wu_no hq] at h; omega
    · rfl
  · rintro ⟨e, e1, e2⟩
    exact wu_bwd h6 hQ _ e rfl e1 (by rw [wu_end (rc_Q e1) e2]; omega)
