-- PURE PART: number, part, op, condition, clear
theorem ix15 (b m : Nat) : (15 : Int32) * nI b + nI m = nI (15 * b + m) := by rw [show (15 : Int32) = nI 15 from rfl, pk_mul, nI_add]
/-- one entry behind block b of the reference -/
def fmS (σ : pw_St) (b m : Nat) (w u v : Int32) : pw_St := pw_rw (pw_rw (pw_rw (pw_rw σ 46 (upd (σ.1 46) (15 * b + m) w)) 47 (upd (σ.1 47) (15 * b + m) u)) 48 (upd (σ.1 48) (15 * b + m) v)) 49 (upd (σ.1 49) b (nI (m + 1)))
theorem fmS_rep {σ : pw_St} {b : Nat} {F : List Pt_} {x : Pt_} {w u v : Int32} (h : RepM σ b F) (hw : w = nI (enc x.1)) (huv : 8 ≤ x.1 → u = x.2.1 ∧ v = x.2.2) : RepM (fmS σ b F.length w u v) b (F ++ [x]) := by
  obtain ⟨h1, h2⟩ := h
  refine ⟨by rw [List.length_append]; exact pk_us, fun k y hy => ?_⟩
  have c46 : (fmS σ b F.length w u v).1 46 = upd (σ.1 46) (15 * b + F.length) w := rfl
  have c47 : (fmS σ b F.length w u v).1 47 = upd (σ.1 47) (15 * b + F.length) u := rfl
  have c48 : (fmS σ b F.length w u v).1 48 = upd (σ.1 48) (15 * b + F.length) v := rfl
  rw [c46, c47, c48]
  by_cases hk : k < F.length
  · rw [List.getElem?_append_left hk] at hy
    rw [pk_un (by omega), pk_un (by omega), pk_un (by omega)]
    exact h2 k y hy
  · rw [List.getElem?_append_right (by omega)] at hy
    have hz : k - F.length = 0 := by
      have := (List.getElem?_eq_some_iff.mp hy).1
      simp at this; exact this
    have hk2 : k = F.length := by omega
    rw [hz] at hy
    cases hy
    subst hk2
    rw [pk_us, pk_us, pk_us]
    exact ⟨hw, huv⟩
theorem fmS_fr {σ : pw_St} {b m : Nat} {w u v : Int32} (hm : m < 15) : MFr b σ (fmS σ b m w u v) := by
  refine ⟨fun r hr => ?_, fun j hj => ?_, fun j hj => ⟨?_, ?_, ?_⟩, rfl⟩
  · unfold fmS
    rw [rw_ne (by omega), rw_ne (by omega), rw_ne (by omega), rw_ne (by omega)]
  · exact pk_un hj
  · exact pk_un (by omega)
  · exact pk_un (by omega)
  · exact pk_un (by omega)
theorem fm_copy_s {σ : pw_St} {a b i g m n : Nat} (ha : a < 16) (hb : b < 16) (hg : g ≤ 15) (hi : i < g) (hm : m < 15) (ea : σ.1 49 a = nI g) (eb : σ.1 49 b = nI m) : l_X11_copy_2 (n + 1) (nI a) (nI b) (nI i) σ = l_X11_copy_2 n (nI a) (nI b) (nI (i + 1)) (fmS σ b m (σ.1 46 (15 * a + i)) (σ.1 47 (15 * a + i)) (σ.1 48 (15 * a + i))) := by
  show b_X11_copy_2 (l_X11_copy_2 n) (nI a) (nI b) (nI i) σ = _
  unfold b_X11_copy_2
  have pa : pw_in (nI a) 16 = true := pz_in ha (by decide)
  have pb' : pw_in (nI b) 16 = true := pz_in hb (by decide)
  have pc : pw_in (nI (15 * a + i)) 240 = true := pz_in (by omega) (by decide)
  have pd : pw_in (nI (15 * b + m)) 240 = true := pz_in (by omega) (by decide)
  have ca : (nI a).toNatClampNeg = a := nI_clamp (by omega)
  have cb : (nI b).toNatClampNeg = b := nI_clamp (by omega)
  have cc : (nI (15 * a + i)).toNatClampNeg = 15 * a + i := nI_clamp (by omega)
  have cd : (nI (15 * b + m)).toNatClampNeg = 15 * b + m := nI_clamp (by omega)
  rw [if_pos pa, ca, cb, ea, eb, ix15, ix15, cc, cd, if_neg (nI_ge hi (by omega)), if_pos pb', if_pos pc, if_pos pd, pz_lt, if_pos pc, if_pos pd, pz_lt, if_pos pc, if_pos pd, pz_lt, if_pos pb', if_pos pb', pz_lt, nI_1]
  rw [show fmS σ b m (σ.1 46 (15 * a + i)) (σ.1 47 (15 * a + i)) (σ.1 48 (15 * a + i)) = pw_sM (pw_sM (pw_sM (pw_sM σ 46 (15 * b + m) (σ.1 46 (15 * a + i))) 47 (15 * b + m) (σ.1 47 (15 * a + i))) 48 (15 * b + m) (σ.1 48 (15 * a + i))) 49 b (nI m + 1) by rw [nI_1]; rfl]
  rw [← eb]
  rfl
theorem fm_copy_l {a b : Nat} (hne : a ≠ b) (ha : a < 16) (hb : b < 16) {F G : List Pt_} (hl : F.length + G.length ≤ 15) : ∀ (n i : Nat) (σ : pw_St), i ≤ G.length → G.length - i < n → RepM σ b (F ++ G.take i) → RepM σ a G → ∃ σ2, l_X11_copy_2 n (nI a) (nI b) (nI i) σ = some σ2 ∧ RepM σ2 b (F ++ G) ∧ MFr b σ σ2 := by
  intro n
  induction n with
  | zero => intro i σ _ h; omega
  | succ n ih =>
    intro i σ h1 h2 hF hG
    by_cases he : i = G.length
    · subst he
      rw [List.take_length] at hF
      refine ⟨σ, ?_, hF, fun _ _ => rfl, fun _ _ => rfl, fun _ _ => ⟨rfl, rfl, rfl⟩, rfl⟩
      show b_X11_copy_2 (l_X11_copy_2 n) (nI a) (nI b) (nI G.length) σ = _
      unfold b_X11_copy_2
      rw [if_pos (pz_in ha (by decide)), nI_clamp (n := a) (by omega), hG.1, if_pos (nI_le (Nat.le_refl _) (by omega))]
    · have hi : i < G.length := by omega
      obtain ⟨x, hx⟩ : ∃ x, G[i]? = some x := ⟨G[i], List.getElem?_eq_getElem hi⟩
      obtain ⟨g1, g2⟩ := hG.2 i x hx
      have hm : (F ++ G.take i).length = F.length + i := by rw [List.length_append, List.length_take]; omega
      have eb := hF.1
      rw [hm] at eb
      rw [fm_copy_s ha hb (by omega) hi (by omega) hG.1 eb]
      have k2 := fmS_rep (x := x) hF g1 g2
      rw [hm] at k2
      have k3 : MFr b σ (fmS σ b (F.length + i) (σ.1 46 (15 * a + i)) (σ.1 47 (15 * a + i)) (σ.1 48 (15 * a + i))) := fmS_fr (by omega)
      have ht : F ++ List.take i G ++ [x] = F ++ List.take (i + 1) G := by
        rw [List.append_assoc, List.take_add_one, hx]
        rfl
      rw [ht] at k2
      obtain ⟨σ2, m1, m2, m3⟩ := ih (i + 1) _ (by omega) (by omega) k2 (RepM_fr hG (by omega) hne k3)
      exact ⟨σ2, m1, m2, MFr_tr k3 m3⟩
theorem fm_copy {a b : Nat} (hne : a ≠ b) (ha : a < 16) (hb : b < 16) {F G : List Pt_} {σ : pw_St} (hl : F.length + G.length ≤ 15) (hF : RepM σ b F) (hG : RepM σ a G) : ∃ σ2, f_X11_copy (nI a) (nI b) σ = some σ2 ∧ RepM σ2 b (F ++ G) ∧ MFr b σ σ2 := by
  unfold f_X11_copy
  exact fm_copy_l hne ha hb hl pw_FU 0 σ (by omega) (by unfold pw_FU; omega) (by simpa using hF) hG
/-- what a class's step leaves -/
def XFr (m : Nat) (σ σ1 : pw_St) : Prop := (∀ r, r ≠ 4 → r ≠ 5 → r ≠ 4 * m + 54 → r ≠ 4 * m + 55 → r ≠ 4 * m + 56 → r ≠ 4 * m + 57 → σ1.1 r = σ.1 r) ∧ σ1.2 = σ.2
def YFr (c : Nat) (σ σ2 : pw_St) : Prop := (∀ r, r ≠ 10 → ¬ (46 ≤ r ∧ r ≤ 49) → σ2.1 r = σ.1 r) ∧ (∀ j, j ≠ 20 → j ≠ 21 → σ2.1 10 j = σ.1 10 j) ∧ (∀ j, j ≠ c → σ2.1 49 j = σ.1 49 j) ∧ (∀ j, ¬ (15 * c ≤ j ∧ j < 15 * c + 15) → σ2.1 46 j = σ.1 46 j ∧ σ2.1 47 j = σ.1 47 j ∧ σ2.1 48 j = σ.1 48 j) ∧ σ2.2 = σ.2
theorem XY_C {m c : Nat} {σ σ1 σ2 : pw_St} (hX : XFr m σ σ1) (hY : YFr c σ1 σ2) : CFr σ σ2 := by
  refine ⟨fun r a1 a2 a3 a4 a5 => ?_, fun j a1 a2 => ?_, hY.2.2.2.2.trans hX.2⟩
  · rw [hY.1 r a3 a4, hX.1 r a1 a2 (by omega) (by omega) (by omega) (by omega)]
  · rw [hY.2.1 j a1 a2, hX.1 10 (by omega) (by omega) (by omega) (by omega) (by omega) (by omega)]
theorem XY_X {m c d : Nat} {σ σ1 σ2 : pw_St} {F : List Pt_} (hX : XFr m σ σ1) (hY : YFr c σ1 σ2) (hne : d ≠ m) (h : RepX σ d F) : RepX σ2 d F := by
  refine RepX_same h ?_ ?_ ?_ ?_
  · rw [hY.1 (4 * d + 54) (by omega) (by omega), hX.1 _ (by omega) (by omega) (by omega) (by omega) (by omega) (by omega)]
  · rw [hY.1 (4 * d + 55) (by omega) (by omega), hX.1 _ (by omega) (by omega) (by omega) (by omega) (by omega) (by omega)]
  · rw [hY.1 (4 * d + 56) (by omega) (by omega), hX.1 _ (by omega) (by omega) (by omega) (by omega) (by omega) (by omega)]
  · rw [hY.1 (4 * d + 57) (by omega) (by omega), hX.1 _ (by omega) (by omega) (by omega) (by omega) (by omega) (by omega)]
theorem Y_X {c d : Nat} {σ1 σ2 : pw_St} {F : List Pt_} (hY : YFr c σ1 σ2) (h : RepX σ1 d F) : RepX σ2 d F := by
  refine RepX_same h ?_ ?_ ?_ ?_
  · rw [hY.1 (4 * d + 54) (by omega) (by omega)]
  · rw [hY.1 (4 * d + 55) (by omega) (by omega)]
  · rw [hY.1 (4 * d + 56) (by omega) (by omega)]
  · rw [hY.1 (4 * d + 57) (by omega) (by omega)]
theorem X_M {m d : Nat} {σ σ1 : pw_St} {F : List Pt_} (hX : XFr m σ σ1) (h : RepM σ d F) : RepM σ1 d F :=
  RepM_same h (hX.1 _ (by omega) (by omega) (by omega) (by omega) (by omega) (by omega)) (hX.1 _ (by omega) (by omega) (by omega) (by omega) (by omega) (by omega)) (hX.1 _ (by omega) (by omega) (by omega) (by omega) (by omega) (by omega)) (hX.1 _ (by omega) (by omega) (by omega) (by omega) (by omega) (by omega))
theorem XY_M {m c d : Nat} {σ σ1 σ2 : pw_St} {F : List Pt_} (hX : XFr m σ σ1) (hY : YFr c σ1 σ2) (hne : d ≠ c) (hl : F.length ≤ 15) (h : RepM σ d F) : RepM σ2 d F := by
  have h1 := X_M hX h
  obtain ⟨k1, k2⟩ := h1
  refine ⟨by rw [hY.2.2.1 d hne]; exact k1, fun k x hx => ?_⟩
  have hk := (List.getElem?_eq_some_iff.mp hx).1
  obtain ⟨e1, e2, e3⟩ := hY.2.2.2.1 (15 * d + k) (by omega)
  rw [e1, e2, e3]
  exact k2 k x hx
theorem CI_pile {σ σ1 σ2 : pw_St} {nc nt i nt2 : Nat} {Fc Fp : Nat → List Pt_} {F : List Pt_} (h : CInv σ nc nt Fc Fp) (hX : XFr i σ σ1) (hY : YFr (8 + i) σ1 σ2) (k1 : RepX σ1 i F) (k2 : RepM σ2 (8 + i) F) (hw : wfF F (6 - i)) (hn : nt2 ≤ 6) (hi : i < 6) (ho : ∀ j, j < nt2 → j ≠ i → j < nt) (e1 : σ2.1 5 1 = nI nc) (e2 : σ2.1 10 20 = nI nc) (e3 : σ2.1 4 1 = nI nt2) (e4 : σ2.1 10 21 = nI nt2) : CInv σ2 nc nt2 Fc (fun j => if j = i then F else Fp j) := by
  obtain ⟨b1, b2, b3, b4, b5, b6, b7, b8⟩ := h
  refine ⟨b1, hn, e1, e2, e3, e4, fun c hc => ?_, fun j hj => ?_⟩
  · obtain ⟨q1, q2, q3⟩ := b7 c hc
    exact ⟨XY_X hX hY (by omega) q1, XY_M hX hY (by omega) q3.2.2 q2, q3⟩
  · by_cases hji : j = i
    · subst hji
      rw [show (fun j_1 => if j_1 = j then F else Fp j_1) j = F from if_pos rfl]
      exact ⟨Y_X hY k1, k2, hw⟩
    · rw [show (fun j => if j = i then F else Fp j) j = Fp j from if_neg hji]
      obtain ⟨q1, q2, q3⟩ := b8 j (ho j hj hji)
      exact ⟨XY_X hX hY hji q1, XY_M hX hY (by omega) q3.2.2 q2, q3⟩
/-- the form of a call on conditions -/
def Cop (fx fm : pw_St → Option (Int32 × pw_St)) (σ : pw_St) : Prop := ∃ r σ1 σ2, fx σ = some (r, σ1) ∧ fm σ1 = some (r, σ2) ∧ (∃ nc nt Fc Fp, CInv σ2 nc nt Fc Fp) ∧ CFr σ σ2
theorem CFr_rf (σ : pw_St) : CFr σ σ := ⟨fun _ _ _ _ _ _ => rfl, fun _ _ _ => rfl, rfl⟩
theorem Cop_same {fx fm : pw_St → Option (Int32 × pw_St)} {σ : pw_St} {nc nt : Nat} {Fc Fp : Nat → List Pt_} (h : CInv σ nc nt Fc Fp) {r : Int32} (h1 : fx σ = some (r, σ)) (h2 : fm σ = some (r, σ)) : Cop fx fm σ := ⟨r, σ, σ, h1, h2, ⟨nc, nt, Fc, Fp, h⟩, CFr_rf σ⟩
theorem C_push {σ : pw_St} {nc nt : Nat} {Fc Fp : Nat → List Pt_} (h : CInv σ nc nt Fc Fp) (x : Pt_) (hx : 8 ≤ x.1) (hg : gdp x) (ht : nt < 6) : ∃ r σ1 σ2, f_X7_push (nI x.1) x.2.1 x.2.2 σ = some (r, σ1) ∧ f_X11_push (nI (enc x.1)) x.2.1 x.2.2 σ1 = some (r, σ2) ∧ (∃ nc nt Fc Fp, CInv σ2 nc nt Fc Fp) ∧ CFr σ σ2 := by
  obtain ⟨b1, b2, b3, b4, b5, b6, b7, b8⟩ := id h
  obtain ⟨σ1, k1, k2, k3, k4, k5⟩ := fx_push x ht b5
  have q1 : σ1.1 10 21 = nI nt := by rw [k3 10 (by omega) (by omega) (by omega) (by omega) (by omega)]; exact b6
  obtain ⟨σ2, m1, m2, m3, m4, m5, m6, m7, m8⟩ := fm_push x ht q1
  have hX : XFr nt σ σ1 := ⟨fun r a1 a2 a3 a4 a5 a6 => k3 r a1 a3 a4 a5 a6, k5⟩
  have hY : YFr (8 + nt) σ1 σ2 := ⟨m3, fun j a1 a2 => m4 j a2, m6, m7, m8⟩
  refine ⟨_, σ1, σ2, k1, m1, ⟨nc, nt + 1, Fc, _, CI_pile h hX hY k2 m2 ?_ (by omega) ht (fun j a1 a2 => by omega) ?_ ?_ ?_ m5⟩, XY_C hX hY⟩
  · refine ⟨?_, fun y hy => ?_, by simp⟩
    · show (if x.1 < 7 then (if 2 ≤ 0 then hts (6 - nt) [] (0 - 1) else none) else if x.1 = 7 then (if 1 ≤ 0 then hts (6 - nt) [] 0 else none) else (if 0 < 6 - nt then hts (6 - nt) [] (0 + 1) else none)) = some 1
      rw [if_neg (by omega), if_neg (by omega), if_pos (by omega)]
      rfl
    · have : y = x := by simpa using hy
      rw [this]; exact hg
  · rw [m3 5 (by omega) (by omega), k3 5 (by omega) (by omega) (by omega) (by omega) (by omega)]; exact b3
  · rw [m4 20 (by omega), k3 10 (by omega) (by omega) (by omega) (by omega) (by omega)]; exact b4
  · rw [m3 4 (by omega) (by omega)]; exact k4
theorem pz_number {σ : pw_St} {nc nt : Nat} {Fc Fp : Nat → List Pt_} (h : CInv σ nc nt Fc Fp) (v : Int32) : Cop (f_X10_number v) (f_X11_number v) σ := by
  obtain ⟨b1, b2, b3, b4, b5, b6, b7, b8⟩ := id h
  by_cases ht : nt < 6
  · obtain ⟨r, σ1, σ2, k1, k2, k3, k4⟩ := C_push h (11, v, 0) (show 8 ≤ 11 by decide) (Or.inr (Or.inl rfl)) ht
    refine ⟨r, σ1, σ2, ?_, ?_, k3, k4⟩
    · unfold f_X10_number
      rw [b5, if_pos (show nI nt < 6 from nI_lt (b := 6) ht (by decide)), show f_X7_push 11 v 0 σ = some (r, σ1) from k1]
      rfl
    · unfold f_X11_number
      rw [show f_X11_push 10 v 0 σ1 = some (r, σ2) from k2]
      rfl
  · have h6 : nt = 6 := by omega
    subst h6
    refine Cop_same h (r := -4) ?_ ?_
    · unfold f_X10_number
      rw [b5, if_neg (by decide)]
    · unfold f_X11_number f_X11_push
      rw [b6, if_pos (show nI 6 = (6 : Int32) from rfl)]
      rfl
theorem mp_neg {x : Int32} {σ : pw_St} (h : x < 0) : f_X10_mayBeProcess x σ = some (0, σ) := by
  unfold f_X10_mayBeProcess
  rw [if_pos h, if_pos pz_isb0]
theorem mp_ge {x : Int32} {σ : pw_St} (h0 : ¬ x < 0) (h : nI 4 ≤ x) : f_X10_mayBeProcess x σ = some (0, σ) := by
  unfold f_X10_mayBeProcess
  rw [if_neg h0, if_pos (show (4 : Int32) ≤ x from h), if_pos pz_isb0]
theorem mp_in {p : Nat} {σ : pw_St} (h : p < 4) : f_X10_mayBeProcess (nI p) σ = some (1, σ) := by
  unfold f_X10_mayBeProcess
  rw [if_neg (nI_pos (by omega)), if_neg (show ¬ (4 : Int32) ≤ nI p from nI_ge (b := 4) h (by decide)), if_pos pz_isb1]
