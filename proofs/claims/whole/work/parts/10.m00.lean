section PM
variable {p : Program} {l : Launch} {e : Env} {s : State} {m : MethodId} {args : Array Value} {below : List Frame} {meth : Method} {c : Code} {G : pw_Gh}
-- PerhapsWas$Conditions has
def f_X0_has (x1 : Int32) (σ : pw_St) : Option (Int32 × pw_St) := (if x1 < 0 then (if pw_isb (0 : Int32) = true then some ((0 : Int32), σ) else none) else (if (σ.1 5 1) ≤ x1 then (if pw_isb (0 : Int32) = true then some ((0 : Int32), σ) else none) else (if pw_isb (1 : Int32) = true then some ((1 : Int32), σ) else none)))
def rm_X0_has : Room := { frames := 0, cells := 0, slots := 0, locals := 0 }
set_option maxHeartbeats 4000000 in
set_option maxRecDepth 100000 in
theorem c_X0_has {l : Launch} {G : pw_Gh} {x1 : Int32} {σ : pw_St} {r : Int32} {τ : pw_St} (hf : f_X0_has x1 σ = some (r, τ)) : Met l yX0_has (.code yX0_has cX0_has 2 (some .boolean) :: pw_BW) rm_X0_has (pw_Pc G [.ref (pw_ad G 5), .int x1] σ) (pw_Qi G r τ) 0 0 (pw_gA G) := by
  refine pw_met (by decide +kernel) (Nat.le_of_ble_eq_true rfl) ?_
  intro p e s m args below meth c ls hC hw hl
  replace hl : lv_has ls 2 [(0, .ref (pw_ad G 5)), (1, .int x1)] := hl
  have hx := hC.1
  have hb := hC.2.1
  unfold f_X0_has at hf
  refine lv_iload_n hx hb dX0_has_0 rfl (lv_at hl 1 rfl) ?_
  refine lv_if_lt (tgt := 16) hx hb dX0_has_1 (by decide) (fun hc => ?_) (fun hc => ?_)
  · replace hf := pw_ifp hc hf
    refine lv_iconst (v := 0) hx hb dX0_has_16 (by decide) ?_
    exact pw_zret hC hw hf dX0_has_17
  · replace hf := pw_ifn hc hf
    refine lv_iload_n hx hb dX0_has_4 rfl (lv_at hl 1 rfl) ?_
    refine lv_aload_n hx hb dX0_has_5 rfl (lv_at hl 0 rfl) ?_
    refine pg_5_1 hC hw mw_236 dX0_has_6 ?_
    refine lv_icmp_ge (tgt := 16) hx hb dX0_has_9 (by decide) (fun hc => ?_) (fun hc => ?_)
    · replace hf := pw_ifp hc hf
      refine lv_iconst (v := 0) hx hb dX0_has_16 (by decide) ?_
      exact pw_zret hC hw hf dX0_has_17
    · replace hf := pw_ifn hc hf
      refine lv_iconst (v := 1) hx hb dX0_has_12 (by decide) ?_
      refine lv_goto (tgt := 17) hx hb dX0_has_13 (by decide) ?_
      exact pw_zret hC hw hf dX0_has_17
-- PerhapsWas$Formula append
def f_X1_append (n0 : Nat) (x1 : Int32) (x2 : Int32) (x3 : Int32) (σ : pw_St) : Option pw_St := (if pw_in (σ.1 (4 * n0 + 54) 3) 15 = true then (pw_lt (pw_sM σ (4 * n0 + 55) (σ.1 (4 * n0 + 54) 3).toNatClampNeg x1) fun σ1 => (if pw_in (σ1.1 (4 * n0 + 54) 3) 15 = true then (pw_lt (pw_sM σ1 (4 * n0 + 56) (σ1.1 (4 * n0 + 54) 3).toNatClampNeg x2) fun σ2 => (if pw_in (σ2.1 (4 * n0 + 54) 3) 15 = true then (pw_lt (pw_sM σ2 (4 * n0 + 57) (σ2.1 (4 * n0 + 54) 3).toNatClampNeg x3) fun σ3 => (pw_lt (pw_sM σ3 (4 * n0 + 54) 3 ((σ3.1 (4 * n0 + 54) 3) + (1 : Int32))) fun σ4 => (some σ4))) else none)) else none)) else none)
def rm_X1_append : Room := { frames := 0, cells := 0, slots := 0, locals := 0 }
set_option maxHeartbeats 4000000 in
set_option maxRecDepth 100000 in
theorem c_X1_append {l : Launch} {G : pw_Gh} {n0 : Nat} {x1 : Int32} {x2 : Int32} {x3 : Int32} (hbn0 : n0 < 14) {σ : pw_St} {τ : pw_St} (hf : f_X1_append n0 x1 x2 x3 σ = some τ) : Met l yX1_append (.code yX1_append cX1_append 4 none :: pw_BW) rm_X1_append (pw_Pc G [.ref (pw_ad G (4 * n0 + 54)), .int x1, .int x2, .int x3] σ) (pw_Qv G τ) 0 0 (pw_gA G) := by
  refine pw_met (by decide +kernel) (Nat.le_of_ble_eq_true rfl) ?_
  intro p e s m args below meth c ls hC hw hl
  replace hl : lv_has ls 4 [(0, .ref (pw_ad G (4 * n0 + 54))), (1, .int x1), (2, .int x2), (3, .int x3)] := hl
  have hx := hC.1
  have hb := hC.2.1
  unfold f_X1_append at hf
  refine lv_aload_n hx hb dX1_append_0 rfl (lv_at hl 0 rfl) ?_
  refine pg_F_0 hbn0 hC hw mw_198 dX1_append_1 ?_
  refine lv_aload_n hx hb dX1_append_4 rfl (lv_at hl 0 rfl) ?_
  refine pg_F_3 hbn0 hC hw mw_206 dX1_append_5 ?_
  refine lv_iload_n hx hb dX1_append_8 rfl (lv_at hl 1 rfl) ?_
  obtain ⟨hin, hf⟩ := pw_gd hf
  refine pw_ist hC hw (ca_F1 hbn0) hin dX1_append_9 (fun H locs hw => ?_)
  obtain ⟨σ1, e1, hf⟩ := pw_lts hf
  replace hw := pw_WHe e1 hw
  refine lv_aload_n hx hb dX1_append_10 rfl (lv_at hl 0 rfl) ?_
  refine pg_F_1 hbn0 hC hw mw_200 dX1_append_11 ?_
  refine lv_aload_n hx hb dX1_append_14 rfl (lv_at hl 0 rfl) ?_
  refine pg_F_3 hbn0 hC hw mw_206 dX1_append_15 ?_
  refine lv_iload_n hx hb dX1_append_18 rfl (lv_at hl 2 rfl) ?_
  obtain ⟨hin, hf⟩ := pw_gd hf
  refine pw_ist hC hw (ca_F2 hbn0) hin dX1_append_19 (fun H locs hw => ?_)
  obtain ⟨σ2, e2, hf⟩ := pw_lts hf
  replace hw := pw_WHe e2 hw
  refine lv_aload_n hx hb dX1_append_20 rfl (lv_at hl 0 rfl) ?_
  refine pg_F_2 hbn0 hC hw mw_202 dX1_append_21 ?_
  refine lv_aload_n hx hb dX1_append_24 rfl (lv_at hl 0 rfl) ?_
  refine pg_F_3 hbn0 hC hw mw_206 dX1_append_25 ?_
  refine lv_iload_n hx hb dX1_append_28 rfl (lv_at hl 3 rfl) ?_
  obtain ⟨hin, hf⟩ := pw_gd hf
  refine pw_ist hC hw (ca_F3 hbn0) hin dX1_append_29 (fun H locs hw => ?_)
  obtain ⟨σ3, e3, hf⟩ := pw_lts hf
  replace hw := pw_WHe e3 hw
  refine lv_aload_n hx hb dX1_append_30 rfl (lv_at hl 0 rfl) ?_
  refine lv_dup hx hb dX1_append_31 rfl ?_
  refine pg_F_3 hbn0 hC hw mw_206 dX1_append_32 ?_
  refine lv_iconst (v := 1) hx hb dX1_append_35 (by decide) ?_
  refine lv_iadd hx hb dX1_append_36 ?_
  refine pp_F_3 hbn0 hC hw mw_206 dX1_append_37 (fun H locs hw => ?_)
  obtain ⟨σ4, e4, hf⟩ := pw_lts hf
  replace hw := pw_WHe e4 hw
  exact pw_vret hC hw hf dX1_append_40
-- PerhapsWas$Formula appendAll
def b_X1_appendAll_2 (k2 : Nat → Nat → Int32 → pw_St → Option pw_St) (n0 : Nat) (n1 : Nat) (x2 : Int32) (σ : pw_St) : Option pw_St := (if (σ.1 (4 * n1 + 54) 3) ≤ x2 then (some σ) else (if pw_in x2 15 = true then (if pw_in x2 15 = true then (if pw_in x2 15 = true then (pw_bv (f_X1_append n0 (σ.1 (4 * n1 + 55) x2.toNatClampNeg) (σ.1 (4 * n1 + 56) x2.toNatClampNeg) (σ.1 (4 * n1 + 57) x2.toNatClampNeg) σ) fun σ1 => (k2 n0 n1 (x2 + (1 : Int32)) σ1)) else none) else none) else none))
def l_X1_appendAll_2 : Nat → Nat → Nat → Int32 → pw_St → Option pw_St
  | 0 => fun _ _ _ _ => none
  | n + 1 => fun n0 n1 x2 σ => b_X1_appendAll_2  (l_X1_appendAll_2  n) n0 n1 x2 σ
def f_X1_appendAll (n0 : Nat) (n1 : Nat) (σ : pw_St) : Option pw_St := (l_X1_appendAll_2  pw_FU n0 n1 (0 : Int32) σ)
def rm_X1_appendAll : Room := { frames := 1, cells := 0, slots := 0, locals := 23 }
set_option maxHeartbeats 4000000 in
set_option maxRecDepth 100000 in
theorem t_X1_appendAll_2 (hC : pw_CX G RX1 cX1_appendAll 3 none p s m args meth c) {k2 : Nat → Nat → Int32 → pw_St → Option pw_St} {τ : pw_St} (hk2 : ∀ (n0 : Nat), ∀ (n1 : Nat), ∀ (x2 : Int32), ∀ (σ : pw_St) (H : Heap) (locs : List Loc) (ls : Array Slot), n0 < 14 → n1 < 14 → pw_WH G σ s.heap H locs → lv_has ls 3 [(0, .ref (pw_ad G (4 * n0 + 54))), (1, .ref (pw_ad G (4 * n1 + 54))), (2, .int x2)] → k2 n0 n1 x2 σ = some τ → W p l e rm_X1_appendAll s m args below meth c H locs 0 0 (MQ below (pw_Qv G τ) args s 0 0 (pw_gA G)) (F0 m 2 ls [])) {n0 : Nat} {n1 : Nat} {x2 : Int32} (hbn0 : n0 < 14) (hbn1 : n1 < 14) {σ : pw_St} {H : Heap} {locs : List Loc} {ls : Array Slot} (hw : pw_WH G σ s.heap H locs) (hl : lv_has ls 3 [(0, .ref (pw_ad G (4 * n0 + 54))), (1, .ref (pw_ad G (4 * n1 + 54))), (2, .int x2)]) (hf : b_X1_appendAll_2 k2 n0 n1 x2 σ = some τ) : W p l e rm_X1_appendAll s m args below meth c H locs 0 0 (MQ below (pw_Qv G τ) args s 0 0 (pw_gA G)) (F0 m 2 ls []) := by
  have hx := hC.1
  have hb := hC.2.1
  unfold b_X1_appendAll_2 at hf
  refine lv_iload_n hx hb dX1_appendAll_2 rfl (lv_at hl 2 rfl) ?_
  refine lv_aload_n hx hb dX1_appendAll_3 rfl (lv_at hl 1 rfl) ?_
  refine pg_F_3 hbn1 hC hw mw_206 dX1_appendAll_4 ?_
  refine lv_icmp_ge (tgt := 38) hx hb dX1_appendAll_7 (by decide) (fun hc => ?_) (fun hc => ?_)
  · replace hf := pw_ifp hc hf
    exact pw_vret hC hw hf dX1_appendAll_38
  · replace hf := pw_ifn hc hf
    refine lv_aload_n hx hb dX1_appendAll_10 rfl (lv_at hl 0 rfl) ?_
    refine lv_aload_n hx hb dX1_appendAll_11 rfl (lv_at hl 1 rfl) ?_
    refine pg_F_0 hbn1 hC hw mw_198 dX1_appendAll_12 ?_
    refine lv_iload_n hx hb dX1_appendAll_15 rfl (lv_at hl 2 rfl) ?_
    obtain ⟨hin, hf⟩ := pw_gd hf
    refine pw_ild hC hw (ca_F1 hbn1) hin dX1_appendAll_16 ?_
    refine lv_aload_n hx hb dX1_appendAll_17 rfl (lv_at hl 1 rfl) ?_
    refine pg_F_1 hbn1 hC hw mw_200 dX1_appendAll_18 ?_
    refine lv_iload_n hx hb dX1_appendAll_21 rfl (lv_at hl 2 rfl) ?_
    obtain ⟨hin, hf⟩ := pw_gd hf
    refine pw_ild hC hw (ca_F2 hbn1) hin dX1_appendAll_22 ?_
    refine lv_aload_n hx hb dX1_appendAll_23 rfl (lv_at hl 1 rfl) ?_
    refine pg_F_2 hbn1 hC hw mw_202 dX1_appendAll_24 ?_
    refine lv_iload_n hx hb dX1_appendAll_27 rfl (lv_at hl 2 rfl) ?_
    obtain ⟨hin, hf⟩ := pw_gd hf
    refine pw_ild hC hw (ca_F3 hbn1) hin dX1_appendAll_28 ?_
    obtain ⟨σ1, h1, hf⟩ := pw_bv_some hf
    refine pw_cv hw (pw_runV (As := [.int (σ.1 (4 * n1 + 55) x2.toNatClampNeg), .int (σ.1 (4 * n1 + 56) x2.toNatClampNeg), .int (σ.1 (4 * n1 + 57) x2.toNatClampNeg)]) (rest := []) hC hw (c_X1_append hbn0 h1) mw_583 wm_X1_append ⟨Nat.zero_le _, Nat.zero_le _⟩ ⟨rfl, rfl, Nat.le_of_ble_eq_true rfl, Nat.le_of_ble_eq_true rfl⟩ (by omega) pw_cellF rfl rfl hl.1 rfl (Nat.le_of_ble_eq_true rfl) dX1_appendAll_29) (fun H locs hw => ?_)
    refine lv_iinc (v := (x2 + (1 : Int32))) (lv' := [(2, .int (x2 + (1 : Int32))), (0, .ref (pw_ad G (4 * n0 + 54))), (1, .ref (pw_ad G (4 * n1 + 54)))]) hx hb dX1_appendAll_32 hl (k := 2) rfl rfl (by decide) rfl (fun ls hl => ?_)
    refine lv_goto (tgt := 2) hx hb dX1_appendAll_35 (by decide) ?_
    exact hk2 _ _ _ _ _ _ _ hbn0 hbn1 hw (lv_sub hl [1, 2, 0] rfl) hf
set_option maxHeartbeats 4000000 in
theorem tl_X1_appendAll_2 (hC : pw_CX G RX1 cX1_appendAll 3 none p s m args meth c) {τ : pw_St} : ∀ (n : Nat) (n0 : Nat) (n1 : Nat) (x2 : Int32) (σ : pw_St) (H : Heap) (locs : List Loc) (ls : Array Slot), n0 < 14 → n1 < 14 → pw_WH G σ s.heap H locs → lv_has ls 3 [(0, .ref (pw_ad G (4 * n0 + 54))), (1, .ref (pw_ad G (4 * n1 + 54))), (2, .int x2)] → l_X1_appendAll_2  n n0 n1 x2 σ = some τ → W p l e rm_X1_appendAll s m args below meth c H locs 0 0 (MQ below (pw_Qv G τ) args s 0 0 (pw_gA G)) (F0 m 2 ls []) := by
  intro n
  induction n with
  | zero => intro n0 n1 x2 σ H locs ls hbn0 hbn1 hw hl hf; cases hf
  | succ n ih => intro n0 n1 x2 σ H locs ls hbn0 hbn1 hw hl hf; exact t_X1_appendAll_2 hC ih hbn0 hbn1 hw hl hf
set_option maxHeartbeats 4000000 in
set_option maxRecDepth 100000 in
theorem c_X1_appendAll {l : Launch} {G : pw_Gh} {n0 : Nat} {n1 : Nat} (hbn0 : n0 < 14) (hbn1 : n1 < 14) {σ : pw_St} {τ : pw_St} (hf : f_X1_appendAll n0 n1 σ = some τ) : Met l yX1_appendAll (.code yX1_appendAll cX1_appendAll 3 none :: pw_BW) rm_X1_appendAll (pw_Pc G [.ref (pw_ad G (4 * n0 + 54)), .ref (pw_ad G (4 * n1 + 54))] σ) (pw_Qv G τ) 0 0 (pw_gA G) := by
  refine pw_met (by decide +kernel) (Nat.le_of_ble_eq_true rfl) ?_
  intro p e s m args below meth c ls hC hw hl
  replace hl : lv_has ls 3 [(0, .ref (pw_ad G (4 * n0 + 54))), (1, .ref (pw_ad G (4 * n1 + 54)))] := hl
  have hx := hC.1
  have hb := hC.2.1
  unfold f_X1_appendAll at hf
  refine lv_iconst (v := 0) hx hb dX1_appendAll_0 (by decide) ?_
  refine lv_istore_n (lv' := [(2, .int (0 : Int32)), (0, .ref (pw_ad G (4 * n0 + 54))), (1, .ref (pw_ad G (4 * n1 + 54)))]) hx hb dX1_appendAll_1 rfl hl (by decide) rfl (fun ls hl => ?_)
  exact tl_X1_appendAll_2 hC  pw_FU _ _ _ _ _ _ _ hbn0 hbn1 hw (lv_sub hl [1, 2, 0] rfl) hf
-- PerhapsWas$Conditions keep
def f_X0_keep (n1 : Nat) (σ : pw_St) : Option (Int32 × pw_St) := (if pw_in (σ.1 5 1) 8 = true then (pw_lt (pw_sM σ (4 * ((σ.1 5 1).toNatClampNeg + 6) + 54) 3 (0 : Int32)) fun σ2 => (if pw_in (σ2.1 5 1) 8 = true then (pw_bv (f_X1_appendAll ((σ2.1 5 1).toNatClampNeg + 6) n1 σ2) fun σ4 => (pw_lt (pw_sM σ4 5 1 ((σ4.1 5 1) + (1 : Int32))) fun σ5 => (some (((σ5.1 5 1) - (1 : Int32)), σ5)))) else none)) else none)
def rm_X0_keep : Room := { frames := 2, cells := 0, slots := 0, locals := 45 }
set_option maxHeartbeats 4000000 in
set_option maxRecDepth 100000 in
theorem c_X0_keep {l : Launch} {G : pw_Gh} {n1 : Nat} (hbn1 : n1 < 14) {σ : pw_St} {r : Int32} {τ : pw_St} (hf : f_X0_keep n1 σ = some (r, τ)) : Met l yX0_keep (.code yX0_keep cX0_keep 2 (some .int) :: pw_BW) rm_X0_keep (pw_Pc G [.ref (pw_ad G 5), .ref (pw_ad G (4 * n1 + 54))] σ) (pw_Qi G r τ) 0 0 (pw_gA G) := by
  refine pw_met (by decide +kernel) (Nat.le_of_ble_eq_true rfl) ?_
  intro p e s m args below meth c ls hC hw hl
  replace hl : lv_has ls 2 [(0, .ref (pw_ad G 5)), (1, .ref (pw_ad G (4 * n1 + 54)))] := hl
  have hx := hC.1
  have hb := hC.2.1
  unfold f_X0_keep at hf
  refine lv_aload_n hx hb dX0_keep_0 rfl (lv_at hl 0 rfl) ?_
  refine pg_5_0 hC hw mw_234 dX0_keep_1 ?_
  refine lv_aload_n hx hb dX0_keep_4 rfl (lv_at hl 0 rfl) ?_
  refine pg_5_1 hC hw mw_236 dX0_keep_5 ?_
  obtain ⟨hin, hf⟩ := pw_gd hf
  have hn1 : ((σ.1 5 1).toNatClampNeg + 6) < 14 := pw_fb hin (by decide)
  refine pw_fld hC hw ca_27 hin dX0_keep_8 ?_
  refine lv_iconst (v := 0) hx hb dX0_keep_9 (by decide) ?_
  refine pp_F_3 hn1 hC hw mw_207 dX0_keep_10 (fun H locs hw => ?_)
  obtain ⟨σ2, e2, hf⟩ := pw_lts hf
  replace hw := pw_WHe e2 hw
  refine lv_aload_n hx hb dX0_keep_13 rfl (lv_at hl 0 rfl) ?_
  refine pg_5_0 hC hw mw_234 dX0_keep_14 ?_
  refine lv_aload_n hx hb dX0_keep_17 rfl (lv_at hl 0 rfl) ?_
  refine pg_5_1 hC hw mw_236 dX0_keep_18 ?_
  obtain ⟨hin, hf⟩ := pw_gd hf
  have hn3 : ((σ2.1 5 1).toNatClampNeg + 6) < 14 := pw_fb hin (by decide)
  refine pw_fld hC hw ca_27 hin dX0_keep_21 ?_
  refine lv_aload_n hx hb dX0_keep_22 rfl (lv_at hl 1 rfl) ?_
  obtain ⟨σ4, h4, hf⟩ := pw_bv_some hf
  refine pw_cv hw (pw_runV (As := [.ref (pw_ad G (4 * n1 + 54))]) (rest := []) hC hw (c_X1_appendAll hn3 hbn1 h4) mw_592 wm_X1_appendAll ⟨Nat.zero_le _, Nat.zero_le _⟩ ⟨rfl, rfl, Nat.le_of_ble_eq_true rfl, Nat.le_of_ble_eq_true rfl⟩ (by omega) pw_cellF rfl rfl hl.1 rfl (Nat.le_of_ble_eq_true rfl) dX0_keep_23) (fun H locs hw => ?_)
  refine lv_aload_n hx hb dX0_keep_26 rfl (lv_at hl 0 rfl) ?_
  refine lv_dup hx hb dX0_keep_27 rfl ?_
  refine pg_5_1 hC hw mw_236 dX0_keep_28 ?_
  refine lv_iconst (v := 1) hx hb dX0_keep_31 (by decide) ?_
  refine lv_iadd hx hb dX0_keep_32 ?_
  refine pp_5_1 hC hw mw_236 dX0_keep_33 (fun H locs hw => ?_)
  obtain ⟨σ5, e5, hf⟩ := pw_lts hf
  replace hw := pw_WHe e5 hw
  refine lv_aload_n hx hb dX0_keep_36 rfl (lv_at hl 0 rfl) ?_
  refine pg_5_1 hC hw mw_236 dX0_keep_37 ?_
  refine lv_iconst (v := 1) hx hb dX0_keep_40 (by decide) ?_
  refine lv_isub hx hb dX0_keep_41 ?_
  exact pw_iret hC hw hf dX0_keep_42
-- PerhapsWas$Formula sidesOf
def f_X1_sidesOf (x0 : Int32) (σ : pw_St) : Option (Int32 × pw_St) := (if (7 : Int32) ≤ x0 then (if x0 = (7 : Int32) then (some ((1 : Int32), σ)) else (some ((0 : Int32), σ))) else (some ((2 : Int32), σ)))
def rm_X1_sidesOf : Room := { frames := 0, cells := 0, slots := 0, locals := 0 }
set_option maxHeartbeats 4000000 in
set_option maxRecDepth 100000 in
theorem c_X1_sidesOf {l : Launch} {G : pw_Gh} {x0 : Int32} {σ : pw_St} {r : Int32} {τ : pw_St} (hf : f_X1_sidesOf x0 σ = some (r, τ)) : Met l yX1_sidesOf (.code yX1_sidesOf cX1_sidesOf 1 (some .int) :: pw_BW) rm_X1_sidesOf (pw_Pc G [.int x0] σ) (pw_Qi G r τ) 0 0 (pw_gA G) := by
  refine pw_met (by decide +kernel) (Nat.le_of_ble_eq_true rfl) ?_
  intro p e s m args below meth c ls hC hw hl
  replace hl : lv_has ls 1 [(0, .int x0)] := hl
  have hx := hC.1
  have hb := hC.2.1
  unfold f_X1_sidesOf at hf
  refine lv_iload_n hx hb dX1_sidesOf_0 rfl (lv_at hl 0 rfl) ?_
  refine lv_bipush (v := 7) hx hb dX1_sidesOf_1 (by decide) ?_
  refine lv_icmp_ge (tgt := 10) hx hb dX1_sidesOf_3 (by decide) (fun hc => ?_) (fun hc => ?_)
  · replace hf := pw_ifp hc hf
    refine lv_iload_n hx hb dX1_sidesOf_10 rfl (lv_at hl 0 rfl) ?_
    refine lv_bipush (v := 7) hx hb dX1_sidesOf_11 (by decide) ?_
    refine lv_icmp_ne (tgt := 20) hx hb dX1_sidesOf_13 (by decide) (fun hc => ?_) (fun hc => ?_)
    · replace hf := pw_ifn hc hf
      refine lv_iconst (v := 0) hx hb dX1_sidesOf_20 (by decide) ?_
      exact pw_iret hC hw hf dX1_sidesOf_21
    · replace hf := pw_ifp hc hf
      refine lv_iconst (v := 1) hx hb dX1_sidesOf_16 (by decide) ?_
      refine lv_goto (tgt := 21) hx hb dX1_sidesOf_17 (by decide) ?_
      exact pw_iret hC hw hf dX1_sidesOf_21
  · replace hf := pw_ifn hc hf
    refine lv_iconst (v := 2) hx hb dX1_sidesOf_6 (by decide) ?_
    refine lv_goto (tgt := 21) hx hb dX1_sidesOf_7 (by decide) ?_
    exact pw_iret hC hw hf dX1_sidesOf_21
-- PerhapsWas$History place
def f_X2_place (x0 : Int32) (x1 : Int32) (σ : pw_St) : Option (Int32 × pw_St) := (some (((x0 * (6 : Int32)) + x1), σ))
def rm_X2_place : Room := { frames := 0, cells := 0, slots := 0, locals := 0 }
set_option maxHeartbeats 4000000 in
set_option maxRecDepth 100000 in
theorem c_X2_place {l : Launch} {G : pw_Gh} {x0 : Int32} {x1 : Int32} {σ : pw_St} {r : Int32} {τ : pw_St} (hf : f_X2_place x0 x1 σ = some (r, τ)) : Met l yX2_place (.code yX2_place cX2_place 2 (some .int) :: pw_BW) rm_X2_place (pw_Pc G [.int x0, .int x1] σ) (pw_Qi G r τ) 0 0 (pw_gA G) := by
  refine pw_met (by decide +kernel) (Nat.le_of_ble_eq_true rfl) ?_
  intro p e s m args below meth c ls hC hw hl
  replace hl : lv_has ls 2 [(0, .int x0), (1, .int x1)] := hl
  have hx := hC.1
  have hb := hC.2.1
  unfold f_X2_place at hf
  refine lv_iload_n hx hb dX2_place_0 rfl (lv_at hl 0 rfl) ?_
  refine lv_bipush (v := 6) hx hb dX2_place_1 (by decide) ?_
  refine lv_imul hx hb dX2_place_3 ?_
  refine lv_iload_n hx hb dX2_place_4 rfl (lv_at hl 1 rfl) ?_
  refine lv_iadd hx hb dX2_place_5 ?_
  exact pw_iret hC hw hf dX2_place_6
-- PerhapsWas$History valuePlace
def f_X2_valuePlace (x0 : Int32) (x1 : Int32) (x2 : Int32) (σ : pw_St) : Option (Int32 × pw_St) := (some (((((x0 * (7 : Int32)) + x1) * (3 : Int32)) + x2), σ))
def rm_X2_valuePlace : Room := { frames := 0, cells := 0, slots := 0, locals := 0 }
set_option maxHeartbeats 4000000 in
set_option maxRecDepth 100000 in
theorem c_X2_valuePlace {l : Launch} {G : pw_Gh} {x0 : Int32} {x1 : Int32} {x2 : Int32} {σ : pw_St} {r : Int32} {τ : pw_St} (hf : f_X2_valuePlace x0 x1 x2 σ = some (r, τ)) : Met l yX2_valuePlace (.code yX2_valuePlace cX2_valuePlace 3 (some .int) :: pw_BW) rm_X2_valuePlace (pw_Pc G [.int x0, .int x1, .int x2] σ) (pw_Qi G r τ) 0 0 (pw_gA G) := by
  refine pw_met (by decide +kernel) (Nat.le_of_ble_eq_true rfl) ?_
  intro p e s m args below meth c ls hC hw hl
  replace hl : lv_has ls 3 [(0, .int x0), (1, .int x1), (2, .int x2)] := hl
  have hx := hC.1
  have hb := hC.2.1
  unfold f_X2_valuePlace at hf
  refine lv_iload_n hx hb dX2_valuePlace_0 rfl (lv_at hl 0 rfl) ?_
  refine lv_bipush (v := 7) hx hb dX2_valuePlace_1 (by decide) ?_
  refine lv_imul hx hb dX2_valuePlace_3 ?_
  refine lv_iload_n hx hb dX2_valuePlace_4 rfl (lv_at hl 1 rfl) ?_
  refine lv_iadd hx hb dX2_valuePlace_5 ?_
  refine lv_iconst (v := 3) hx hb dX2_valuePlace_6 (by decide) ?_
  refine lv_imul hx hb dX2_valuePlace_7 ?_
  refine lv_iload_n hx hb dX2_valuePlace_8 rfl (lv_at hl 2 rfl) ?_
  refine lv_iadd hx hb dX2_valuePlace_9 ?_
  exact pw_iret hC hw hf dX2_valuePlace_10
-- PerhapsWas$History hasProcess
def f_X2_hasProcess (x1 : Int32) (σ : pw_St) : Option (Int32 × pw_St) := (if x1 < 0 then (if pw_isb (0 : Int32) = true then some ((0 : Int32), σ) else none) else (if (σ.1 1 8) ≤ x1 then (if pw_isb (0 : Int32) = true then some ((0 : Int32), σ) else none) else (if pw_isb (1 : Int32) = true then some ((1 : Int32), σ) else none)))
def rm_X2_hasProcess : Room := { frames := 0, cells := 0, slots := 0, locals := 0 }
set_option maxHeartbeats 4000000 in
set_option maxRecDepth 100000 in
theorem c_X2_hasProcess {l : Launch} {G : pw_Gh} {x1 : Int32} {σ : pw_St} {r : Int32} {τ : pw_St} (hf : f_X2_hasProcess x1 σ = some (r, τ)) : Met l yX2_hasProcess (.code yX2_hasProcess cX2_hasProcess 2 (some .boolean) :: pw_BW) rm_X2_hasProcess (pw_Pc G [.ref (pw_ad G 1), .int x1] σ) (pw_Qi G r τ) 0 0 (pw_gA G) := by
  refine pw_met (by decide +kernel) (Nat.le_of_ble_eq_true rfl) ?_
  intro p e s m args below meth c ls hC hw hl
  replace hl : lv_has ls 2 [(0, .ref (pw_ad G 1)), (1, .int x1)] := hl
  have hx := hC.1
  have hb := hC.2.1
  unfold f_X2_hasProcess at hf
  refine lv_iload_n hx hb dX2_hasProcess_0 rfl (lv_at hl 1 rfl) ?_
  refine lv_if_lt (tgt := 16) hx hb dX2_hasProcess_1 (by decide) (fun hc => ?_) (fun hc => ?_)
  · replace hf := pw_ifp hc hf
    refine lv_iconst (v := 0) hx hb dX2_hasProcess_16 (by decide) ?_
    exact pw_zret hC hw hf dX2_hasProcess_17
  · replace hf := pw_ifn hc hf
    refine lv_iload_n hx hb dX2_hasProcess_4 rfl (lv_at hl 1 rfl) ?_
    refine lv_aload_n hx hb dX2_hasProcess_5 rfl (lv_at hl 0 rfl) ?_
    refine pg_1_8 hC hw mw_117 dX2_hasProcess_6 ?_
    refine lv_icmp_ge (tgt := 16) hx hb dX2_hasProcess_9 (by decide) (fun hc => ?_) (fun hc => ?_)
    · replace hf := pw_ifp hc hf
      refine lv_iconst (v := 0) hx hb dX2_hasProcess_16 (by decide) ?_
      exact pw_zret hC hw hf dX2_hasProcess_17
    · replace hf := pw_ifn hc hf
      refine lv_iconst (v := 1) hx hb dX2_hasProcess_12 (by decide) ?_
      refine lv_goto (tgt := 17) hx hb dX2_hasProcess_13 (by decide) ?_
      exact pw_zret hC hw hf dX2_hasProcess_17
-- PerhapsWas$History hasEvent
def f_X2_hasEvent (x1 : Int32) (x2 : Int32) (σ : pw_St) : Option (Int32 × pw_St) := (pw_bi (f_X2_hasProcess x1 σ) fun r1 σ1 => (if r1 = 0 then (if pw_isb (0 : Int32) = true then some ((0 : Int32), σ1) else none) else (if x2 < 0 then (if pw_isb (0 : Int32) = true then some ((0 : Int32), σ1) else none) else (if pw_in x1 4 = true then (if (σ1.1 11 x1.toNatClampNeg) ≤ x2 then (if pw_isb (0 : Int32) = true then some ((0 : Int32), σ1) else none) else (if pw_isb (1 : Int32) = true then some ((1 : Int32), σ1) else none)) else none))))
def rm_X2_hasEvent : Room := { frames := 1, cells := 0, slots := 0, locals := 21 }
set_option maxHeartbeats 4000000 in
set_option maxRecDepth 100000 in
theorem c_X2_hasEvent {l : Launch} {G : pw_Gh} {x1 : Int32} {x2 : Int32} {σ : pw_St} {r : Int32} {τ : pw_St} (hf : f_X2_hasEvent x1 x2 σ = some (r, τ)) : Met l yX2_hasEvent (.code yX2_hasEvent cX2_hasEvent 3 (some .boolean) :: pw_BW) rm_X2_hasEvent (pw_Pc G [.ref (pw_ad G 1), .int x1, .int x2] σ) (pw_Qi G r τ) 0 0 (pw_gA G) := by
  refine pw_met (by decide +kernel) (Nat.le_of_ble_eq_true rfl) ?_
  intro p e s m args below meth c ls hC hw hl
  replace hl : lv_has ls 3 [(0, .ref (pw_ad G 1)), (1, .int x1), (2, .int x2)] := hl
  have hx := hC.1
  have hb := hC.2.1
  unfold f_X2_hasEvent at hf
  refine lv_aload_n hx hb dX2_hasEvent_0 rfl (lv_at hl 0 rfl) ?_
  refine lv_iload_n hx hb dX2_hasEvent_1 rfl (lv_at hl 1 rfl) ?_
  obtain ⟨r1, σ1, h1, hf⟩ := pw_bi_some hf
  refine pw_ci hw (pw_runV (As := [.int x1]) (rest := []) hC hw (c_X2_hasProcess  h1) mw_422 wm_X2_hasProcess ⟨Nat.zero_le _, Nat.zero_le _⟩ ⟨rfl, rfl, Nat.le_of_ble_eq_true rfl, Nat.le_of_ble_eq_true rfl⟩ (by decide) rfl rfl rfl hl.1 rfl (Nat.le_of_ble_eq_true rfl) dX2_hasEvent_2) (fun H locs hw => ?_)
  refine lv_if_eq (tgt := 26) hx hb dX2_hasEvent_5 (by decide) (fun hc => ?_) (fun hc => ?_)
  · replace hf := pw_ifp hc hf
    refine lv_iconst (v := 0) hx hb dX2_hasEvent_26 (by decide) ?_
    exact pw_zret hC hw hf dX2_hasEvent_27
  · replace hf := pw_ifn hc hf
    refine lv_iload_n hx hb dX2_hasEvent_8 rfl (lv_at hl 2 rfl) ?_
    refine lv_if_lt (tgt := 26) hx hb dX2_hasEvent_9 (by decide) (fun hc => ?_) (fun hc => ?_)
    · replace hf := pw_ifp hc hf
      refine lv_iconst (v := 0) hx hb dX2_hasEvent_26 (by decide) ?_
      exact pw_zret hC hw hf dX2_hasEvent_27
    · replace hf := pw_ifn hc hf
      refine lv_iload_n hx hb dX2_hasEvent_12 rfl (lv_at hl 2 rfl) ?_
      refine lv_aload_n hx hb dX2_hasEvent_13 rfl (lv_at hl 0 rfl) ?_
      refine pg_1_1 hC hw mw_103 dX2_hasEvent_14 ?_
      refine lv_iload_n hx hb dX2_hasEvent_17 rfl (lv_at hl 1 rfl) ?_
      obtain ⟨hin, hf⟩ := pw_gd hf
      refine pw_ild hC hw ca_11 hin dX2_hasEvent_18 ?_
      refine lv_icmp_ge (tgt := 26) hx hb dX2_hasEvent_19 (by decide) (fun hc => ?_) (fun hc => ?_)
      · replace hf := pw_ifp hc hf
        refine lv_iconst (v := 0) hx hb dX2_hasEvent_26 (by decide) ?_
        exact pw_zret hC hw hf dX2_hasEvent_27
      · replace hf := pw_ifn hc hf
        refine lv_iconst (v := 1) hx hb dX2_hasEvent_22 (by decide) ?_
        refine lv_goto (tgt := 27) hx hb dX2_hasEvent_23 (by decide) ?_
        exact pw_zret hC hw hf dX2_hasEvent_27
-- PerhapsWas$History hasCut
def b_X2_hasCut_17 (k17 : Int32 → Int32 → pw_St → Option (Int32 × pw_St)) (x2 : Int32) (x3 : Int32) (σ : pw_St) : Option (Int32 × pw_St) := (if (4 : Int32) ≤ x3 then (if pw_isb (1 : Int32) = true then some ((1 : Int32), σ) else none) else (if pw_in x3 4 = true then (if (x2 - x2 / (7 : Int32) * (7 : Int32)) ≤ (σ.1 11 x3.toNatClampNeg) then (k17 (x2 / (7 : Int32)) (x3 + (1 : Int32)) σ) else (if pw_isb (0 : Int32) = true then some ((0 : Int32), σ) else none)) else none))
def l_X2_hasCut_17 : Nat → Int32 → Int32 → pw_St → Option (Int32 × pw_St)
  | 0 => fun _ _ _ => none
  | n + 1 => fun x2 x3 σ => b_X2_hasCut_17  (l_X2_hasCut_17  n) x2 x3 σ
def f_X2_hasCut (x1 : Int32) (σ : pw_St) : Option (Int32 × pw_St) := (if x1 < 0 then (if pw_isb (0 : Int32) = true then some ((0 : Int32), σ) else none) else (if x1 < (2401 : Int32) then (l_X2_hasCut_17  pw_FU x1 (0 : Int32) σ) else (if pw_isb (0 : Int32) = true then some ((0 : Int32), σ) else none)))
def rm_X2_hasCut : Room := { frames := 0, cells := 0, slots := 0, locals := 0 }
set_option maxHeartbeats 4000000 in
set_option maxRecDepth 100000 in
theorem t_X2_hasCut_17 (hC : pw_CX G RX2 cX2_hasCut 4 (some .boolean) p s m args meth c) {k17 : Int32 → Int32 → pw_St → Option (Int32 × pw_St)} {r : Int32} {τ : pw_St} (hk17 : ∀ (x2 : Int32), ∀ (x3 : Int32), ∀ (σ : pw_St) (H : Heap) (locs : List Loc) (ls : Array Slot), pw_WH G σ s.heap H locs → lv_has ls 4 [(0, .ref (pw_ad G 1)), (2, .int x2), (3, .int x3)] → k17 x2 x3 σ = some (r, τ) → W p l e rm_X2_hasCut s m args below meth c H locs 0 0 (MQ below (pw_Qi G r τ) args s 0 0 (pw_gA G)) (F0 m 17 ls [])) {x2 : Int32} {x3 : Int32} {σ : pw_St} {H : Heap} {locs : List Loc} {ls : Array Slot} (hw : pw_WH G σ s.heap H locs) (hl : lv_has ls 4 [(0, .ref (pw_ad G 1)), (2, .int x2), (3, .int x3)]) (hf : b_X2_hasCut_17 k17 x2 x3 σ = some (r, τ)) : W p l e rm_X2_hasCut s m args below meth c H locs 0 0 (MQ below (pw_Qi G r τ) args s 0 0 (pw_gA G)) (F0 m 17 ls []) := by
  have hx := hC.1
  have hb := hC.2.1
  unfold b_X2_hasCut_17 at hf
  refine lv_iload_n hx hb dX2_hasCut_17 rfl (lv_at hl 2 rfl) ?_
  refine lv_iconst (v := 4) hx hb dX2_hasCut_18 (by decide) ?_
  refine lv_icmp_ge (tgt := 48) hx hb dX2_hasCut_19 (by decide) (fun hc => ?_) (fun hc => ?_)
  · replace hf := pw_ifp hc hf
    refine lv_iconst (v := 1) hx hb dX2_hasCut_48 (by decide) ?_
    exact pw_zret hC hw hf dX2_hasCut_49
  · replace hf := pw_ifn hc hf
    refine lv_iload_n hx hb dX2_hasCut_22 rfl (lv_at hl 1 rfl) ?_
    refine lv_bipush (v := 7) hx hb dX2_hasCut_23 (by decide) ?_
    refine lv_irem hx hb dX2_hasCut_25 (by decide) ?_
    refine lv_aload_n hx hb dX2_hasCut_26 rfl (lv_at hl 0 rfl) ?_
    refine pg_1_1 hC hw mw_103 dX2_hasCut_27 ?_
    refine lv_iload_n hx hb dX2_hasCut_30 rfl (lv_at hl 2 rfl) ?_
    obtain ⟨hin, hf⟩ := pw_gd hf
    refine pw_ild hC hw ca_11 hin dX2_hasCut_31 ?_
    refine lv_icmp_le (tgt := 37) hx hb dX2_hasCut_32 (by decide) (fun hc => ?_) (fun hc => ?_)
    · replace hf := pw_ifp hc hf
      refine lv_iload_n hx hb dX2_hasCut_37 rfl (lv_at hl 1 rfl) ?_
      refine lv_bipush (v := 7) hx hb dX2_hasCut_38 (by decide) ?_
      refine lv_idiv hx hb dX2_hasCut_40 (by decide) ?_
      refine lv_istore_n (lv' := [(2, .int (x2 / (7 : Int32))), (0, .ref (pw_ad G 1)), (3, .int x3)]) hx hb dX2_hasCut_41 rfl hl (by decide) rfl (fun ls hl => ?_)
      refine lv_iinc (v := (x3 + (1 : Int32))) (lv' := [(3, .int (x3 + (1 : Int32))), (2, .int (x2 / (7 : Int32))), (0, .ref (pw_ad G 1))]) hx hb dX2_hasCut_42 hl (k := 2) rfl rfl (by decide) rfl (fun ls hl => ?_)
      refine lv_goto (tgt := 17) hx hb dX2_hasCut_45 (by decide) ?_
      exact hk17 _ _ _ _ _ _ hw (lv_sub hl [2, 1, 0] rfl) hf
    · replace hf := pw_ifn hc hf
      refine lv_iconst (v := 0) hx hb dX2_hasCut_35 (by decide) ?_
      exact pw_zret hC hw hf dX2_hasCut_36
set_option maxHeartbeats 4000000 in
theorem tl_X2_hasCut_17 (hC : pw_CX G RX2 cX2_hasCut 4 (some .boolean) p s m args meth c) {r : Int32} {τ : pw_St} : ∀ (n : Nat) (x2 : Int32) (x3 : Int32) (σ : pw_St) (H : Heap) (locs : List Loc) (ls : Array Slot), pw_WH G σ s.heap H locs → lv_has ls 4 [(0, .ref (pw_ad G 1)), (2, .int x2), (3, .int x3)] → l_X2_hasCut_17  n x2 x3 σ = some (r, τ) → W p l e rm_X2_hasCut s m args below meth c H locs 0 0 (MQ below (pw_Qi G r τ) args s 0 0 (pw_gA G)) (F0 m 17 ls []) := by
  intro n
  induction n with
  | zero => intro x2 x3 σ H locs ls hw hl hf; cases hf
  | succ n ih => intro x2 x3 σ H locs ls hw hl hf; exact t_X2_hasCut_17 hC ih  hw hl hf
set_option maxHeartbeats 4000000 in
set_option maxRecDepth 100000 in
theorem c_X2_hasCut {l : Launch} {G : pw_Gh} {x1 : Int32} {σ : pw_St} {r : Int32} {τ : pw_St} (hf : f_X2_hasCut x1 σ = some (r, τ)) : Met l yX2_hasCut (.code yX2_hasCut cX2_hasCut 4 (some .boolean) :: pw_BW) rm_X2_hasCut (pw_Pc G [.ref (pw_ad G 1), .int x1] σ) (pw_Qi G r τ) 0 0 (pw_gA G) := by
  refine pw_met (by decide +kernel) (Nat.le_of_ble_eq_true rfl) ?_
  intro p e s m args below meth c ls hC hw hl
  replace hl : lv_has ls 4 [(0, .ref (pw_ad G 1)), (1, .int x1)] := hl
  have hx := hC.1
  have hb := hC.2.1
  unfold f_X2_hasCut at hf
  refine lv_iload_n hx hb dX2_hasCut_0 rfl (lv_at hl 1 rfl) ?_
  refine lv_if_lt (tgt := 11) hx hb dX2_hasCut_1 (by decide) (fun hc => ?_) (fun hc => ?_)
  · replace hf := pw_ifp hc hf
    refine lv_iconst (v := 0) hx hb dX2_hasCut_11 (by decide) ?_
    exact pw_zret hC hw hf dX2_hasCut_12
  · replace hf := pw_ifn hc hf
    refine lv_iload_n hx hb dX2_hasCut_4 rfl (lv_at hl 1 rfl) ?_
    refine lv_sipush (v := 2401) hx hb dX2_hasCut_5 (by decide) ?_
    refine lv_icmp_lt (tgt := 13) hx hb dX2_hasCut_8 (by decide) (fun hc => ?_) (fun hc => ?_)
    · replace hf := pw_ifp hc hf
      refine lv_iload_n hx hb dX2_hasCut_13 rfl (lv_at hl 1 rfl) ?_
      refine lv_istore_n (lv' := [(2, .int x1), (0, .ref (pw_ad G 1)), (1, .int x1)]) hx hb dX2_hasCut_14 rfl hl (by decide) rfl (fun ls hl => ?_)
      refine lv_iconst (v := 0) hx hb dX2_hasCut_15 (by decide) ?_
      refine lv_istore_n (lv' := [(3, .int (0 : Int32)), (2, .int x1), (0, .ref (pw_ad G 1)), (1, .int x1)]) hx hb dX2_hasCut_16 rfl hl (by decide) rfl (fun ls hl => ?_)
      exact tl_X2_hasCut_17 hC  pw_FU _ _ _ _ _ _ hw (lv_sub hl [2, 1, 0] rfl) hf
    · replace hf := pw_ifn hc hf
      refine lv_iconst (v := 0) hx hb dX2_hasCut_11 (by decide) ?_
      exact pw_zret hC hw hf dX2_hasCut_12
-- PerhapsWas$History isFull
def f_X2_isFull (x1 : Int32) (σ : pw_St) : Option (Int32 × pw_St) := (if pw_in x1 4 = true then (if (σ.1 11 x1.toNatClampNeg) < (6 : Int32) then (if pw_isb (0 : Int32) = true then some ((0 : Int32), σ) else none) else (if pw_isb (1 : Int32) = true then some ((1 : Int32), σ) else none)) else none)
def rm_X2_isFull : Room := { frames := 0, cells := 0, slots := 0, locals := 0 }
set_option maxHeartbeats 4000000 in
set_option maxRecDepth 100000 in
theorem c_X2_isFull {l : Launch} {G : pw_Gh} {x1 : Int32} {σ : pw_St} {r : Int32} {τ : pw_St} (hf : f_X2_isFull x1 σ = some (r, τ)) : Met l yX2_isFull (.code yX2_isFull cX2_isFull 2 (some .boolean) :: pw_BW) rm_X2_isFull (pw_Pc G [.ref (pw_ad G 1), .int x1] σ) (pw_Qi G r τ) 0 0 (pw_gA G) := by
  refine pw_met (by decide +kernel) (Nat.le_of_ble_eq_true rfl) ?_
  intro p e s m args below meth c ls hC hw hl
  replace hl : lv_has ls 2 [(0, .ref (pw_ad G 1)), (1, .int x1)] := hl
  have hx := hC.1
  have hb := hC.2.1
  unfold f_X2_isFull at hf
  refine lv_aload_n hx hb dX2_isFull_0 rfl (lv_at hl 0 rfl) ?_
  refine pg_1_1 hC hw mw_103 dX2_isFull_1 ?_
  refine lv_iload_n hx hb dX2_isFull_4 rfl (lv_at hl 1 rfl) ?_
  obtain ⟨hin, hf⟩ := pw_gd hf
  refine pw_ild hC hw ca_11 hin dX2_isFull_5 ?_
  refine lv_bipush (v := 6) hx hb dX2_isFull_6 (by decide) ?_
  refine lv_icmp_lt (tgt := 15) hx hb dX2_isFull_8 (by decide) (fun hc => ?_) (fun hc => ?_)
  · replace hf := pw_ifp hc hf
    refine lv_iconst (v := 0) hx hb dX2_isFull_15 (by decide) ?_
    exact pw_zret hC hw hf dX2_isFull_16
  · replace hf := pw_ifn hc hf
    refine lv_iconst (v := 1) hx hb dX2_isFull_11 (by decide) ?_
    refine lv_goto (tgt := 16) hx hb dX2_isFull_12 (by decide) ?_
    exact pw_zret hC hw hf dX2_isFull_16
-- PerhapsWas$History clockOf
def f_X2_clockOf (x1 : Int32) (x2 : Int32) (x3 : Int32) (σ : pw_St) : Option (Int32 × pw_St) := (if pw_in ((((x1 * (6 : Int32)) + x2) * (4 : Int32)) + x3) 96 = true then (some ((σ.1 16 ((((x1 * (6 : Int32)) + x2) * (4 : Int32)) + x3).toNatClampNeg), σ)) else none)
def rm_X2_clockOf : Room := { frames := 0, cells := 0, slots := 0, locals := 0 }
set_option maxHeartbeats 4000000 in
set_option maxRecDepth 100000 in
theorem c_X2_clockOf {l : Launch} {G : pw_Gh} {x1 : Int32} {x2 : Int32} {x3 : Int32} {σ : pw_St} {r : Int32} {τ : pw_St} (hf : f_X2_clockOf x1 x2 x3 σ = some (r, τ)) : Met l yX2_clockOf (.code yX2_clockOf cX2_clockOf 4 (some .int) :: pw_BW) rm_X2_clockOf (pw_Pc G [.ref (pw_ad G 1), .int x1, .int x2, .int x3] σ) (pw_Qi G r τ) 0 0 (pw_gA G) := by
  refine pw_met (by decide +kernel) (Nat.le_of_ble_eq_true rfl) ?_
  intro p e s m args below meth c ls hC hw hl
  replace hl : lv_has ls 4 [(0, .ref (pw_ad G 1)), (1, .int x1), (2, .int x2), (3, .int x3)] := hl
  have hx := hC.1
  have hb := hC.2.1
  unfold f_X2_clockOf at hf
  refine lv_aload_n hx hb dX2_clockOf_0 rfl (lv_at hl 0 rfl) ?_
  refine pg_1_6 hC hw mw_113 dX2_clockOf_1 ?_
  refine lv_iload_n hx hb dX2_clockOf_4 rfl (lv_at hl 1 rfl) ?_
  refine lv_bipush (v := 6) hx hb dX2_clockOf_5 (by decide) ?_
  refine lv_imul hx hb dX2_clockOf_7 ?_
  refine lv_iload_n hx hb dX2_clockOf_8 rfl (lv_at hl 2 rfl) ?_
  refine lv_iadd hx hb dX2_clockOf_9 ?_
  refine lv_iconst (v := 4) hx hb dX2_clockOf_10 (by decide) ?_
  refine lv_imul hx hb dX2_clockOf_11 ?_
  refine lv_iload_n hx hb dX2_clockOf_12 rfl (lv_at hl 3 rfl) ?_
  refine lv_iadd hx hb dX2_clockOf_13 ?_
  obtain ⟨hin, hf⟩ := pw_gd hf
  refine pw_ild hC hw ca_16 hin dX2_clockOf_14 ?_
  exact pw_iret hC hw hf dX2_clockOf_15
-- PerhapsWas$History leastWith
def b_X2_leastWith_5 (k5 : Int32 → Int32 → Int32 → Int32 → pw_St → Option (Int32 × pw_St)) (x1 : Int32) (x2 : Int32) (x3 : Int32) (x4 : Int32) (σ : pw_St) : Option (Int32 × pw_St) := (if (4 : Int32) ≤ x4 then (some (x3, σ)) else (pw_bi (f_X2_clockOf x1 x2 x4 σ) fun r1 σ1 => (if pw_in x4 4 = true then (k5 x1 x2 (x3 + (r1 * (pw_wt x4.toNatClampNeg))) (x4 + (1 : Int32)) σ1) else none)))
def l_X2_leastWith_5 : Nat → Int32 → Int32 → Int32 → Int32 → pw_St → Option (Int32 × pw_St)
  | 0 => fun _ _ _ _ _ => none
  | n + 1 => fun x1 x2 x3 x4 σ => b_X2_leastWith_5  (l_X2_leastWith_5  n) x1 x2 x3 x4 σ
def f_X2_leastWith (x1 : Int32) (x2 : Int32) (σ : pw_St) : Option (Int32 × pw_St) := (l_X2_leastWith_5  pw_FU x1 x2 (0 : Int32) (0 : Int32) σ)
def rm_X2_leastWith : Room := { frames := 1, cells := 0, slots := 0, locals := 23 }
set_option maxHeartbeats 4000000 in
set_option maxRecDepth 100000 in
theorem t_X2_leastWith_5 (hC : pw_CX G RX2 cX2_leastWith 5 (some .int) p s m args meth c) {k5 : Int32 → Int32 → Int32 → Int32 → pw_St → Option (Int32 × pw_St)} {r : Int32} {τ : pw_St} (hk5 : ∀ (x1 : Int32), ∀ (x2 : Int32), ∀ (x3 : Int32), ∀ (x4 : Int32), ∀ (σ : pw_St) (H : Heap) (locs : List Loc) (ls : Array Slot), pw_WH G σ s.heap H locs → lv_has ls 5 [(0, .ref (pw_ad G 1)), (1, .int x1), (2, .int x2), (3, .int x3), (4, .int x4)] → k5 x1 x2 x3 x4 σ = some (r, τ) → W p l e rm_X2_leastWith s m args below meth c H locs 0 0 (MQ below (pw_Qi G r τ) args s 0 0 (pw_gA G)) (F0 m 5 ls [])) {x1 : Int32} {x2 : Int32} {x3 : Int32} {x4 : Int32} {σ : pw_St} {H : Heap} {locs : List Loc} {ls : Array Slot} (hw : pw_WH G σ s.heap H locs) (hl : lv_has ls 5 [(0, .ref (pw_ad G 1)), (1, .int x1), (2, .int x2), (3, .int x3), (4, .int x4)]) (hf : b_X2_leastWith_5 k5 x1 x2 x3 x4 σ = some (r, τ)) : W p l e rm_X2_leastWith s m args below meth c H locs 0 0 (MQ below (pw_Qi G r τ) args s 0 0 (pw_gA G)) (F0 m 5 ls []) := by
  have hx := hC.1
  have hb := hC.2.1
  unfold b_X2_leastWith_5 at hf
  refine lv_iload hx hb dX2_leastWith_5 (lv_at hl 4 rfl) ?_
  refine lv_iconst (v := 4) hx hb dX2_leastWith_7 (by decide) ?_
  refine lv_icmp_ge (tgt := 35) hx hb dX2_leastWith_8 (by decide) (fun hc => ?_) (fun hc => ?_)
  · replace hf := pw_ifp hc hf
    refine lv_iload_n hx hb dX2_leastWith_35 rfl (lv_at hl 3 rfl) ?_
    exact pw_iret hC hw hf dX2_leastWith_36
  · replace hf := pw_ifn hc hf
    refine lv_iload_n hx hb dX2_leastWith_11 rfl (lv_at hl 3 rfl) ?_
    refine lv_aload_n hx hb dX2_leastWith_12 rfl (lv_at hl 0 rfl) ?_
    refine lv_iload_n hx hb dX2_leastWith_13 rfl (lv_at hl 1 rfl) ?_
    refine lv_iload_n hx hb dX2_leastWith_14 rfl (lv_at hl 2 rfl) ?_
    refine lv_iload hx hb dX2_leastWith_15 (lv_at hl 4 rfl) ?_
    obtain ⟨r1, σ1, h1, hf⟩ := pw_bi_some hf
    refine pw_ci hw (pw_runV (As := [.int x1, .int x2, .int x4]) (rest := [.int x3]) hC hw (c_X2_clockOf  h1) mw_356 wm_X2_clockOf ⟨Nat.zero_le _, Nat.zero_le _⟩ ⟨rfl, rfl, Nat.le_of_ble_eq_true rfl, Nat.le_of_ble_eq_true rfl⟩ (by decide) rfl rfl rfl hl.1 rfl (Nat.le_of_ble_eq_true rfl) dX2_leastWith_17) (fun H locs hw => ?_)
    refine pw_wget hC hw hC.2.2.2.2.2.1.2.2.2.1 dX2_leastWith_20 ?_
    refine lv_iload hx hb dX2_leastWith_23 (lv_at hl 4 rfl) ?_
    obtain ⟨hin, hf⟩ := pw_gd hf
    refine pw_wld hC hw hin dX2_leastWith_25 ?_
    refine lv_imul hx hb dX2_leastWith_26 ?_
    refine lv_iadd hx hb dX2_leastWith_27 ?_
    refine lv_istore_n (lv' := [(3, .int (x3 + (r1 * (pw_wt x4.toNatClampNeg)))), (0, .ref (pw_ad G 1)), (1, .int x1), (2, .int x2), (4, .int x4)]) hx hb dX2_leastWith_28 rfl hl (by decide) rfl (fun ls hl => ?_)
    refine lv_iinc (v := (x4 + (1 : Int32))) (lv' := [(4, .int (x4 + (1 : Int32))), (3, .int (x3 + (r1 * (pw_wt x4.toNatClampNeg)))), (0, .ref (pw_ad G 1)), (1, .int x1), (2, .int x2)]) hx hb dX2_leastWith_29 hl (k := 4) rfl rfl (by decide) rfl (fun ls hl => ?_)
    refine lv_goto (tgt := 5) hx hb dX2_leastWith_32 (by decide) ?_
    exact hk5 _ _ _ _ _ _ _ _ hw (lv_sub hl [2, 3, 4, 1, 0] rfl) hf
set_option maxHeartbeats 4000000 in
theorem tl_X2_leastWith_5 (hC : pw_CX G RX2 cX2_leastWith 5 (some .int) p s m args meth c) {r : Int32} {τ : pw_St} : ∀ (n : Nat) (x1 : Int32) (x2 : Int32) (x3 : Int32) (x4 : Int32) (σ : pw_St) (H : Heap) (locs : List Loc) (ls : Array Slot), pw_WH G σ s.heap H locs → lv_has ls 5 [(0, .ref (pw_ad G 1)), (1, .int x1), (2, .int x2), (3, .int x3), (4, .int x4)] → l_X2_leastWith_5  n x1 x2 x3 x4 σ = some (r, τ) → W p l e rm_X2_leastWith s m args below meth c H locs 0 0 (MQ below (pw_Qi G r τ) args s 0 0 (pw_gA G)) (F0 m 5 ls []) := by
  intro n
  induction n with
  | zero => intro x1 x2 x3 x4 σ H locs ls hw hl hf; cases hf
  | succ n ih => intro x1 x2 x3 x4 σ H locs ls hw hl hf; exact t_X2_leastWith_5 hC ih  hw hl hf
set_option maxHeartbeats 4000000 in
set_option maxRecDepth 100000 in
theorem c_X2_leastWith {l : Launch} {G : pw_Gh} {x1 : Int32} {x2 : Int32} {σ : pw_St} {r : Int32} {τ : pw_St} (hf : f_X2_leastWith x1 x2 σ = some (r, τ)) : Met l yX2_leastWith (.code yX2_leastWith cX2_leastWith 5 (some .int) :: pw_BW) rm_X2_leastWith (pw_Pc G [.ref (pw_ad G 1), .int x1, .int x2] σ) (pw_Qi G r τ) 0 0 (pw_gA G) := by
  refine pw_met (by decide +kernel) (Nat.le_of_ble_eq_true rfl) ?_
  intro p e s m args below meth c ls hC hw hl
  replace hl : lv_has ls 5 [(0, .ref (pw_ad G 1)), (1, .int x1), (2, .int x2)] := hl
  have hx := hC.1
  have hb := hC.2.1
  unfold f_X2_leastWith at hf
  refine lv_iconst (v := 0) hx hb dX2_leastWith_0 (by decide) ?_
  refine lv_istore_n (lv' := [(3, .int (0 : Int32)), (0, .ref (pw_ad G 1)), (1, .int x1), (2, .int x2)]) hx hb dX2_leastWith_1 rfl hl (by decide) rfl (fun ls hl => ?_)
  refine lv_iconst (v := 0) hx hb dX2_leastWith_2 (by decide) ?_
  refine lv_istore (lv' := [(4, .int (0 : Int32)), (3, .int (0 : Int32)), (0, .ref (pw_ad G 1)), (1, .int x1), (2, .int x2)]) hx hb dX2_leastWith_3 hl (by decide) rfl (fun ls hl => ?_)
  exact tl_X2_leastWith_5 hC  pw_FU _ _ _ _ _ _ _ _ hw (lv_sub hl [2, 3, 4, 1, 0] rfl) hf
-- PerhapsWas$History append
def b_X2_append_158 (x1 : Int32) (x4 : Int32) (σ : pw_St) : Option (Int32 × pw_St) := (if pw_in x1 4 = true then (pw_lt (pw_sM σ 11 x1.toNatClampNeg (x4 + (1 : Int32))) fun σ1 => (pw_lt (pw_sM σ1 1 9 ((σ1.1 1 9) + (1 : Int32))) fun σ2 => (pw_lt (pw_sM σ2 1 10 ((σ2.1 1 10) + (1 : Int32))) fun σ3 => (some ((x4 + (1 : Int32)), σ3))))) else none)
def b_X2_append_118 (k118 : Int32 → Int32 → Int32 → pw_St → Option (Int32 × pw_St)) (x1 : Int32) (x4 : Int32) (x6 : Int32) (σ : pw_St) : Option (Int32 × pw_St) := (if (3 : Int32) ≤ x6 then (b_X2_append_158  x1 x4 σ) else (pw_bi (f_X2_valuePlace x1 (x4 + (1 : Int32)) x6 σ) fun r1 σ1 => (pw_bi (f_X2_valuePlace x1 x4 x6 σ1) fun r2 σ2 => (if pw_in r2 84 = true then (if pw_in r1 84 = true then (pw_lt (pw_sM σ2 17 r1.toNatClampNeg (σ2.1 17 r2.toNatClampNeg)) fun σ3 => (k118 x1 x4 (x6 + (1 : Int32)) σ3)) else none) else none))))
def l_X2_append_118 : Nat → Int32 → Int32 → Int32 → pw_St → Option (Int32 × pw_St)
  | 0 => fun _ _ _ _ => none
  | n + 1 => fun x1 x4 x6 σ => b_X2_append_118  (l_X2_append_118  n) x1 x4 x6 σ
def b_X2_append_100 (x1 : Int32) (x4 : Int32) (x5 : Int32) (σ : pw_St) : Option (Int32 × pw_St) := (if pw_in ((x5 * (4 : Int32)) + x1) 96 = true then (pw_lt (pw_sM σ 16 ((x5 * (4 : Int32)) + x1).toNatClampNeg (x4 + (1 : Int32))) fun σ1 => (l_X2_append_118  pw_FU x1 x4 (0 : Int32) σ1)) else none)
def b_X2_append_93 (k56 : Int32 → Int32 → Int32 → Int32 → pw_St → Option (Int32 × pw_St)) (x1 : Int32) (x4 : Int32) (x5 : Int32) (x6 : Int32) (y0 : Int32) (y1 : Int32) (σ : pw_St) : Option (Int32 × pw_St) := (if pw_in y1 96 = true then (pw_lt (pw_sM σ 16 y1.toNatClampNeg y0) fun σ1 => (k56 x1 x4 x5 (x6 + (1 : Int32)) σ1)) else none)
def b_X2_append_56 (k56 : Int32 → Int32 → Int32 → Int32 → pw_St → Option (Int32 × pw_St)) (x1 : Int32) (x4 : Int32) (x5 : Int32) (x6 : Int32) (σ : pw_St) : Option (Int32 × pw_St) := (if (4 : Int32) ≤ x6 then (b_X2_append_100  x1 x4 x5 σ) else (if x4 = 0 then (b_X2_append_93 k56 x1 x4 x5 x6 (0 : Int32) ((x5 * (4 : Int32)) + x6) σ) else (pw_bi (f_X2_clockOf x1 (x4 - (1 : Int32)) x6 σ) fun r1 σ1 => (b_X2_append_93 k56 x1 x4 x5 x6 r1 ((x5 * (4 : Int32)) + x6) σ1))))
def l_X2_append_56 : Nat → Int32 → Int32 → Int32 → Int32 → pw_St → Option (Int32 × pw_St)
  | 0 => fun _ _ _ _ _ => none
  | n + 1 => fun x1 x4 x5 x6 σ => b_X2_append_56  (l_X2_append_56  n) x1 x4 x5 x6 σ
def f_X2_append (x1 : Int32) (x2 : Int32) (x3 : Int32) (σ : pw_St) : Option (Int32 × pw_St) := (if pw_in x1 4 = true then (pw_bi (f_X2_place x1 (σ.1 11 x1.toNatClampNeg) σ) fun r1 σ1 => (if pw_in r1 24 = true then (pw_lt (pw_sM σ1 13 r1.toNatClampNeg x2) fun σ2 => (if pw_in r1 24 = true then (pw_lt (pw_sM σ2 14 r1.toNatClampNeg x3) fun σ3 => (if pw_in r1 24 = true then (pw_lt (pw_sM σ3 15 r1.toNatClampNeg (σ3.1 1 9)) fun σ4 => (if pw_in (σ4.1 1 9) 24 = true then (pw_lt (pw_sM σ4 12 (σ4.1 1 9).toNatClampNeg x1) fun σ5 => (l_X2_append_56  pw_FU x1 (σ.1 11 x1.toNatClampNeg) r1 (0 : Int32) σ5)) else none)) else none)) else none)) else none)) else none)
def rm_X2_append : Room := { frames := 1, cells := 0, slots := 0, locals := 23 }
set_option maxHeartbeats 4000000 in
set_option maxRecDepth 100000 in
theorem t_X2_append_158 (hC : pw_CX G RX2 cX2_append 7 (some .int) p s m args meth c) {r : Int32} {τ : pw_St} {x1 : Int32} {x4 : Int32} {σ : pw_St} {H : Heap} {locs : List Loc} {ls : Array Slot} (hw : pw_WH G σ s.heap H locs) (hl : lv_has ls 7 [(0, .ref (pw_ad G 1)), (1, .int x1), (4, .int x4)]) (hf : b_X2_append_158 x1 x4 σ = some (r, τ)) : W p l e rm_X2_append s m args below meth c H locs 0 0 (MQ below (pw_Qi G r τ) args s 0 0 (pw_gA G)) (F0 m 158 ls []) := by
  have hx := hC.1
  have hb := hC.2.1
  unfold b_X2_append_158 at hf
  refine lv_aload_n hx hb dX2_append_158 rfl (lv_at hl 0 rfl) ?_
  refine pg_1_1 hC hw mw_103 dX2_append_159 ?_
  refine lv_iload_n hx hb dX2_append_162 rfl (lv_at hl 1 rfl) ?_
  refine lv_iload hx hb dX2_append_163 (lv_at hl 2 rfl) ?_
  refine lv_iconst (v := 1) hx hb dX2_append_165 (by decide) ?_
  refine lv_iadd hx hb dX2_append_166 ?_
  obtain ⟨hin, hf⟩ := pw_gd hf
  refine pw_ist hC hw ca_11 hin dX2_append_167 (fun H locs hw => ?_)
  obtain ⟨σ1, e1, hf⟩ := pw_lts hf
  replace hw := pw_WHe e1 hw
  refine lv_aload_n hx hb dX2_append_168 rfl (lv_at hl 0 rfl) ?_
  refine lv_dup hx hb dX2_append_169 rfl ?_
  refine pg_1_9 hC hw mw_119 dX2_append_170 ?_
  refine lv_iconst (v := 1) hx hb dX2_append_173 (by decide) ?_
  refine lv_iadd hx hb dX2_append_174 ?_
  refine pp_1_9 hC hw mw_119 dX2_append_175 (fun H locs hw => ?_)
  obtain ⟨σ2, e2, hf⟩ := pw_lts hf
  replace hw := pw_WHe e2 hw
  refine lv_aload_n hx hb dX2_append_178 rfl (lv_at hl 0 rfl) ?_
  refine lv_dup hx hb dX2_append_179 rfl ?_
  refine pg_1_10 hC hw mw_121 dX2_append_180 ?_
  refine lv_iconst (v := 1) hx hb dX2_append_183 (by decide) ?_
  refine lv_iadd hx hb dX2_append_184 ?_
  refine pp_1_10 hC hw mw_121 dX2_append_185 (fun H locs hw => ?_)
  obtain ⟨σ3, e3, hf⟩ := pw_lts hf
  replace hw := pw_WHe e3 hw
  refine lv_iload hx hb dX2_append_188 (lv_at hl 2 rfl) ?_
  refine lv_iconst (v := 1) hx hb dX2_append_190 (by decide) ?_
  refine lv_iadd hx hb dX2_append_191 ?_
  exact pw_iret hC hw hf dX2_append_192
set_option maxHeartbeats 4000000 in
set_option maxRecDepth 100000 in
theorem t_X2_append_118 (hC : pw_CX G RX2 cX2_append 7 (some .int) p s m args meth c) {k118 : Int32 → Int32 → Int32 → pw_St → Option (Int32 × pw_St)} {r : Int32} {τ : pw_St} (hk118 : ∀ (x1 : Int32), ∀ (x4 : Int32), ∀ (x6 : Int32), ∀ (σ : pw_St) (H : Heap) (locs : List Loc) (ls : Array Slot), pw_WH G σ s.heap H locs → lv_has ls 7 [(0, .ref (pw_ad G 1)), (1, .int x1), (4, .int x4), (6, .int x6)] → k118 x1 x4 x6 σ = some (r, τ) → W p l e rm_X2_append s m args below meth c H locs 0 0 (MQ below (pw_Qi G r τ) args s 0 0 (pw_gA G)) (F0 m 118 ls [])) {x1 : Int32} {x4 : Int32} {x6 : Int32} {σ : pw_St} {H : Heap} {locs : List Loc} {ls : Array Slot} (hw : pw_WH G σ s.heap H locs) (hl : lv_has ls 7 [(0, .ref (pw_ad G 1)), (1, .int x1), (4, .int x4), (6, .int x6)]) (hf : b_X2_append_118 k118 x1 x4 x6 σ = some (r, τ)) : W p l e rm_X2_append s m args below meth c H locs 0 0 (MQ below (pw_Qi G r τ) args s 0 0 (pw_gA G)) (F0 m 118 ls []) := by
  have hx := hC.1
  have hb := hC.2.1
  unfold b_X2_append_118 at hf
  refine lv_iload hx hb dX2_append_118 (lv_at hl 3 rfl) ?_
  refine lv_iconst (v := 3) hx hb dX2_append_120 (by decide) ?_
  refine lv_icmp_ge (tgt := 158) hx hb dX2_append_121 (by decide) (fun hc => ?_) (fun hc => ?_)
  · replace hf := pw_ifp hc hf
    exact t_X2_append_158 hC   hw (lv_sub hl [0, 1, 2] rfl) hf
  · replace hf := pw_ifn hc hf
    refine lv_aload_n hx hb dX2_append_124 rfl (lv_at hl 0 rfl) ?_
    refine pg_1_7 hC hw mw_114 dX2_append_125 ?_
    refine lv_iload_n hx hb dX2_append_128 rfl (lv_at hl 1 rfl) ?_
    refine lv_iload hx hb dX2_append_129 (lv_at hl 2 rfl) ?_
    refine lv_iconst (v := 1) hx hb dX2_append_131 (by decide) ?_
    refine lv_iadd hx hb dX2_append_132 ?_
    refine lv_iload hx hb dX2_append_133 (lv_at hl 3 rfl) ?_
    obtain ⟨r1, σ1, h1, hf⟩ := pw_bi_some hf
    refine pw_ci hw (pw_runS (As := [.int x1, .int (x4 + (1 : Int32)), .int x6]) (rest := [.ref (pw_ad G 17)]) hC hw (c_X2_valuePlace  h1) mw_360 wm_X2_valuePlace ⟨Nat.zero_le _, Nat.zero_le _⟩ ⟨rfl, rfl, Nat.le_of_ble_eq_true rfl, Nat.le_of_ble_eq_true rfl⟩ rfl hl.1 rfl (Nat.le_of_ble_eq_true rfl) dX2_append_135) (fun H locs hw => ?_)
    refine lv_aload_n hx hb dX2_append_138 rfl (lv_at hl 0 rfl) ?_
    refine pg_1_7 hC hw mw_114 dX2_append_139 ?_
    refine lv_iload_n hx hb dX2_append_142 rfl (lv_at hl 1 rfl) ?_
    refine lv_iload hx hb dX2_append_143 (lv_at hl 2 rfl) ?_
    refine lv_iload hx hb dX2_append_145 (lv_at hl 3 rfl) ?_
    obtain ⟨r2, σ2, h2, hf⟩ := pw_bi_some hf
    refine pw_ci hw (pw_runS (As := [.int x1, .int x4, .int x6]) (rest := [.ref (pw_ad G 17), .int r1, .ref (pw_ad G 17)]) hC hw (c_X2_valuePlace  h2) mw_360 wm_X2_valuePlace ⟨Nat.zero_le _, Nat.zero_le _⟩ ⟨rfl, rfl, Nat.le_of_ble_eq_true rfl, Nat.le_of_ble_eq_true rfl⟩ rfl hl.1 rfl (Nat.le_of_ble_eq_true rfl) dX2_append_147) (fun H locs hw => ?_)
    obtain ⟨hin, hf⟩ := pw_gd hf
    refine pw_ild hC hw ca_17 hin dX2_append_150 ?_
    obtain ⟨hin, hf⟩ := pw_gd hf
    refine pw_ist hC hw ca_17 hin dX2_append_151 (fun H locs hw => ?_)
    obtain ⟨σ3, e3, hf⟩ := pw_lts hf
    replace hw := pw_WHe e3 hw
    refine lv_iinc (v := (x6 + (1 : Int32))) (lv' := [(6, .int (x6 + (1 : Int32))), (0, .ref (pw_ad G 1)), (1, .int x1), (4, .int x4)]) hx hb dX2_append_152 hl (k := 3) rfl rfl (by decide) rfl (fun ls hl => ?_)
    refine lv_goto (tgt := 118) hx hb dX2_append_155 (by decide) ?_
    exact hk118 _ _ _ _ _ _ _ hw (lv_sub hl [1, 2, 3, 0] rfl) hf
set_option maxHeartbeats 4000000 in
theorem tl_X2_append_118 (hC : pw_CX G RX2 cX2_append 7 (some .int) p s m args meth c) {r : Int32} {τ : pw_St} : ∀ (n : Nat) (x1 : Int32) (x4 : Int32) (x6 : Int32) (σ : pw_St) (H : Heap) (locs : List Loc) (ls : Array Slot), pw_WH G σ s.heap H locs → lv_has ls 7 [(0, .ref (pw_ad G 1)), (1, .int x1), (4, .int x4), (6, .int x6)] → l_X2_append_118  n x1 x4 x6 σ = some (r, τ) → W p l e rm_X2_append s m args below meth c H locs 0 0 (MQ below (pw_Qi G r τ) args s 0 0 (pw_gA G)) (F0 m 118 ls []) := by
  intro n
  induction n with
  | zero => intro x1 x4 x6 σ H locs ls hw hl hf; cases hf
  | succ n ih => intro x1 x4 x6 σ H locs ls hw hl hf; exact t_X2_append_118 hC ih  hw hl hf
set_option maxHeartbeats 4000000 in
set_option maxRecDepth 100000 in
theorem t_X2_append_100 (hC : pw_CX G RX2 cX2_append 7 (some .int) p s m args meth c) {r : Int32} {τ : pw_St} {x1 : Int32} {x4 : Int32} {x5 : Int32} {σ : pw_St} {H : Heap} {locs : List Loc} {ls : Array Slot} (hw : pw_WH G σ s.heap H locs) (hl : lv_has ls 7 [(0, .ref (pw_ad G 1)), (1, .int x1), (4, .int x4), (5, .int x5)]) (hf : b_X2_append_100 x1 x4 x5 σ = some (r, τ)) : W p l e rm_X2_append s m args below meth c H locs 0 0 (MQ below (pw_Qi G r τ) args s 0 0 (pw_gA G)) (F0 m 100 ls []) := by
  have hx := hC.1
  have hb := hC.2.1
  unfold b_X2_append_100 at hf
  refine lv_aload_n hx hb dX2_append_100 rfl (lv_at hl 0 rfl) ?_
  refine pg_1_6 hC hw mw_113 dX2_append_101 ?_
  refine lv_iload hx hb dX2_append_104 (lv_at hl 3 rfl) ?_
  refine lv_iconst (v := 4) hx hb dX2_append_106 (by decide) ?_
  refine lv_imul hx hb dX2_append_107 ?_
  refine lv_iload_n hx hb dX2_append_108 rfl (lv_at hl 1 rfl) ?_
  refine lv_iadd hx hb dX2_append_109 ?_
  refine lv_iload hx hb dX2_append_110 (lv_at hl 2 rfl) ?_
  refine lv_iconst (v := 1) hx hb dX2_append_112 (by decide) ?_
  refine lv_iadd hx hb dX2_append_113 ?_
  obtain ⟨hin, hf⟩ := pw_gd hf
  refine pw_ist hC hw ca_16 hin dX2_append_114 (fun H locs hw => ?_)
  obtain ⟨σ1, e1, hf⟩ := pw_lts hf
  replace hw := pw_WHe e1 hw
  refine lv_iconst (v := 0) hx hb dX2_append_115 (by decide) ?_
  refine lv_istore (lv' := [(6, .int (0 : Int32)), (0, .ref (pw_ad G 1)), (1, .int x1), (4, .int x4), (5, .int x5)]) hx hb dX2_append_116 hl (by decide) rfl (fun ls hl => ?_)
  exact tl_X2_append_118 hC  pw_FU _ _ _ _ _ _ _ hw (lv_sub hl [1, 2, 3, 0] rfl) hf
set_option maxHeartbeats 4000000 in
set_option maxRecDepth 100000 in
theorem t_X2_append_93 (hC : pw_CX G RX2 cX2_append 7 (some .int) p s m args meth c) {k56 : Int32 → Int32 → Int32 → Int32 → pw_St → Option (Int32 × pw_St)} {r : Int32} {τ : pw_St} (hk56 : ∀ (x1 : Int32), ∀ (x4 : Int32), ∀ (x5 : Int32), ∀ (x6 : Int32), ∀ (σ : pw_St) (H : Heap) (locs : List Loc) (ls : Array Slot), pw_WH G σ s.heap H locs → lv_has ls 7 [(0, .ref (pw_ad G 1)), (1, .int x1), (4, .int x4), (5, .int x5), (6, .int x6)] → k56 x1 x4 x5 x6 σ = some (r, τ) → W p l e rm_X2_append s m args below meth c H locs 0 0 (MQ below (pw_Qi G r τ) args s 0 0 (pw_gA G)) (F0 m 56 ls [])) {x1 : Int32} {x4 : Int32} {x5 : Int32} {x6 : Int32} {y0 : Int32} {y1 : Int32} {σ : pw_St} {H : Heap} {locs : List Loc} {ls : Array Slot} (hw : pw_WH G σ s.heap H locs) (hl : lv_has ls 7 [(0, .ref (pw_ad G 1)), (1, .int x1), (4, .int x4), (5, .int x5), (6, .int x6)]) (hf : b_X2_append_93 k56 x1 x4 x5 x6 y0 y1 σ = some (r, τ)) : W p l e rm_X2_append s m args below meth c H locs 0 0 (MQ below (pw_Qi G r τ) args s 0 0 (pw_gA G)) (F0 m 93 ls [.int y0, .int y1, .ref (pw_ad G 16)]) := by
  have hx := hC.1
  have hb := hC.2.1
  unfold b_X2_append_93 at hf
  obtain ⟨hin, hf⟩ := pw_gd hf
  refine pw_ist hC hw ca_16 hin dX2_append_93 (fun H locs hw => ?_)
  obtain ⟨σ1, e1, hf⟩ := pw_lts hf
  replace hw := pw_WHe e1 hw
  refine lv_iinc (v := (x6 + (1 : Int32))) (lv' := [(6, .int (x6 + (1 : Int32))), (0, .ref (pw_ad G 1)), (1, .int x1), (4, .int x4), (5, .int x5)]) hx hb dX2_append_94 hl (k := 4) rfl rfl (by decide) rfl (fun ls hl => ?_)
  refine lv_goto (tgt := 56) hx hb dX2_append_97 (by decide) ?_
  exact hk56 _ _ _ _ _ _ _ _ hw (lv_sub hl [1, 2, 3, 4, 0] rfl) hf
set_option maxHeartbeats 4000000 in
set_option maxRecDepth 100000 in
theorem t_X2_append_56 (hC : pw_CX G RX2 cX2_append 7 (some .int) p s m args meth c) {k56 : Int32 → Int32 → Int32 → Int32 → pw_St → Option (Int32 × pw_St)} {r : Int32} {τ : pw_St} (hk56 : ∀ (x1 : Int32), ∀ (x4 : Int32), ∀ (x5 : Int32), ∀ (x6 : Int32), ∀ (σ : pw_St) (H : Heap) (locs : List Loc) (ls : Array Slot), pw_WH G σ s.heap H locs → lv_has ls 7 [(0, .ref (pw_ad G 1)), (1, .int x1), (4, .int x4), (5, .int x5), (6, .int x6)] → k56 x1 x4 x5 x6 σ = some (r, τ) → W p l e rm_X2_append s m args below meth c H locs 0 0 (MQ below (pw_Qi G r τ) args s 0 0 (pw_gA G)) (F0 m 56 ls [])) {x1 : Int32} {x4 : Int32} {x5 : Int32} {x6 : Int32} {σ : pw_St} {H : Heap} {locs : List Loc} {ls : Array Slot} (hw : pw_WH G σ s.heap H locs) (hl : lv_has ls 7 [(0, .ref (pw_ad G 1)), (1, .int x1), (4, .int x4), (5, .int x5), (6, .int x6)]) (hf : b_X2_append_56 k56 x1 x4 x5 x6 σ = some (r, τ)) : W p l e rm_X2_append s m args below meth c H locs 0 0 (MQ below (pw_Qi G r τ) args s 0 0 (pw_gA G)) (F0 m 56 ls []) := by
  have hx := hC.1
  have hb := hC.2.1
  unfold b_X2_append_56 at hf
  refine lv_iload hx hb dX2_append_56 (lv_at hl 4 rfl) ?_
  refine lv_iconst (v := 4) hx hb dX2_append_58 (by decide) ?_
  refine lv_icmp_ge (tgt := 100) hx hb dX2_append_59 (by decide) (fun hc => ?_) (fun hc => ?_)
  · replace hf := pw_ifp hc hf
    exact t_X2_append_100 hC   hw (lv_sub hl [0, 1, 2, 3] rfl) hf
  · replace hf := pw_ifn hc hf
    refine lv_aload_n hx hb dX2_append_62 rfl (lv_at hl 0 rfl) ?_
    refine pg_1_6 hC hw mw_113 dX2_append_63 ?_
    refine lv_iload hx hb dX2_append_66 (lv_at hl 3 rfl) ?_
    refine lv_iconst (v := 4) hx hb dX2_append_68 (by decide) ?_
    refine lv_imul hx hb dX2_append_69 ?_
    refine lv_iload hx hb dX2_append_70 (lv_at hl 4 rfl) ?_
    refine lv_iadd hx hb dX2_append_72 ?_
    refine lv_iload hx hb dX2_append_73 (lv_at hl 2 rfl) ?_
    refine lv_if_ne (tgt := 82) hx hb dX2_append_75 (by decide) (fun hc => ?_) (fun hc => ?_)
    · replace hf := pw_ifn hc hf
      refine lv_aload_n hx hb dX2_append_82 rfl (lv_at hl 0 rfl) ?_
      refine lv_iload_n hx hb dX2_append_83 rfl (lv_at hl 1 rfl) ?_
      refine lv_iload hx hb dX2_append_84 (lv_at hl 2 rfl) ?_
      refine lv_iconst (v := 1) hx hb dX2_append_86 (by decide) ?_
      refine lv_isub hx hb dX2_append_87 ?_
      refine lv_iload hx hb dX2_append_88 (lv_at hl 4 rfl) ?_
      obtain ⟨r1, σ1, h1, hf⟩ := pw_bi_some hf
      refine pw_ci hw (pw_runV (As := [.int x1, .int (x4 - (1 : Int32)), .int x6]) (rest := [.int ((x5 * (4 : Int32)) + x6), .ref (pw_ad G 16)]) hC hw (c_X2_clockOf  h1) mw_356 wm_X2_clockOf ⟨Nat.zero_le _, Nat.zero_le _⟩ ⟨rfl, rfl, Nat.le_of_ble_eq_true rfl, Nat.le_of_ble_eq_true rfl⟩ (by decide) rfl rfl rfl hl.1 rfl (Nat.le_of_ble_eq_true rfl) dX2_append_90) (fun H locs hw => ?_)
      exact t_X2_append_93 hC hk56  hw (lv_sub hl [0, 1, 2, 3, 4] rfl) hf
    · replace hf := pw_ifp hc hf
      refine lv_iconst (v := 0) hx hb dX2_append_78 (by decide) ?_
      refine lv_goto (tgt := 93) hx hb dX2_append_79 (by decide) ?_
      exact t_X2_append_93 hC hk56  hw (lv_sub hl [0, 1, 2, 3, 4] rfl) hf
set_option maxHeartbeats 4000000 in
theorem tl_X2_append_56 (hC : pw_CX G RX2 cX2_append 7 (some .int) p s m args meth c) {r : Int32} {τ : pw_St} : ∀ (n : Nat) (x1 : Int32) (x4 : Int32) (x5 : Int32) (x6 : Int32) (σ : pw_St) (H : Heap) (locs : List Loc) (ls : Array Slot), pw_WH G σ s.heap H locs → lv_has ls 7 [(0, .ref (pw_ad G 1)), (1, .int x1), (4, .int x4), (5, .int x5), (6, .int x6)] → l_X2_append_56  n x1 x4 x5 x6 σ = some (r, τ) → W p l e rm_X2_append s m args below meth c H locs 0 0 (MQ below (pw_Qi G r τ) args s 0 0 (pw_gA G)) (F0 m 56 ls []) := by
  intro n
  induction n with
  | zero => intro x1 x4 x5 x6 σ H locs ls hw hl hf; cases hf
  | succ n ih => intro x1 x4 x5 x6 σ H locs ls hw hl hf; exact t_X2_append_56 hC ih  hw hl hf
set_option maxHeartbeats 4000000 in
set_option maxRecDepth 100000 in
theorem c_X2_append {l : Launch} {G : pw_Gh} {x1 : Int32} {x2 : Int32} {x3 : Int32} {σ : pw_St} {r : Int32} {τ : pw_St} (hf : f_X2_append x1 x2 x3 σ = some (r, τ)) : Met l yX2_append (.code yX2_append cX2_append 7 (some .int) :: pw_BW) rm_X2_append (pw_Pc G [.ref (pw_ad G 1), .int x1, .int x2, .int x3] σ) (pw_Qi G r τ) 0 0 (pw_gA G) := by
  refine pw_met (by decide +kernel) (Nat.le_of_ble_eq_true rfl) ?_
  intro p e s m args below meth c ls hC hw hl
  replace hl : lv_has ls 7 [(0, .ref (pw_ad G 1)), (1, .int x1), (2, .int x2), (3, .int x3)] := hl
  have hx := hC.1
  have hb := hC.2.1
  unfold f_X2_append at hf
  refine lv_aload_n hx hb dX2_append_0 rfl (lv_at hl 0 rfl) ?_
  refine pg_1_1 hC hw mw_103 dX2_append_1 ?_
  refine lv_iload_n hx hb dX2_append_4 rfl (lv_at hl 1 rfl) ?_
  obtain ⟨hin, hf⟩ := pw_gd hf
  refine pw_ild hC hw ca_11 hin dX2_append_5 ?_
  refine lv_istore (lv' := [(4, .int (σ.1 11 x1.toNatClampNeg)), (0, .ref (pw_ad G 1)), (1, .int x1), (2, .int x2), (3, .int x3)]) hx hb dX2_append_6 hl (by decide) rfl (fun ls hl => ?_)
  refine lv_iload_n hx hb dX2_append_8 rfl (lv_at hl 2 rfl) ?_
  refine lv_iload hx hb dX2_append_9 (lv_at hl 0 rfl) ?_
  obtain ⟨r1, σ1, h1, hf⟩ := pw_bi_some hf
  refine pw_ci hw (pw_runS (As := [.int x1, .int (σ.1 11 x1.toNatClampNeg)]) (rest := []) hC hw (c_X2_place  h1) mw_353 wm_X2_place ⟨Nat.zero_le _, Nat.zero_le _⟩ ⟨rfl, rfl, Nat.le_of_ble_eq_true rfl, Nat.le_of_ble_eq_true rfl⟩ rfl hl.1 rfl (Nat.le_of_ble_eq_true rfl) dX2_append_11) (fun H locs hw => ?_)
  refine lv_istore (lv' := [(5, .int r1), (4, .int (σ.1 11 x1.toNatClampNeg)), (0, .ref (pw_ad G 1)), (1, .int x1), (2, .int x2), (3, .int x3)]) hx hb dX2_append_14 hl (by decide) rfl (fun ls hl => ?_)
  refine lv_aload_n hx hb dX2_append_16 rfl (lv_at hl 2 rfl) ?_
  refine pg_1_3 hC hw mw_107 dX2_append_17 ?_
  refine lv_iload hx hb dX2_append_20 (lv_at hl 0 rfl) ?_
  refine lv_iload_n hx hb dX2_append_22 rfl (lv_at hl 4 rfl) ?_
  obtain ⟨hin, hf⟩ := pw_gd hf
  refine pw_ist hC hw ca_13 hin dX2_append_23 (fun H locs hw => ?_)
  obtain ⟨σ2, e2, hf⟩ := pw_lts hf
  replace hw := pw_WHe e2 hw
  refine lv_aload_n hx hb dX2_append_24 rfl (lv_at hl 2 rfl) ?_
  refine pg_1_4 hC hw mw_109 dX2_append_25 ?_
  refine lv_iload hx hb dX2_append_28 (lv_at hl 0 rfl) ?_
  refine lv_iload_n hx hb dX2_append_30 rfl (lv_at hl 5 rfl) ?_
  obtain ⟨hin, hf⟩ := pw_gd hf
  refine pw_ist hC hw ca_14 hin dX2_append_31 (fun H locs hw => ?_)
  obtain ⟨σ3, e3, hf⟩ := pw_lts hf
  replace hw := pw_WHe e3 hw
  refine lv_aload_n hx hb dX2_append_32 rfl (lv_at hl 2 rfl) ?_
  refine pg_1_5 hC hw mw_111 dX2_append_33 ?_
  refine lv_iload hx hb dX2_append_36 (lv_at hl 0 rfl) ?_
  refine lv_aload_n hx hb dX2_append_38 rfl (lv_at hl 2 rfl) ?_
  refine pg_1_9 hC hw mw_119 dX2_append_39 ?_
  obtain ⟨hin, hf⟩ := pw_gd hf
  refine pw_ist hC hw ca_15 hin dX2_append_42 (fun H locs hw => ?_)
  obtain ⟨σ4, e4, hf⟩ := pw_lts hf
  replace hw := pw_WHe e4 hw
  refine lv_aload_n hx hb dX2_append_43 rfl (lv_at hl 2 rfl) ?_
  refine pg_1_2 hC hw mw_106 dX2_append_44 ?_
  refine lv_aload_n hx hb dX2_append_47 rfl (lv_at hl 2 rfl) ?_
  refine pg_1_9 hC hw mw_119 dX2_append_48 ?_
  refine lv_iload_n hx hb dX2_append_51 rfl (lv_at hl 3 rfl) ?_
  obtain ⟨hin, hf⟩ := pw_gd hf
  refine pw_ist hC hw ca_12 hin dX2_append_52 (fun H locs hw => ?_)
  obtain ⟨σ5, e5, hf⟩ := pw_lts hf
  replace hw := pw_WHe e5 hw
  refine lv_iconst (v := 0) hx hb dX2_append_53 (by decide) ?_
  refine lv_istore (lv' := [(6, .int (0 : Int32)), (5, .int r1), (4, .int (σ.1 11 x1.toNatClampNeg)), (0, .ref (pw_ad G 1)), (1, .int x1), (2, .int x2), (3, .int x3)]) hx hb dX2_append_54 hl (by decide) rfl (fun ls hl => ?_)
  exact tl_X2_append_56 hC  pw_FU _ _ _ _ _ _ _ _ hw (lv_sub hl [3, 4, 2, 1, 0] rfl) hf
-- PerhapsWas$History change
def b_X2_change_51 (x5 : Int32) (y0 : Int32) (y1 : Int32) (σ : pw_St) : Option (Int32 × pw_St) := (if pw_in y1 84 = true then (pw_lt (pw_sM σ 17 y1.toNatClampNeg y0) fun σ1 => (some (x5, σ1))) else none)
def b_X2_change_12 (x1 : Int32) (x2 : Int32) (x3 : Int32) (x4 : Int32) (y0 : Int32) (y1 : Int32) (σ : pw_St) : Option (Int32 × pw_St) := (pw_bi (f_X2_append y1 y0 x2 σ) fun r1 σ1 => (pw_bi (f_X2_valuePlace x1 r1 x2 σ1) fun r2 σ2 => (if x4 = 0 then (b_X2_change_51  r1 x3 r2 σ2) else (if pw_in r2 84 = true then (b_X2_change_51  r1 ((σ2.1 17 r2.toNatClampNeg) + x3) r2 σ2) else none))))
def f_X2_change (x1 : Int32) (x2 : Int32) (x3 : Int32) (x4 : Int32) (σ : pw_St) : Option (Int32 × pw_St) := (if x4 = 0 then (b_X2_change_12  x1 x2 x3 x4 (0 : Int32) x1 σ) else (b_X2_change_12  x1 x2 x3 x4 (1 : Int32) x1 σ))
def rm_X2_change : Room := { frames := 2, cells := 0, slots := 0, locals := 49 }
set_option maxHeartbeats 4000000 in
set_option maxRecDepth 100000 in
theorem t_X2_change_51 (hC : pw_CX G RX2 cX2_change 7 (some .int) p s m args meth c) {r : Int32} {τ : pw_St} {x5 : Int32} {y0 : Int32} {y1 : Int32} {σ : pw_St} {H : Heap} {locs : List Loc} {ls : Array Slot} (hw : pw_WH G σ s.heap H locs) (hl : lv_has ls 7 [(5, .int x5)]) (hf : b_X2_change_51 x5 y0 y1 σ = some (r, τ)) : W p l e rm_X2_change s m args below meth c H locs 0 0 (MQ below (pw_Qi G r τ) args s 0 0 (pw_gA G)) (F0 m 51 ls [.int y0, .int y1, .ref (pw_ad G 17)]) := by
  have hx := hC.1
  have hb := hC.2.1
  unfold b_X2_change_51 at hf
  obtain ⟨hin, hf⟩ := pw_gd hf
  refine pw_ist hC hw ca_17 hin dX2_change_51 (fun H locs hw => ?_)
  obtain ⟨σ1, e1, hf⟩ := pw_lts hf
  replace hw := pw_WHe e1 hw
  refine lv_iload hx hb dX2_change_52 (lv_at hl 0 rfl) ?_
  exact pw_iret hC hw hf dX2_change_54
set_option maxHeartbeats 4000000 in
set_option maxRecDepth 100000 in
theorem t_X2_change_12 (hC : pw_CX G RX2 cX2_change 7 (some .int) p s m args meth c) {r : Int32} {τ : pw_St} {x1 : Int32} {x2 : Int32} {x3 : Int32} {x4 : Int32} {y0 : Int32} {y1 : Int32} {σ : pw_St} {H : Heap} {locs : List Loc} {ls : Array Slot} (hw : pw_WH G σ s.heap H locs) (hl : lv_has ls 7 [(0, .ref (pw_ad G 1)), (1, .int x1), (2, .int x2), (3, .int x3), (4, .int x4)]) (hf : b_X2_change_12 x1 x2 x3 x4 y0 y1 σ = some (r, τ)) : W p l e rm_X2_change s m args below meth c H locs 0 0 (MQ below (pw_Qi G r τ) args s 0 0 (pw_gA G)) (F0 m 12 ls [.int y0, .int y1, .ref (pw_ad G 1)]) := by
  have hx := hC.1
  have hb := hC.2.1
  unfold b_X2_change_12 at hf
  refine lv_iload_n hx hb dX2_change_12 rfl (lv_at hl 2 rfl) ?_
  obtain ⟨r1, σ1, h1, hf⟩ := pw_bi_some hf
  refine pw_ci hw (pw_runV (As := [.int y1, .int y0, .int x2]) (rest := []) hC hw (c_X2_append  h1) mw_349 wm_X2_append ⟨Nat.zero_le _, Nat.zero_le _⟩ ⟨rfl, rfl, Nat.le_of_ble_eq_true rfl, Nat.le_of_ble_eq_true rfl⟩ (by decide) rfl rfl rfl hl.1 rfl (Nat.le_of_ble_eq_true rfl) dX2_change_13) (fun H locs hw => ?_)
  refine lv_istore (lv' := [(5, .int r1), (0, .ref (pw_ad G 1)), (1, .int x1), (2, .int x2), (3, .int x3), (4, .int x4)]) hx hb dX2_change_16 hl (by decide) rfl (fun ls hl => ?_)
  refine lv_iload_n hx hb dX2_change_18 rfl (lv_at hl 2 rfl) ?_
  refine lv_iload hx hb dX2_change_19 (lv_at hl 0 rfl) ?_
  refine lv_iload_n hx hb dX2_change_21 rfl (lv_at hl 3 rfl) ?_
  obtain ⟨r2, σ2, h2, hf⟩ := pw_bi_some hf
  refine pw_ci hw (pw_runS (As := [.int x1, .int r1, .int x2]) (rest := []) hC hw (c_X2_valuePlace  h2) mw_360 wm_X2_valuePlace ⟨Nat.zero_le _, Nat.zero_le _⟩ ⟨rfl, rfl, Nat.le_of_ble_eq_true rfl, Nat.le_of_ble_eq_true rfl⟩ rfl hl.1 rfl (Nat.le_of_ble_eq_true rfl) dX2_change_22) (fun H locs hw => ?_)
  refine lv_istore (lv' := [(6, .int r2), (5, .int r1), (0, .ref (pw_ad G 1)), (1, .int x1), (2, .int x2), (3, .int x3), (4, .int x4)]) hx hb dX2_change_25 hl (by decide) rfl (fun ls hl => ?_)
  refine lv_aload_n hx hb dX2_change_27 rfl (lv_at hl 2 rfl) ?_
  refine pg_1_7 hC hw mw_114 dX2_change_28 ?_
  refine lv_iload hx hb dX2_change_31 (lv_at hl 0 rfl) ?_
  refine lv_iload hx hb dX2_change_33 (lv_at hl 6 rfl) ?_
  refine lv_if_eq (tgt := 50) hx hb dX2_change_35 (by decide) (fun hc => ?_) (fun hc => ?_)
  · replace hf := pw_ifp hc hf
    refine lv_iload_n hx hb dX2_change_50 rfl (lv_at hl 5 rfl) ?_
    exact t_X2_change_51 hC   hw (lv_sub hl [1] rfl) hf
  · replace hf := pw_ifn hc hf
    refine lv_aload_n hx hb dX2_change_38 rfl (lv_at hl 2 rfl) ?_
    refine pg_1_7 hC hw mw_114 dX2_change_39 ?_
    refine lv_iload hx hb dX2_change_42 (lv_at hl 0 rfl) ?_
    obtain ⟨hin, hf⟩ := pw_gd hf
    refine pw_ild hC hw ca_17 hin dX2_change_44 ?_
    refine lv_iload_n hx hb dX2_change_45 rfl (lv_at hl 5 rfl) ?_
    refine lv_iadd hx hb dX2_change_46 ?_
    refine lv_goto (tgt := 51) hx hb dX2_change_47 (by decide) ?_
    exact t_X2_change_51 hC   hw (lv_sub hl [1] rfl) hf
set_option maxHeartbeats 4000000 in
set_option maxRecDepth 100000 in
theorem c_X2_change {l : Launch} {G : pw_Gh} {x1 : Int32} {x2 : Int32} {x3 : Int32} {x4 : Int32} {σ : pw_St} {r : Int32} {τ : pw_St} (hf : f_X2_change x1 x2 x3 x4 σ = some (r, τ)) : Met l yX2_change (.code yX2_change cX2_change 7 (some .int) :: pw_BW) rm_X2_change (pw_Pc G [.ref (pw_ad G 1), .int x1, .int x2, .int x3, .int x4] σ) (pw_Qi G r τ) 0 0 (pw_gA G) := by
  refine pw_met (by decide +kernel) (Nat.le_of_ble_eq_true rfl) ?_
  intro p e s m args below meth c ls hC hw hl
  replace hl : lv_has ls 7 [(0, .ref (pw_ad G 1)), (1, .int x1), (2, .int x2), (3, .int x3), (4, .int x4)] := hl
  have hx := hC.1
  have hb := hC.2.1
  unfold f_X2_change at hf
  refine lv_aload_n hx hb dX2_change_0 rfl (lv_at hl 0 rfl) ?_
  refine lv_iload_n hx hb dX2_change_1 rfl (lv_at hl 1 rfl) ?_
  refine lv_iload hx hb dX2_change_2 (lv_at hl 4 rfl) ?_
  refine lv_if_eq (tgt := 11) hx hb dX2_change_4 (by decide) (fun hc => ?_) (fun hc => ?_)
  · replace hf := pw_ifp hc hf
    refine lv_iconst (v := 0) hx hb dX2_change_11 (by decide) ?_
    exact t_X2_change_12 hC   hw (lv_sub hl [0, 1, 2, 3, 4] rfl) hf
  · replace hf := pw_ifn hc hf
    refine lv_iconst (v := 1) hx hb dX2_change_7 (by decide) ?_
    refine lv_goto (tgt := 12) hx hb dX2_change_8 (by decide) ?_
    exact t_X2_change_12 hC   hw (lv_sub hl [0, 1, 2, 3, 4] rfl) hf
-- PerhapsWas$Letters write
def f_X3_write (x1 : Int32) (x2 : Int32) (x3 : Int32) (σ : pw_St) : Option (Int32 × pw_St) := (if pw_in (σ.1 2 4) 24 = true then (pw_lt (pw_sM σ 18 (σ.1 2 4).toNatClampNeg x1) fun σ1 => (if pw_in (σ.1 2 4) 24 = true then (pw_lt (pw_sM σ1 19 (σ.1 2 4).toNatClampNeg x2) fun σ2 => (if pw_in (σ.1 2 4) 24 = true then (pw_lt (pw_sM σ2 20 (σ.1 2 4).toNatClampNeg x3) fun σ3 => (if pw_in (σ.1 2 4) 24 = true then (pw_lt (pw_sM σ3 21 (σ.1 2 4).toNatClampNeg (-1 : Int32)) fun σ4 => (pw_lt (pw_sM σ4 2 4 ((σ4.1 2 4) + (1 : Int32))) fun σ5 => (some ((σ.1 2 4), σ5)))) else none)) else none)) else none)) else none)
def rm_X3_write : Room := { frames := 0, cells := 0, slots := 0, locals := 0 }
set_option maxHeartbeats 4000000 in
set_option maxRecDepth 100000 in
theorem c_X3_write {l : Launch} {G : pw_Gh} {x1 : Int32} {x2 : Int32} {x3 : Int32} {σ : pw_St} {r : Int32} {τ : pw_St} (hf : f_X3_write x1 x2 x3 σ = some (r, τ)) : Met l yX3_write (.code yX3_write cX3_write 5 (some .int) :: pw_BW) rm_X3_write (pw_Pc G [.ref (pw_ad G 2), .int x1, .int x2, .int x3] σ) (pw_Qi G r τ) 0 0 (pw_gA G) := by
  refine pw_met (by decide +kernel) (Nat.le_of_ble_eq_true rfl) ?_
  intro p e s m args below meth c ls hC hw hl
  replace hl : lv_has ls 5 [(0, .ref (pw_ad G 2)), (1, .int x1), (2, .int x2), (3, .int x3)] := hl
  have hx := hC.1
  have hb := hC.2.1
  unfold f_X3_write at hf
  refine lv_aload_n hx hb dX3_write_0 rfl (lv_at hl 0 rfl) ?_
  refine pg_2_4 hC hw mw_84 dX3_write_1 ?_
  refine lv_istore (lv' := [(4, .int (σ.1 2 4)), (0, .ref (pw_ad G 2)), (1, .int x1), (2, .int x2), (3, .int x3)]) hx hb dX3_write_4 hl (by decide) rfl (fun ls hl => ?_)
  refine lv_aload_n hx hb dX3_write_6 rfl (lv_at hl 1 rfl) ?_
  refine pg_2_0 hC hw mw_68 dX3_write_7 ?_
  refine lv_iload hx hb dX3_write_10 (lv_at hl 0 rfl) ?_
  refine lv_iload_n hx hb dX3_write_12 rfl (lv_at hl 2 rfl) ?_
  obtain ⟨hin, hf⟩ := pw_gd hf
  refine pw_ist hC hw ca_18 hin dX3_write_13 (fun H locs hw => ?_)
  obtain ⟨σ1, e1, hf⟩ := pw_lts hf
  replace hw := pw_WHe e1 hw
  refine lv_aload_n hx hb dX3_write_14 rfl (lv_at hl 1 rfl) ?_
  refine pg_2_1 hC hw mw_72 dX3_write_15 ?_
  refine lv_iload hx hb dX3_write_18 (lv_at hl 0 rfl) ?_
  refine lv_iload_n hx hb dX3_write_20 rfl (lv_at hl 3 rfl) ?_
  obtain ⟨hin, hf⟩ := pw_gd hf
  refine pw_ist hC hw ca_19 hin dX3_write_21 (fun H locs hw => ?_)
  obtain ⟨σ2, e2, hf⟩ := pw_lts hf
  replace hw := pw_WHe e2 hw
  refine lv_aload_n hx hb dX3_write_22 rfl (lv_at hl 1 rfl) ?_
  refine pg_2_2 hC hw mw_76 dX3_write_23 ?_
  refine lv_iload hx hb dX3_write_26 (lv_at hl 0 rfl) ?_
  refine lv_iload_n hx hb dX3_write_28 rfl (lv_at hl 4 rfl) ?_
  obtain ⟨hin, hf⟩ := pw_gd hf
  refine pw_ist hC hw ca_20 hin dX3_write_29 (fun H locs hw => ?_)
  obtain ⟨σ3, e3, hf⟩ := pw_lts hf
  replace hw := pw_WHe e3 hw
  refine lv_aload_n hx hb dX3_write_30 rfl (lv_at hl 1 rfl) ?_
  refine pg_2_3 hC hw mw_80 dX3_write_31 ?_
  refine lv_iload hx hb dX3_write_34 (lv_at hl 0 rfl) ?_
  refine lv_iconst (v := -1) hx hb dX3_write_36 (by decide) ?_
  obtain ⟨hin, hf⟩ := pw_gd hf
  refine pw_ist hC hw ca_21 hin dX3_write_37 (fun H locs hw => ?_)
  obtain ⟨σ4, e4, hf⟩ := pw_lts hf
  replace hw := pw_WHe e4 hw
  refine lv_aload_n hx hb dX3_write_38 rfl (lv_at hl 1 rfl) ?_
  refine lv_dup hx hb dX3_write_39 rfl ?_
  refine pg_2_4 hC hw mw_84 dX3_write_40 ?_
  refine lv_iconst (v := 1) hx hb dX3_write_43 (by decide) ?_
  refine lv_iadd hx hb dX3_write_44 ?_
  refine pp_2_4 hC hw mw_84 dX3_write_45 (fun H locs hw => ?_)
  obtain ⟨σ5, e5, hf⟩ := pw_lts hf
  replace hw := pw_WHe e5 hw
  refine lv_iload hx hb dX3_write_48 (lv_at hl 0 rfl) ?_
  exact pw_iret hC hw hf dX3_write_50
-- PerhapsWas$History sendOut
def f_X2_sendOut (x1 : Int32) (x2 : Int32) (σ : pw_St) : Option (Int32 × pw_St) := (if pw_in x1 4 = true then (pw_bi (f_X3_write x1 x2 (σ.1 11 x1.toNatClampNeg) σ) fun r1 σ1 => (pw_bi (f_X2_append x1 (2 : Int32) r1 σ1) fun r2 σ2 => (some (r1, σ2)))) else none)
def rm_X2_sendOut : Room := { frames := 2, cells := 0, slots := 0, locals := 49 }
set_option maxHeartbeats 4000000 in
set_option maxRecDepth 100000 in
theorem c_X2_sendOut {l : Launch} {G : pw_Gh} {x1 : Int32} {x2 : Int32} {σ : pw_St} {r : Int32} {τ : pw_St} (hf : f_X2_sendOut x1 x2 σ = some (r, τ)) : Met l yX2_sendOut (.code yX2_sendOut cX2_sendOut 4 (some .int) :: pw_BW) rm_X2_sendOut (pw_Pc G [.ref (pw_ad G 1), .int x1, .int x2] σ) (pw_Qi G r τ) 0 0 (pw_gA G) := by
  refine pw_met (by decide +kernel) (Nat.le_of_ble_eq_true rfl) ?_
  intro p e s m args below meth c ls hC hw hl
  replace hl : lv_has ls 4 [(0, .ref (pw_ad G 1)), (1, .int x1), (2, .int x2)] := hl
  have hx := hC.1
  have hb := hC.2.1
  unfold f_X2_sendOut at hf
  refine lv_aload_n hx hb dX2_sendOut_0 rfl (lv_at hl 0 rfl) ?_
  refine pg_1_0 hC hw mw_100 dX2_sendOut_1 ?_
  refine lv_iload_n hx hb dX2_sendOut_4 rfl (lv_at hl 1 rfl) ?_
  refine lv_iload_n hx hb dX2_sendOut_5 rfl (lv_at hl 2 rfl) ?_
  refine lv_aload_n hx hb dX2_sendOut_6 rfl (lv_at hl 0 rfl) ?_
  refine pg_1_1 hC hw mw_103 dX2_sendOut_7 ?_
  refine lv_iload_n hx hb dX2_sendOut_10 rfl (lv_at hl 1 rfl) ?_
  obtain ⟨hin, hf⟩ := pw_gd hf
  refine pw_ild hC hw ca_11 hin dX2_sendOut_11 ?_
  obtain ⟨r1, σ1, h1, hf⟩ := pw_bi_some hf
  refine pw_ci hw (pw_runV (As := [.int x1, .int x2, .int (σ.1 11 x1.toNatClampNeg)]) (rest := []) hC hw (c_X3_write  h1) mw_375 wm_X3_write ⟨Nat.zero_le _, Nat.zero_le _⟩ ⟨rfl, rfl, Nat.le_of_ble_eq_true rfl, Nat.le_of_ble_eq_true rfl⟩ (by decide) rfl rfl rfl hl.1 rfl (Nat.le_of_ble_eq_true rfl) dX2_sendOut_12) (fun H locs hw => ?_)
  refine lv_istore_n (lv' := [(3, .int r1), (0, .ref (pw_ad G 1)), (1, .int x1), (2, .int x2)]) hx hb dX2_sendOut_15 rfl hl (by decide) rfl (fun ls hl => ?_)
  refine lv_aload_n hx hb dX2_sendOut_16 rfl (lv_at hl 1 rfl) ?_
  refine lv_iload_n hx hb dX2_sendOut_17 rfl (lv_at hl 2 rfl) ?_
  refine lv_iconst (v := 2) hx hb dX2_sendOut_18 (by decide) ?_
  refine lv_iload_n hx hb dX2_sendOut_19 rfl (lv_at hl 0 rfl) ?_
  obtain ⟨r2, σ2, h2, hf⟩ := pw_bi_some hf
  refine pw_ci hw (pw_runV (As := [.int x1, .int (2 : Int32), .int r1]) (rest := []) hC hw (c_X2_append  h2) mw_349 wm_X2_append ⟨Nat.zero_le _, Nat.zero_le _⟩ ⟨rfl, rfl, Nat.le_of_ble_eq_true rfl, Nat.le_of_ble_eq_true rfl⟩ (by decide) rfl rfl rfl hl.1 rfl (Nat.le_of_ble_eq_true rfl) dX2_sendOut_20) (fun H locs hw => ?_)
  refine lv_pop hx hb dX2_sendOut_23 rfl ?_
  refine lv_iload_n hx hb dX2_sendOut_24 rfl (lv_at hl 0 rfl) ?_
  exact pw_iret hC hw hf dX2_sendOut_25
-- PerhapsWas$History follow
def b_X2_follow_19 (k19 : Int32 → Int32 → Int32 → Int32 → pw_St → Option pw_St) (x2 : Int32) (x3 : Int32) (x4 : Int32) (x5 : Int32) (σ : pw_St) : Option pw_St := (if (4 : Int32) ≤ x5 then (some σ) else (if pw_in (x4 + x5) 96 = true then (pw_bi (f_X2_clockOf x2 x3 x5 σ) fun r1 σ1 => (if pw_in (x4 + x5) 96 = true then (pw_lt (pw_sM σ1 16 (x4 + x5).toNatClampNeg (if (σ.1 16 (x4 + x5).toNatClampNeg) < r1 then r1 else (σ.1 16 (x4 + x5).toNatClampNeg))) fun σ2 => (k19 x2 x3 x4 (x5 + (1 : Int32)) σ2)) else none)) else none))
def l_X2_follow_19 : Nat → Int32 → Int32 → Int32 → Int32 → pw_St → Option pw_St
  | 0 => fun _ _ _ _ _ => none
  | n + 1 => fun x2 x3 x4 x5 σ => b_X2_follow_19  (l_X2_follow_19  n) x2 x3 x4 x5 σ
def f_X2_follow (x1 : Int32) (x2 : Int32) (x3 : Int32) (σ : pw_St) : Option pw_St := (if pw_in x1 4 = true then (pw_bi (f_X2_place x1 ((σ.1 11 x1.toNatClampNeg) - (1 : Int32)) σ) fun r1 σ1 => (l_X2_follow_19  pw_FU x2 x3 (r1 * (4 : Int32)) (0 : Int32) σ1)) else none)
def rm_X2_follow : Room := { frames := 1, cells := 0, slots := 0, locals := 23 }
set_option maxHeartbeats 4000000 in
set_option maxRecDepth 100000 in
theorem t_X2_follow_19 (hC : pw_CX G RX2 cX2_follow 6 none p s m args meth c) {k19 : Int32 → Int32 → Int32 → Int32 → pw_St → Option pw_St} {τ : pw_St} (hk19 : ∀ (x2 : Int32), ∀ (x3 : Int32), ∀ (x4 : Int32), ∀ (x5 : Int32), ∀ (σ : pw_St) (H : Heap) (locs : List Loc) (ls : Array Slot), pw_WH G σ s.heap H locs → lv_has ls 6 [(0, .ref (pw_ad G 1)), (2, .int x2), (3, .int x3), (4, .int x4), (5, .int x5)] → k19 x2 x3 x4 x5 σ = some τ → W p l e rm_X2_follow s m args below meth c H locs 0 0 (MQ below (pw_Qv G τ) args s 0 0 (pw_gA G)) (F0 m 19 ls [])) {x2 : Int32} {x3 : Int32} {x4 : Int32} {x5 : Int32} {σ : pw_St} {H : Heap} {locs : List Loc} {ls : Array Slot} (hw : pw_WH G σ s.heap H locs) (hl : lv_has ls 6 [(0, .ref (pw_ad G 1)), (2, .int x2), (3, .int x3), (4, .int x4), (5, .int x5)]) (hf : b_X2_follow_19 k19 x2 x3 x4 x5 σ = some τ) : W p l e rm_X2_follow s m args below meth c H locs 0 0 (MQ below (pw_Qv G τ) args s 0 0 (pw_gA G)) (F0 m 19 ls []) := by
  have hx := hC.1
  have hb := hC.2.1
  unfold b_X2_follow_19 at hf
  refine lv_iload hx hb dX2_follow_19 (lv_at hl 4 rfl) ?_
  refine lv_iconst (v := 4) hx hb dX2_follow_21 (by decide) ?_
  refine lv_icmp_ge (tgt := 62) hx hb dX2_follow_22 (by decide) (fun hc => ?_) (fun hc => ?_)
  · replace hf := pw_ifp hc hf
    exact pw_vret hC hw hf dX2_follow_62
  · replace hf := pw_ifn hc hf
    refine lv_aload_n hx hb dX2_follow_25 rfl (lv_at hl 0 rfl) ?_
    refine pg_1_6 hC hw mw_113 dX2_follow_26 ?_
    refine lv_iload hx hb dX2_follow_29 (lv_at hl 3 rfl) ?_
    refine lv_iload hx hb dX2_follow_31 (lv_at hl 4 rfl) ?_
    refine lv_iadd hx hb dX2_follow_33 ?_
    refine lv_aload_n hx hb dX2_follow_34 rfl (lv_at hl 0 rfl) ?_
    refine pg_1_6 hC hw mw_113 dX2_follow_35 ?_
    refine lv_iload hx hb dX2_follow_38 (lv_at hl 3 rfl) ?_
    refine lv_iload hx hb dX2_follow_40 (lv_at hl 4 rfl) ?_
    refine lv_iadd hx hb dX2_follow_42 ?_
    obtain ⟨hin, hf⟩ := pw_gd hf
    refine pw_ild hC hw ca_16 hin dX2_follow_43 ?_
    refine lv_aload_n hx hb dX2_follow_44 rfl (lv_at hl 0 rfl) ?_
    refine lv_iload_n hx hb dX2_follow_45 rfl (lv_at hl 1 rfl) ?_
    refine lv_iload_n hx hb dX2_follow_46 rfl (lv_at hl 2 rfl) ?_
    refine lv_iload hx hb dX2_follow_47 (lv_at hl 4 rfl) ?_
    obtain ⟨r1, σ1, h1, hf⟩ := pw_bi_some hf
    refine pw_ci hw (pw_runV (As := [.int x2, .int x3, .int x5]) (rest := [.int (σ.1 16 (x4 + x5).toNatClampNeg), .int (x4 + x5), .ref (pw_ad G 16)]) hC hw (c_X2_clockOf  h1) mw_356 wm_X2_clockOf ⟨Nat.zero_le _, Nat.zero_le _⟩ ⟨rfl, rfl, Nat.le_of_ble_eq_true rfl, Nat.le_of_ble_eq_true rfl⟩ (by decide) rfl rfl rfl hl.1 rfl (Nat.le_of_ble_eq_true rfl) dX2_follow_49) (fun H locs hw => ?_)
    refine va_mmax hx hb (hC.2.2.1.trans hl.1.symm) hC.2.2.2.1 (hC.2.2.2.2.1 _ mw_395) (hC.2.2.2.2.1 _ mw_396) (hC.2.2.2.2.1 _ mw_46) (hC.2.2.2.2.1 _ mw_397) (Nat.le_of_ble_eq_true rfl) (Nat.le_of_ble_eq_true rfl) (Nat.zero_le _) (Nat.zero_le _) dX2_follow_52 ?_
    obtain ⟨hin, hf⟩ := pw_gd hf
    refine pw_ist hC hw ca_16 hin dX2_follow_55 (fun H locs hw => ?_)
    obtain ⟨σ2, e2, hf⟩ := pw_lts hf
    replace hw := pw_WHe e2 hw
    refine lv_iinc (v := (x5 + (1 : Int32))) (lv' := [(5, .int (x5 + (1 : Int32))), (0, .ref (pw_ad G 1)), (2, .int x2), (3, .int x3), (4, .int x4)]) hx hb dX2_follow_56 hl (k := 4) rfl rfl (by decide) rfl (fun ls hl => ?_)
    refine lv_goto (tgt := 19) hx hb dX2_follow_59 (by decide) ?_
    exact hk19 _ _ _ _ _ _ _ _ hw (lv_sub hl [1, 2, 3, 4, 0] rfl) hf
set_option maxHeartbeats 4000000 in
theorem tl_X2_follow_19 (hC : pw_CX G RX2 cX2_follow 6 none p s m args meth c) {τ : pw_St} : ∀ (n : Nat) (x2 : Int32) (x3 : Int32) (x4 : Int32) (x5 : Int32) (σ : pw_St) (H : Heap) (locs : List Loc) (ls : Array Slot), pw_WH G σ s.heap H locs → lv_has ls 6 [(0, .ref (pw_ad G 1)), (2, .int x2), (3, .int x3), (4, .int x4), (5, .int x5)] → l_X2_follow_19  n x2 x3 x4 x5 σ = some τ → W p l e rm_X2_follow s m args below meth c H locs 0 0 (MQ below (pw_Qv G τ) args s 0 0 (pw_gA G)) (F0 m 19 ls []) := by
  intro n
  induction n with
  | zero => intro x2 x3 x4 x5 σ H locs ls hw hl hf; cases hf
  | succ n ih => intro x2 x3 x4 x5 σ H locs ls hw hl hf; exact t_X2_follow_19 hC ih  hw hl hf
set_option maxHeartbeats 4000000 in
set_option maxRecDepth 100000 in
theorem c_X2_follow {l : Launch} {G : pw_Gh} {x1 : Int32} {x2 : Int32} {x3 : Int32} {σ : pw_St} {τ : pw_St} (hf : f_X2_follow x1 x2 x3 σ = some τ) : Met l yX2_follow (.code yX2_follow cX2_follow 6 none :: pw_BW) rm_X2_follow (pw_Pc G [.ref (pw_ad G 1), .int x1, .int x2, .int x3] σ) (pw_Qv G τ) 0 0 (pw_gA G) := by
  refine pw_met (by decide +kernel) (Nat.le_of_ble_eq_true rfl) ?_
  intro p e s m args below meth c ls hC hw hl
  replace hl : lv_has ls 6 [(0, .ref (pw_ad G 1)), (1, .int x1), (2, .int x2), (3, .int x3)] := hl
  have hx := hC.1
  have hb := hC.2.1
  unfold f_X2_follow at hf
  refine lv_iload_n hx hb dX2_follow_0 rfl (lv_at hl 1 rfl) ?_
  refine lv_aload_n hx hb dX2_follow_1 rfl (lv_at hl 0 rfl) ?_
  refine pg_1_1 hC hw mw_103 dX2_follow_2 ?_
  refine lv_iload_n hx hb dX2_follow_5 rfl (lv_at hl 1 rfl) ?_
  obtain ⟨hin, hf⟩ := pw_gd hf
  refine pw_ild hC hw ca_11 hin dX2_follow_6 ?_
  refine lv_iconst (v := 1) hx hb dX2_follow_7 (by decide) ?_
  refine lv_isub hx hb dX2_follow_8 ?_
  obtain ⟨r1, σ1, h1, hf⟩ := pw_bi_some hf
  refine pw_ci hw (pw_runS (As := [.int x1, .int ((σ.1 11 x1.toNatClampNeg) - (1 : Int32))]) (rest := []) hC hw (c_X2_place  h1) mw_353 wm_X2_place ⟨Nat.zero_le _, Nat.zero_le _⟩ ⟨rfl, rfl, Nat.le_of_ble_eq_true rfl, Nat.le_of_ble_eq_true rfl⟩ rfl hl.1 rfl (Nat.le_of_ble_eq_true rfl) dX2_follow_9) (fun H locs hw => ?_)
  refine lv_iconst (v := 4) hx hb dX2_follow_12 (by decide) ?_
  refine lv_imul hx hb dX2_follow_13 ?_
  refine lv_istore (lv' := [(4, .int (r1 * (4 : Int32))), (0, .ref (pw_ad G 1)), (1, .int x1), (2, .int x2), (3, .int x3)]) hx hb dX2_follow_14 hl (by decide) rfl (fun ls hl => ?_)
  refine lv_iconst (v := 0) hx hb dX2_follow_16 (by decide) ?_
  refine lv_istore (lv' := [(5, .int (0 : Int32)), (4, .int (r1 * (4 : Int32))), (0, .ref (pw_ad G 1)), (1, .int x1), (2, .int x2), (3, .int x3)]) hx hb dX2_follow_17 hl (by decide) rfl (fun ls hl => ?_)
  exact tl_X2_follow_19 hC  pw_FU _ _ _ _ _ _ _ _ hw (lv_sub hl [2, 4, 5, 1, 0] rfl) hf
end PM
