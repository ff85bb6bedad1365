section PM
variable {p : Program} {l : Launch} {e : Env} {s : State} {m : MethodId} {args : Array Value} {below : List Frame} {meth : Method} {c : Code} {G : pw_Gh}
-- PerhapsWas$Ways fillUntil
def b_X9_fillUntil_87 (σ : pw_St) : Option (Int64 × pw_St) := (if pw_in (0 : Int32) 2401 = true then (some ((σ.2 32 (0 : Int32).toNatClampNeg), σ)) else none)
def b_X9_fillUntil_80 (k8 : Nat → Int32 → pw_St → Option (Int64 × pw_St)) (n4 : Nat) (x5 : Int32) (y0 : Int64) (y1 : Int32) (σ : pw_St) : Option (Int64 × pw_St) := (if pw_in y1 2401 = true then (pw_lt (pw_sL σ 32 y1.toNatClampNeg y0) fun σ1 => (k8 n4 (x5 + (-1 : Int32)) σ1)) else none)
def b_X9_fillUntil_45 (k8 : Nat → Int32 → pw_St → Option (Int64 × pw_St)) (n4 : Nat) (x5 : Int32) (x6 : Int32) (y0 : Int32) (σ : pw_St) : Option (Int64 × pw_St) := (if pw_in x6 2401 = true then (if (σ.1 30 x6.toNatClampNeg) = 0 then (if y0 = 0 then (pw_bl (f_X9_sumOver x6 σ) fun r1 σ1 => (b_X9_fillUntil_80 k8 n4 x5 r1 x6 σ1)) else (b_X9_fillUntil_80 k8 n4 x5 (1 : Int64) x6 σ)) else (b_X9_fillUntil_80 k8 n4 x5 (0 : Int64) x6 σ)) else none)
def b_X9_fillUntil_44 (k8 : Nat → Int32 → pw_St → Option (Int64 × pw_St)) (n4 : Nat) (x5 : Int32) (x6 : Int32) (σ : pw_St) : Option (Int64 × pw_St) := (b_X9_fillUntil_45 k8 n4 x5 x6 (0 : Int32) σ)
def b_X9_fillUntil_8 (k8 : Nat → Int32 → pw_St → Option (Int64 × pw_St)) (n4 : Nat) (x5 : Int32) (σ : pw_St) : Option (Int64 × pw_St) := (if x5 < 0 then (b_X9_fillUntil_87  σ) else (if pw_in x5 2401 = true then (if pw_in (σ.1 22 x5.toNatClampNeg) 2401 = true then (if (σ.1 30 (σ.1 22 x5.toNatClampNeg).toNatClampNeg) = 0 then (pw_bi (f_X5_worth n4 (σ.1 22 x5.toNatClampNeg) σ) fun r1 σ1 => (if r1 = 0 then (b_X9_fillUntil_44 k8 n4 x5 (σ.1 22 x5.toNatClampNeg) σ1) else (b_X9_fillUntil_45 k8 n4 x5 (σ.1 22 x5.toNatClampNeg) (1 : Int32) σ1))) else (b_X9_fillUntil_44 k8 n4 x5 (σ.1 22 x5.toNatClampNeg) σ)) else none) else none))
def l_X9_fillUntil_8 : Nat → Nat → Int32 → pw_St → Option (Int64 × pw_St)
  | 0 => fun _ _ _ => none
  | n + 1 => fun n4 x5 σ => b_X9_fillUntil_8  (l_X9_fillUntil_8  n) n4 x5 σ
def f_X9_fillUntil (n4 : Nat) (σ : pw_St) : Option (Int64 × pw_St) := (l_X9_fillUntil_8  pw_FU n4 ((σ.1 3 5) - (1 : Int32)) σ)
def rm_X9_fillUntil : Room := { frames := 4, cells := 0, slots := 0, locals := 95 }
set_option maxHeartbeats 4000000 in
set_option maxRecDepth 100000 in
theorem t_X9_fillUntil_87 (hC : pw_CX G RX9 cX9_fillUntil 8 (some .long) p s m args meth c) {r : Int64} {τ : pw_St} {σ : pw_St} {H : Heap} {locs : List Loc} {ls : Array Slot} (hw : pw_WH G σ s.heap H locs) (hl : lv_has ls 8 [(0, .ref (pw_ad G 8))]) (hf : b_X9_fillUntil_87 σ = some (r, τ)) : W p l e rm_X9_fillUntil s m args below meth c H locs 0 0 (MQ below (pw_Ql G r τ) args s 0 0 (pw_gA G)) (F0 m 87 ls []) := by
  have hx := hC.1
  have hb := hC.2.1
  unfold b_X9_fillUntil_87 at hf
  refine lv_aload_n hx hb dX9_fillUntil_87 rfl (lv_at hl 0 rfl) ?_
  refine pg_8_0 hC hw mw_282 dX9_fillUntil_88 ?_
  refine lv_iconst (v := 0) hx hb dX9_fillUntil_91 (by decide) ?_
  obtain ⟨hin, hf⟩ := pw_gd hf
  refine pw_lld hC hw ca_32 hin dX9_fillUntil_92 ?_
  exact pw_lret hC hw hf dX9_fillUntil_93
set_option maxHeartbeats 4000000 in
set_option maxRecDepth 100000 in
theorem t_X9_fillUntil_80 (hC : pw_CX G RX9 cX9_fillUntil 8 (some .long) p s m args meth c) {k8 : Nat → Int32 → pw_St → Option (Int64 × pw_St)} {r : Int64} {τ : pw_St} (hk8 : ∀ (n4 : Nat), ∀ (x5 : Int32), ∀ (σ : pw_St) (H : Heap) (locs : List Loc) (ls : Array Slot), n4 < 14 → pw_WH G σ s.heap H locs → lv_has ls 8 [(0, .ref (pw_ad G 8)), (1, .ref (pw_ad G 3)), (2, .ref (pw_ad G 30)), (3, .ref (pw_ad G 6)), (4, .ref (pw_ad G (4 * n4 + 54))), (5, .int x5)] → k8 n4 x5 σ = some (r, τ) → W p l e rm_X9_fillUntil s m args below meth c H locs 0 0 (MQ below (pw_Ql G r τ) args s 0 0 (pw_gA G)) (F0 m 8 ls [])) {n4 : Nat} {x5 : Int32} {y0 : Int64} {y1 : Int32} (hbn4 : n4 < 14) {σ : pw_St} {H : Heap} {locs : List Loc} {ls : Array Slot} (hw : pw_WH G σ s.heap H locs) (hl : lv_has ls 8 [(0, .ref (pw_ad G 8)), (1, .ref (pw_ad G 3)), (2, .ref (pw_ad G 30)), (3, .ref (pw_ad G 6)), (4, .ref (pw_ad G (4 * n4 + 54))), (5, .int x5)]) (hf : b_X9_fillUntil_80 k8 n4 x5 y0 y1 σ = some (r, τ)) : W p l e rm_X9_fillUntil s m args below meth c H locs 0 0 (MQ below (pw_Ql G r τ) args s 0 0 (pw_gA G)) (F0 m 80 ls [.long y0, .int y1, .ref (pw_ad G 32)]) := by
  have hx := hC.1
  have hb := hC.2.1
  unfold b_X9_fillUntil_80 at hf
  obtain ⟨hin, hf⟩ := pw_gd hf
  refine pw_lst hC hw ca_32 hin dX9_fillUntil_80 (fun H locs hw => ?_)
  obtain ⟨σ1, e1, hf⟩ := pw_lts hf
  replace hw := pw_WHe e1 hw
  refine lv_iinc (v := (x5 + (-1 : Int32))) (lv' := [(5, .int (x5 + (-1 : Int32))), (0, .ref (pw_ad G 8)), (1, .ref (pw_ad G 3)), (2, .ref (pw_ad G 30)), (3, .ref (pw_ad G 6)), (4, .ref (pw_ad G (4 * n4 + 54)))]) hx hb dX9_fillUntil_81 hl (k := 5) rfl rfl (by decide) rfl (fun ls hl => ?_)
  refine lv_goto (tgt := 8) hx hb dX9_fillUntil_84 (by decide) ?_
  exact hk8 _ _ _ _ _ _ hbn4 hw (lv_sub hl [1, 2, 3, 4, 5, 0] rfl) hf
set_option maxHeartbeats 4000000 in
set_option maxRecDepth 100000 in
theorem t_X9_fillUntil_45 (hC : pw_CX G RX9 cX9_fillUntil 8 (some .long) p s m args meth c) {k8 : Nat → Int32 → pw_St → Option (Int64 × pw_St)} {r : Int64} {τ : pw_St} (hk8 : ∀ (n4 : Nat), ∀ (x5 : Int32), ∀ (σ : pw_St) (H : Heap) (locs : List Loc) (ls : Array Slot), n4 < 14 → pw_WH G σ s.heap H locs → lv_has ls 8 [(0, .ref (pw_ad G 8)), (1, .ref (pw_ad G 3)), (2, .ref (pw_ad G 30)), (3, .ref (pw_ad G 6)), (4, .ref (pw_ad G (4 * n4 + 54))), (5, .int x5)] → k8 n4 x5 σ = some (r, τ) → W p l e rm_X9_fillUntil s m args below meth c H locs 0 0 (MQ below (pw_Ql G r τ) args s 0 0 (pw_gA G)) (F0 m 8 ls [])) {n4 : Nat} {x5 : Int32} {x6 : Int32} {y0 : Int32} (hbn4 : n4 < 14) {σ : pw_St} {H : Heap} {locs : List Loc} {ls : Array Slot} (hw : pw_WH G σ s.heap H locs) (hl : lv_has ls 8 [(0, .ref (pw_ad G 8)), (1, .ref (pw_ad G 3)), (2, .ref (pw_ad G 30)), (3, .ref (pw_ad G 6)), (4, .ref (pw_ad G (4 * n4 + 54))), (5, .int x5), (6, .int x6)]) (hf : b_X9_fillUntil_45 k8 n4 x5 x6 y0 σ = some (r, τ)) : W p l e rm_X9_fillUntil s m args below meth c H locs 0 0 (MQ below (pw_Ql G r τ) args s 0 0 (pw_gA G)) (F0 m 45 ls [.int y0]) := by
  have hx := hC.1
  have hb := hC.2.1
  unfold b_X9_fillUntil_45 at hf
  refine lv_istore (lv' := [(7, .int y0), (0, .ref (pw_ad G 8)), (1, .ref (pw_ad G 3)), (2, .ref (pw_ad G 30)), (3, .ref (pw_ad G 6)), (4, .ref (pw_ad G (4 * n4 + 54))), (5, .int x5), (6, .int x6)]) hx hb dX9_fillUntil_45 hl (by decide) rfl (fun ls hl => ?_)
  refine lv_aload_n hx hb dX9_fillUntil_47 rfl (lv_at hl 1 rfl) ?_
  refine pg_8_0 hC hw mw_282 dX9_fillUntil_48 ?_
  refine lv_iload hx hb dX9_fillUntil_51 (lv_at hl 7 rfl) ?_
  refine lv_aload_n hx hb dX9_fillUntil_53 rfl (lv_at hl 3 rfl) ?_
  refine lv_iload hx hb dX9_fillUntil_54 (lv_at hl 7 rfl) ?_
  obtain ⟨hin, hf⟩ := pw_gd hf
  refine pw_zld hC hw ca_30 hin dX9_fillUntil_56 ?_
  refine lv_if_eq (tgt := 64) hx hb dX9_fillUntil_57 (by decide) (fun hc => ?_) (fun hc => ?_)
  · replace hf := pw_ifp hc hf
    refine lv_iload hx hb dX9_fillUntil_64 (lv_at hl 0 rfl) ?_
    refine lv_if_eq (tgt := 73) hx hb dX9_fillUntil_66 (by decide) (fun hc => ?_) (fun hc => ?_)
    · replace hf := pw_ifp hc hf
      refine lv_aload_n hx hb dX9_fillUntil_73 rfl (lv_at hl 1 rfl) ?_
      refine lv_aload_n hx hb dX9_fillUntil_74 rfl (lv_at hl 2 rfl) ?_
      refine lv_iload hx hb dX9_fillUntil_75 (lv_at hl 7 rfl) ?_
      obtain ⟨r1, σ1, h1, hf⟩ := pw_bl_some hf
      refine pw_cl hw (pw_runV (As := [.ref (pw_ad G 3), .int x6]) (rest := [.int x6, .ref (pw_ad G 32)]) hC hw (c_X9_sumOver  h1) mw_522 wm_X9_sumOver ⟨Nat.zero_le _, Nat.zero_le _⟩ ⟨rfl, rfl, Nat.le_of_ble_eq_true rfl, Nat.le_of_ble_eq_true rfl⟩ (by decide) rfl rfl rfl hl.1 rfl (Nat.le_of_ble_eq_true rfl) dX9_fillUntil_77) (fun H locs hw => ?_)
      exact t_X9_fillUntil_80 hC hk8 hbn4 hw (lv_sub hl [1, 2, 3, 4, 5, 6] rfl) hf
    · replace hf := pw_ifn hc hf
      refine lv_lconst (v := 1) hx hb dX9_fillUntil_69 (by decide) ?_
      refine lv_goto (tgt := 80) hx hb dX9_fillUntil_70 (by decide) ?_
      exact t_X9_fillUntil_80 hC hk8 hbn4 hw (lv_sub hl [1, 2, 3, 4, 5, 6] rfl) hf
  · replace hf := pw_ifn hc hf
    refine lv_lconst (v := 0) hx hb dX9_fillUntil_60 (by decide) ?_
    refine lv_goto (tgt := 80) hx hb dX9_fillUntil_61 (by decide) ?_
    exact t_X9_fillUntil_80 hC hk8 hbn4 hw (lv_sub hl [1, 2, 3, 4, 5, 6] rfl) hf
set_option maxHeartbeats 4000000 in
set_option maxRecDepth 100000 in
theorem t_X9_fillUntil_44 (hC : pw_CX G RX9 cX9_fillUntil 8 (some .long) p s m args meth c) {k8 : Nat → Int32 → pw_St → Option (Int64 × pw_St)} {r : Int64} {τ : pw_St} (hk8 : ∀ (n4 : Nat), ∀ (x5 : Int32), ∀ (σ : pw_St) (H : Heap) (locs : List Loc) (ls : Array Slot), n4 < 14 → pw_WH G σ s.heap H locs → lv_has ls 8 [(0, .ref (pw_ad G 8)), (1, .ref (pw_ad G 3)), (2, .ref (pw_ad G 30)), (3, .ref (pw_ad G 6)), (4, .ref (pw_ad G (4 * n4 + 54))), (5, .int x5)] → k8 n4 x5 σ = some (r, τ) → W p l e rm_X9_fillUntil s m args below meth c H locs 0 0 (MQ below (pw_Ql G r τ) args s 0 0 (pw_gA G)) (F0 m 8 ls [])) {n4 : Nat} {x5 : Int32} {x6 : Int32} (hbn4 : n4 < 14) {σ : pw_St} {H : Heap} {locs : List Loc} {ls : Array Slot} (hw : pw_WH G σ s.heap H locs) (hl : lv_has ls 8 [(0, .ref (pw_ad G 8)), (1, .ref (pw_ad G 3)), (2, .ref (pw_ad G 30)), (3, .ref (pw_ad G 6)), (4, .ref (pw_ad G (4 * n4 + 54))), (5, .int x5), (6, .int x6)]) (hf : b_X9_fillUntil_44 k8 n4 x5 x6 σ = some (r, τ)) : W p l e rm_X9_fillUntil s m args below meth c H locs 0 0 (MQ below (pw_Ql G r τ) args s 0 0 (pw_gA G)) (F0 m 44 ls []) := by
  have hx := hC.1
  have hb := hC.2.1
  unfold b_X9_fillUntil_44 at hf
  refine lv_iconst (v := 0) hx hb dX9_fillUntil_44 (by decide) ?_
  exact t_X9_fillUntil_45 hC hk8 hbn4 hw (lv_sub hl [0, 1, 2, 3, 4, 5, 6] rfl) hf
set_option maxHeartbeats 4000000 in
set_option maxRecDepth 100000 in
theorem t_X9_fillUntil_8 (hC : pw_CX G RX9 cX9_fillUntil 8 (some .long) p s m args meth c) {k8 : Nat → Int32 → pw_St → Option (Int64 × pw_St)} {r : Int64} {τ : pw_St} (hk8 : ∀ (n4 : Nat), ∀ (x5 : Int32), ∀ (σ : pw_St) (H : Heap) (locs : List Loc) (ls : Array Slot), n4 < 14 → pw_WH G σ s.heap H locs → lv_has ls 8 [(0, .ref (pw_ad G 8)), (1, .ref (pw_ad G 3)), (2, .ref (pw_ad G 30)), (3, .ref (pw_ad G 6)), (4, .ref (pw_ad G (4 * n4 + 54))), (5, .int x5)] → k8 n4 x5 σ = some (r, τ) → W p l e rm_X9_fillUntil s m args below meth c H locs 0 0 (MQ below (pw_Ql G r τ) args s 0 0 (pw_gA G)) (F0 m 8 ls [])) {n4 : Nat} {x5 : Int32} (hbn4 : n4 < 14) {σ : pw_St} {H : Heap} {locs : List Loc} {ls : Array Slot} (hw : pw_WH G σ s.heap H locs) (hl : lv_has ls 8 [(0, .ref (pw_ad G 8)), (1, .ref (pw_ad G 3)), (2, .ref (pw_ad G 30)), (3, .ref (pw_ad G 6)), (4, .ref (pw_ad G (4 * n4 + 54))), (5, .int x5)]) (hf : b_X9_fillUntil_8 k8 n4 x5 σ = some (r, τ)) : W p l e rm_X9_fillUntil s m args below meth c H locs 0 0 (MQ below (pw_Ql G r τ) args s 0 0 (pw_gA G)) (F0 m 8 ls []) := by
  have hx := hC.1
  have hb := hC.2.1
  unfold b_X9_fillUntil_8 at hf
  refine lv_iload hx hb dX9_fillUntil_8 (lv_at hl 5 rfl) ?_
  refine lv_if_lt (tgt := 87) hx hb dX9_fillUntil_10 (by decide) (fun hc => ?_) (fun hc => ?_)
  · replace hf := pw_ifp hc hf
    exact t_X9_fillUntil_87 hC   hw (lv_sub hl [0] rfl) hf
  · replace hf := pw_ifn hc hf
    refine lv_aload_n hx hb dX9_fillUntil_13 rfl (lv_at hl 1 rfl) ?_
    refine pg_3_1 hC hw mw_153 dX9_fillUntil_14 ?_
    refine lv_iload hx hb dX9_fillUntil_17 (lv_at hl 5 rfl) ?_
    obtain ⟨hin, hf⟩ := pw_gd hf
    refine pw_ild hC hw ca_22 hin dX9_fillUntil_19 ?_
    refine lv_istore (lv' := [(6, .int (σ.1 22 x5.toNatClampNeg)), (0, .ref (pw_ad G 8)), (1, .ref (pw_ad G 3)), (2, .ref (pw_ad G 30)), (3, .ref (pw_ad G 6)), (4, .ref (pw_ad G (4 * n4 + 54))), (5, .int x5)]) hx hb dX9_fillUntil_20 hl (by decide) rfl (fun ls hl => ?_)
    refine lv_aload_n hx hb dX9_fillUntil_22 rfl (lv_at hl 3 rfl) ?_
    refine lv_iload hx hb dX9_fillUntil_23 (lv_at hl 0 rfl) ?_
    obtain ⟨hin, hf⟩ := pw_gd hf
    refine pw_zld hC hw ca_30 hin dX9_fillUntil_25 ?_
    refine lv_if_ne (tgt := 44) hx hb dX9_fillUntil_26 (by decide) (fun hc => ?_) (fun hc => ?_)
    · replace hf := pw_ifn hc hf
      exact t_X9_fillUntil_44 hC hk8 hbn4 hw (lv_sub hl [1, 2, 3, 4, 5, 6, 0] rfl) hf
    · replace hf := pw_ifp hc hf
      refine lv_aload_n hx hb dX9_fillUntil_29 rfl (lv_at hl 4 rfl) ?_
      refine lv_aload hx hb dX9_fillUntil_30 (lv_at hl 5 rfl) ?_
      refine lv_iload hx hb dX9_fillUntil_32 (lv_at hl 0 rfl) ?_
      obtain ⟨r1, σ1, h1, hf⟩ := pw_bi_some hf
      refine pw_ci hw (pw_runV (As := [.ref (pw_ad G (4 * n4 + 54)), .int (σ.1 22 x5.toNatClampNeg)]) (rest := []) hC hw (c_X5_worth hbn4 h1) mw_708 wm_X5_worth ⟨Nat.zero_le _, Nat.zero_le _⟩ ⟨rfl, rfl, Nat.le_of_ble_eq_true rfl, Nat.le_of_ble_eq_true rfl⟩ (by decide) rfl rfl rfl hl.1 rfl (Nat.le_of_ble_eq_true rfl) dX9_fillUntil_34) (fun H locs hw => ?_)
      refine lv_if_eq (tgt := 44) hx hb dX9_fillUntil_37 (by decide) (fun hc => ?_) (fun hc => ?_)
      · replace hf := pw_ifp hc hf
        exact t_X9_fillUntil_44 hC hk8 hbn4 hw (lv_sub hl [1, 2, 3, 4, 5, 6, 0] rfl) hf
      · replace hf := pw_ifn hc hf
        refine lv_iconst (v := 1) hx hb dX9_fillUntil_40 (by decide) ?_
        refine lv_goto (tgt := 45) hx hb dX9_fillUntil_41 (by decide) ?_
        exact t_X9_fillUntil_45 hC hk8 hbn4 hw (lv_sub hl [1, 2, 3, 4, 5, 6, 0] rfl) hf
set_option maxHeartbeats 4000000 in
theorem tl_X9_fillUntil_8 (hC : pw_CX G RX9 cX9_fillUntil 8 (some .long) p s m args meth c) {r : Int64} {τ : pw_St} : ∀ (n : Nat) (n4 : Nat) (x5 : Int32) (σ : pw_St) (H : Heap) (locs : List Loc) (ls : Array Slot), n4 < 14 → pw_WH G σ s.heap H locs → lv_has ls 8 [(0, .ref (pw_ad G 8)), (1, .ref (pw_ad G 3)), (2, .ref (pw_ad G 30)), (3, .ref (pw_ad G 6)), (4, .ref (pw_ad G (4 * n4 + 54))), (5, .int x5)] → l_X9_fillUntil_8  n n4 x5 σ = some (r, τ) → W p l e rm_X9_fillUntil s m args below meth c H locs 0 0 (MQ below (pw_Ql G r τ) args s 0 0 (pw_gA G)) (F0 m 8 ls []) := by
  intro n
  induction n with
  | zero => intro n4 x5 σ H locs ls hbn4 hw hl hf; cases hf
  | succ n ih => intro n4 x5 σ H locs ls hbn4 hw hl hf; exact t_X9_fillUntil_8 hC ih hbn4 hw hl hf
set_option maxHeartbeats 4000000 in
set_option maxRecDepth 100000 in
theorem c_X9_fillUntil {l : Launch} {G : pw_Gh} {n4 : Nat} (hbn4 : n4 < 14) {σ : pw_St} {r : Int64} {τ : pw_St} (hf : f_X9_fillUntil n4 σ = some (r, τ)) : Met l yX9_fillUntil (.code yX9_fillUntil cX9_fillUntil 8 (some .long) :: pw_BW) rm_X9_fillUntil (pw_Pc G [.ref (pw_ad G 8), .ref (pw_ad G 3), .ref (pw_ad G 30), .ref (pw_ad G 6), .ref (pw_ad G (4 * n4 + 54))] σ) (pw_Ql G r τ) 0 0 (pw_gA G) := by
  refine pw_met (by decide +kernel) (Nat.le_of_ble_eq_true rfl) ?_
  intro p e s m args below meth c ls hC hw hl
  replace hl : lv_has ls 8 [(0, .ref (pw_ad G 8)), (1, .ref (pw_ad G 3)), (2, .ref (pw_ad G 30)), (3, .ref (pw_ad G 6)), (4, .ref (pw_ad G (4 * n4 + 54)))] := hl
  have hx := hC.1
  have hb := hC.2.1
  unfold f_X9_fillUntil at hf
  refine lv_aload_n hx hb dX9_fillUntil_0 rfl (lv_at hl 1 rfl) ?_
  refine pg_3_5 hC hw mw_160 dX9_fillUntil_1 ?_
  refine lv_iconst (v := 1) hx hb dX9_fillUntil_4 (by decide) ?_
  refine lv_isub hx hb dX9_fillUntil_5 ?_
  refine lv_istore (lv' := [(5, .int ((σ.1 3 5) - (1 : Int32))), (0, .ref (pw_ad G 8)), (1, .ref (pw_ad G 3)), (2, .ref (pw_ad G 30)), (3, .ref (pw_ad G 6)), (4, .ref (pw_ad G (4 * n4 + 54)))]) hx hb dX9_fillUntil_6 hl (by decide) rfl (fun ls hl => ?_)
  exact tl_X9_fillUntil_8 hC  pw_FU _ _ _ _ _ _ hbn4 hw (lv_sub hl [1, 2, 3, 4, 5, 0] rfl) hf
-- PerhapsWas$Ways processAt
def b_X9_processAt_70 (k12 : Int32 → Int64 → Int32 → Int32 → Int32 → pw_St → Option (Int32 × pw_St)) (x4 : Int32) (x5 : Int64) (x7 : Int32) (x8 : Int32) (x9 : Int32) (σ : pw_St) : Option (Int32 × pw_St) := (if x8 = (4 : Int32) then (some ((-1 : Int32), σ)) else (if pw_in x8 4 = true then (k12 x4 x5 (x7 + (pw_wt x8.toNatClampNeg)) x8 (x9 + (1 : Int32)) σ) else none))
def b_X9_processAt_29 (k12 : Int32 → Int64 → Int32 → Int32 → Int32 → pw_St → Option (Int32 × pw_St)) (k29 : Int32 → Int64 → Int32 → Int32 → Int32 → pw_St → Option (Int32 × pw_St)) (x4 : Int32) (x5 : Int64) (x7 : Int32) (x8 : Int32) (x9 : Int32) (σ : pw_St) : Option (Int32 × pw_St) := (if (4 : Int32) ≤ x8 then (b_X9_processAt_70 k12 x4 x5 x7 x8 x9 σ) else (pw_bl (f_X9_over x7 x8 σ) fun r1 σ1 => (if (lg_cmp x5 r1) < 0 then (b_X9_processAt_70 k12 x4 x5 x7 x8 x9 σ1) else (pw_bl (f_X9_over x7 x8 σ1) fun r2 σ2 => (k29 x4 (x5 - r2) x7 (x8 + (1 : Int32)) x9 σ2)))))
def l_X9_processAt_29 (k12 : Int32 → Int64 → Int32 → Int32 → Int32 → pw_St → Option (Int32 × pw_St)) : Nat → Int32 → Int64 → Int32 → Int32 → Int32 → pw_St → Option (Int32 × pw_St)
  | 0 => fun _ _ _ _ _ _ => none
  | n + 1 => fun x4 x5 x7 x8 x9 σ => b_X9_processAt_29 k12 (l_X9_processAt_29 k12 n) x4 x5 x7 x8 x9 σ
def b_X9_processAt_12 (k12 : Int32 → Int64 → Int32 → Int32 → Int32 → pw_St → Option (Int32 × pw_St)) (x4 : Int32) (x5 : Int64) (x7 : Int32) (x8 : Int32) (x9 : Int32) (σ : pw_St) : Option (Int32 × pw_St) := (if x4 < x9 then (some (x8, σ)) else (if (24 : Int32) ≤ x9 then (some (x8, σ)) else (l_X9_processAt_29 k12 pw_FU x4 x5 x7 (0 : Int32) x9 σ)))
def l_X9_processAt_12 : Nat → Int32 → Int64 → Int32 → Int32 → Int32 → pw_St → Option (Int32 × pw_St)
  | 0 => fun _ _ _ _ _ _ => none
  | n + 1 => fun x4 x5 x7 x8 x9 σ => b_X9_processAt_12  (l_X9_processAt_12  n) x4 x5 x7 x8 x9 σ
def f_X9_processAt (x2 : Int64) (x4 : Int32) (σ : pw_St) : Option (Int32 × pw_St) := (l_X9_processAt_12  pw_FU x4 x2 (0 : Int32) (-1 : Int32) (0 : Int32) σ)
def rm_X9_processAt : Room := { frames := 3, cells := 0, slots := 0, locals := 70 }
set_option maxHeartbeats 4000000 in
set_option maxRecDepth 100000 in
theorem t_X9_processAt_70 (hC : pw_CX G RX9 cX9_processAt 10 (some .int) p s m args meth c) {k12 : Int32 → Int64 → Int32 → Int32 → Int32 → pw_St → Option (Int32 × pw_St)} {r : Int32} {τ : pw_St} (hk12 : ∀ (x4 : Int32), ∀ (x5 : Int64), ∀ (x7 : Int32), ∀ (x8 : Int32), ∀ (x9 : Int32), ∀ (σ : pw_St) (H : Heap) (locs : List Loc) (ls : Array Slot), pw_WH G σ s.heap H locs → lv_has ls 10 [(0, .ref (pw_ad G 8)), (1, .ref (pw_ad G 3)), (4, .int x4), (5, .long x5), (7, .int x7), (8, .int x8), (9, .int x9)] → k12 x4 x5 x7 x8 x9 σ = some (r, τ) → W p l e rm_X9_processAt s m args below meth c H locs 0 0 (MQ below (pw_Qi G r τ) args s 0 0 (pw_gA G)) (F0 m 12 ls [])) {x4 : Int32} {x5 : Int64} {x7 : Int32} {x8 : Int32} {x9 : Int32} {σ : pw_St} {H : Heap} {locs : List Loc} {ls : Array Slot} (hw : pw_WH G σ s.heap H locs) (hl : lv_has ls 10 [(0, .ref (pw_ad G 8)), (1, .ref (pw_ad G 3)), (4, .int x4), (5, .long x5), (7, .int x7), (8, .int x8), (9, .int x9)]) (hf : b_X9_processAt_70 k12 x4 x5 x7 x8 x9 σ = some (r, τ)) : W p l e rm_X9_processAt s m args below meth c H locs 0 0 (MQ below (pw_Qi G r τ) args s 0 0 (pw_gA G)) (F0 m 70 ls []) := by
  have hx := hC.1
  have hb := hC.2.1
  unfold b_X9_processAt_70 at hf
  refine lv_iload hx hb dX9_processAt_70 (lv_at hl 5 rfl) ?_
  refine lv_iconst (v := 4) hx hb dX9_processAt_72 (by decide) ?_
  refine lv_icmp_ne (tgt := 78) hx hb dX9_processAt_73 (by decide) (fun hc => ?_) (fun hc => ?_)
  · replace hf := pw_ifn hc hf
    refine lv_iload hx hb dX9_processAt_78 (lv_at hl 4 rfl) ?_
    refine pw_wget hC hw hC.2.2.2.2.2.1.2.2.2.2.2.2 dX9_processAt_80 ?_
    refine lv_iload hx hb dX9_processAt_83 (lv_at hl 5 rfl) ?_
    obtain ⟨hin, hf⟩ := pw_gd hf
    refine pw_wld hC hw hin dX9_processAt_85 ?_
    refine lv_iadd hx hb dX9_processAt_86 ?_
    refine lv_istore (lv' := [(7, .int (x7 + (pw_wt x8.toNatClampNeg))), (0, .ref (pw_ad G 8)), (1, .ref (pw_ad G 3)), (4, .int x4), (5, .long x5), (8, .int x8), (9, .int x9)]) hx hb dX9_processAt_87 hl (by decide) rfl (fun ls hl => ?_)
    refine lv_iinc (v := (x9 + (1 : Int32))) (lv' := [(9, .int (x9 + (1 : Int32))), (7, .int (x7 + (pw_wt x8.toNatClampNeg))), (0, .ref (pw_ad G 8)), (1, .ref (pw_ad G 3)), (4, .int x4), (5, .long x5), (8, .int x8)]) hx hb dX9_processAt_89 hl (k := 6) rfl rfl (by decide) rfl (fun ls hl => ?_)
    refine lv_goto (tgt := 12) hx hb dX9_processAt_92 (by decide) ?_
    exact hk12 _ _ _ _ _ _ _ _ _ hw (lv_sub hl [2, 3, 4, 5, 1, 6, 0] rfl) hf
  · replace hf := pw_ifp hc hf
    refine lv_iconst (v := -1) hx hb dX9_processAt_76 (by decide) ?_
    exact pw_iret hC hw hf dX9_processAt_77
set_option maxHeartbeats 4000000 in
set_option maxRecDepth 100000 in
theorem t_X9_processAt_29 (hC : pw_CX G RX9 cX9_processAt 10 (some .int) p s m args meth c) {k12 : Int32 → Int64 → Int32 → Int32 → Int32 → pw_St → Option (Int32 × pw_St)} {k29 : Int32 → Int64 → Int32 → Int32 → Int32 → pw_St → Option (Int32 × pw_St)} {r : Int32} {τ : pw_St} (hk12 : ∀ (x4 : Int32), ∀ (x5 : Int64), ∀ (x7 : Int32), ∀ (x8 : Int32), ∀ (x9 : Int32), ∀ (σ : pw_St) (H : Heap) (locs : List Loc) (ls : Array Slot), pw_WH G σ s.heap H locs → lv_has ls 10 [(0, .ref (pw_ad G 8)), (1, .ref (pw_ad G 3)), (4, .int x4), (5, .long x5), (7, .int x7), (8, .int x8), (9, .int x9)] → k12 x4 x5 x7 x8 x9 σ = some (r, τ) → W p l e rm_X9_processAt s m args below meth c H locs 0 0 (MQ below (pw_Qi G r τ) args s 0 0 (pw_gA G)) (F0 m 12 ls [])) (hk29 : ∀ (x4 : Int32), ∀ (x5 : Int64), ∀ (x7 : Int32), ∀ (x8 : Int32), ∀ (x9 : Int32), ∀ (σ : pw_St) (H : Heap) (locs : List Loc) (ls : Array Slot), pw_WH G σ s.heap H locs → lv_has ls 10 [(0, .ref (pw_ad G 8)), (1, .ref (pw_ad G 3)), (4, .int x4), (5, .long x5), (7, .int x7), (8, .int x8), (9, .int x9)] → k29 x4 x5 x7 x8 x9 σ = some (r, τ) → W p l e rm_X9_processAt s m args below meth c H locs 0 0 (MQ below (pw_Qi G r τ) args s 0 0 (pw_gA G)) (F0 m 29 ls [])) {x4 : Int32} {x5 : Int64} {x7 : Int32} {x8 : Int32} {x9 : Int32} {σ : pw_St} {H : Heap} {locs : List Loc} {ls : Array Slot} (hw : pw_WH G σ s.heap H locs) (hl : lv_has ls 10 [(0, .ref (pw_ad G 8)), (1, .ref (pw_ad G 3)), (4, .int x4), (5, .long x5), (7, .int x7), (8, .int x8), (9, .int x9)]) (hf : b_X9_processAt_29 k12 k29 x4 x5 x7 x8 x9 σ = some (r, τ)) : W p l e rm_X9_processAt s m args below meth c H locs 0 0 (MQ below (pw_Qi G r τ) args s 0 0 (pw_gA G)) (F0 m 29 ls []) := by
  have hx := hC.1
  have hb := hC.2.1
  unfold b_X9_processAt_29 at hf
  refine lv_iload hx hb dX9_processAt_29 (lv_at hl 5 rfl) ?_
  refine lv_iconst (v := 4) hx hb dX9_processAt_31 (by decide) ?_
  refine lv_icmp_ge (tgt := 70) hx hb dX9_processAt_32 (by decide) (fun hc => ?_) (fun hc => ?_)
  · replace hf := pw_ifp hc hf
    exact t_X9_processAt_70 hC hk12  hw (lv_sub hl [0, 1, 2, 3, 4, 5, 6] rfl) hf
  · replace hf := pw_ifn hc hf
    refine lv_lload hx hb dX9_processAt_35 (lv_at hl 3 rfl) ?_
    refine lv_aload_n hx hb dX9_processAt_37 rfl (lv_at hl 0 rfl) ?_
    refine lv_aload_n hx hb dX9_processAt_38 rfl (lv_at hl 1 rfl) ?_
    refine lv_iload hx hb dX9_processAt_39 (lv_at hl 4 rfl) ?_
    refine lv_iload hx hb dX9_processAt_41 (lv_at hl 5 rfl) ?_
    obtain ⟨r1, σ1, h1, hf⟩ := pw_bl_some hf
    refine pw_cl hw (pw_runV (As := [.ref (pw_ad G 3), .int x7, .int x8]) (rest := [.long x5]) hC hw (c_X9_over  h1) mw_526 wm_X9_over ⟨Nat.zero_le _, Nat.zero_le _⟩ ⟨rfl, rfl, Nat.le_of_ble_eq_true rfl, Nat.le_of_ble_eq_true rfl⟩ (by decide) rfl rfl rfl hl.1 rfl (Nat.le_of_ble_eq_true rfl) dX9_processAt_43) (fun H locs hw => ?_)
    refine W.lcmp hx hb dX9_processAt_46 ?_
    refine lv_if_lt (tgt := 70) hx hb dX9_processAt_47 (by decide) (fun hc => ?_) (fun hc => ?_)
    · replace hf := pw_ifp hc hf
      exact t_X9_processAt_70 hC hk12  hw (lv_sub hl [0, 1, 2, 3, 4, 5, 6] rfl) hf
    · replace hf := pw_ifn hc hf
      refine lv_lload hx hb dX9_processAt_50 (lv_at hl 3 rfl) ?_
      refine lv_aload_n hx hb dX9_processAt_52 rfl (lv_at hl 0 rfl) ?_
      refine lv_aload_n hx hb dX9_processAt_53 rfl (lv_at hl 1 rfl) ?_
      refine lv_iload hx hb dX9_processAt_54 (lv_at hl 4 rfl) ?_
      refine lv_iload hx hb dX9_processAt_56 (lv_at hl 5 rfl) ?_
      obtain ⟨r2, σ2, h2, hf⟩ := pw_bl_some hf
      refine pw_cl hw (pw_runV (As := [.ref (pw_ad G 3), .int x7, .int x8]) (rest := [.long x5]) hC hw (c_X9_over  h2) mw_526 wm_X9_over ⟨Nat.zero_le _, Nat.zero_le _⟩ ⟨rfl, rfl, Nat.le_of_ble_eq_true rfl, Nat.le_of_ble_eq_true rfl⟩ (by decide) rfl rfl rfl hl.1 rfl (Nat.le_of_ble_eq_true rfl) dX9_processAt_58) (fun H locs hw => ?_)
      refine lv_lsub hx hb dX9_processAt_61 ?_
      refine lv_lstore (lv' := [(5, .long (x5 - r2)), (0, .ref (pw_ad G 8)), (1, .ref (pw_ad G 3)), (4, .int x4), (7, .int x7), (8, .int x8), (9, .int x9)]) hx hb dX9_processAt_62 hl (by decide) rfl (fun ls hl => ?_)
      refine lv_iinc (v := (x8 + (1 : Int32))) (lv' := [(8, .int (x8 + (1 : Int32))), (5, .long (x5 - r2)), (0, .ref (pw_ad G 8)), (1, .ref (pw_ad G 3)), (4, .int x4), (7, .int x7), (9, .int x9)]) hx hb dX9_processAt_64 hl (k := 5) rfl rfl (by decide) rfl (fun ls hl => ?_)
      refine lv_goto (tgt := 29) hx hb dX9_processAt_67 (by decide) ?_
      exact hk29 _ _ _ _ _ _ _ _ _ hw (lv_sub hl [2, 3, 4, 1, 5, 0, 6] rfl) hf
set_option maxHeartbeats 4000000 in
theorem tl_X9_processAt_29 (hC : pw_CX G RX9 cX9_processAt 10 (some .int) p s m args meth c) {k12 : Int32 → Int64 → Int32 → Int32 → Int32 → pw_St → Option (Int32 × pw_St)} {r : Int32} {τ : pw_St} (hk12 : ∀ (x4 : Int32), ∀ (x5 : Int64), ∀ (x7 : Int32), ∀ (x8 : Int32), ∀ (x9 : Int32), ∀ (σ : pw_St) (H : Heap) (locs : List Loc) (ls : Array Slot), pw_WH G σ s.heap H locs → lv_has ls 10 [(0, .ref (pw_ad G 8)), (1, .ref (pw_ad G 3)), (4, .int x4), (5, .long x5), (7, .int x7), (8, .int x8), (9, .int x9)] → k12 x4 x5 x7 x8 x9 σ = some (r, τ) → W p l e rm_X9_processAt s m args below meth c H locs 0 0 (MQ below (pw_Qi G r τ) args s 0 0 (pw_gA G)) (F0 m 12 ls [])) : ∀ (n : Nat) (x4 : Int32) (x5 : Int64) (x7 : Int32) (x8 : Int32) (x9 : Int32) (σ : pw_St) (H : Heap) (locs : List Loc) (ls : Array Slot), pw_WH G σ s.heap H locs → lv_has ls 10 [(0, .ref (pw_ad G 8)), (1, .ref (pw_ad G 3)), (4, .int x4), (5, .long x5), (7, .int x7), (8, .int x8), (9, .int x9)] → l_X9_processAt_29 k12 n x4 x5 x7 x8 x9 σ = some (r, τ) → W p l e rm_X9_processAt s m args below meth c H locs 0 0 (MQ below (pw_Qi G r τ) args s 0 0 (pw_gA G)) (F0 m 29 ls []) := by
  intro n
  induction n with
  | zero => intro x4 x5 x7 x8 x9 σ H locs ls hw hl hf; cases hf
  | succ n ih => intro x4 x5 x7 x8 x9 σ H locs ls hw hl hf; exact t_X9_processAt_29 hC hk12 ih  hw hl hf
set_option maxHeartbeats 4000000 in
set_option maxRecDepth 100000 in
theorem t_X9_processAt_12 (hC : pw_CX G RX9 cX9_processAt 10 (some .int) p s m args meth c) {k12 : Int32 → Int64 → Int32 → Int32 → Int32 → pw_St → Option (Int32 × pw_St)} {r : Int32} {τ : pw_St} (hk12 : ∀ (x4 : Int32), ∀ (x5 : Int64), ∀ (x7 : Int32), ∀ (x8 : Int32), ∀ (x9 : Int32), ∀ (σ : pw_St) (H : Heap) (locs : List Loc) (ls : Array Slot), pw_WH G σ s.heap H locs → lv_has ls 10 [(0, .ref (pw_ad G 8)), (1, .ref (pw_ad G 3)), (4, .int x4), (5, .long x5), (7, .int x7), (8, .int x8), (9, .int x9)] → k12 x4 x5 x7 x8 x9 σ = some (r, τ) → W p l e rm_X9_processAt s m args below meth c H locs 0 0 (MQ below (pw_Qi G r τ) args s 0 0 (pw_gA G)) (F0 m 12 ls [])) {x4 : Int32} {x5 : Int64} {x7 : Int32} {x8 : Int32} {x9 : Int32} {σ : pw_St} {H : Heap} {locs : List Loc} {ls : Array Slot} (hw : pw_WH G σ s.heap H locs) (hl : lv_has ls 10 [(0, .ref (pw_ad G 8)), (1, .ref (pw_ad G 3)), (4, .int x4), (5, .long x5), (7, .int x7), (8, .int x8), (9, .int x9)]) (hf : b_X9_processAt_12 k12 x4 x5 x7 x8 x9 σ = some (r, τ)) : W p l e rm_X9_processAt s m args below meth c H locs 0 0 (MQ below (pw_Qi G r τ) args s 0 0 (pw_gA G)) (F0 m 12 ls []) := by
  have hx := hC.1
  have hb := hC.2.1
  unfold b_X9_processAt_12 at hf
  refine lv_iload hx hb dX9_processAt_12 (lv_at hl 6 rfl) ?_
  refine lv_iload hx hb dX9_processAt_14 (lv_at hl 2 rfl) ?_
  refine lv_icmp_gt (tgt := 95) hx hb dX9_processAt_16 (by decide) (fun hc => ?_) (fun hc => ?_)
  · replace hf := pw_ifp hc hf
    refine lv_iload hx hb dX9_processAt_95 (lv_at hl 5 rfl) ?_
    exact pw_iret hC hw hf dX9_processAt_97
  · replace hf := pw_ifn hc hf
    refine lv_iload hx hb dX9_processAt_19 (lv_at hl 6 rfl) ?_
    refine lv_bipush (v := 24) hx hb dX9_processAt_21 (by decide) ?_
    refine lv_icmp_ge (tgt := 95) hx hb dX9_processAt_23 (by decide) (fun hc => ?_) (fun hc => ?_)
    · replace hf := pw_ifp hc hf
      refine lv_iload hx hb dX9_processAt_95 (lv_at hl 5 rfl) ?_
      exact pw_iret hC hw hf dX9_processAt_97
    · replace hf := pw_ifn hc hf
      refine lv_iconst (v := 0) hx hb dX9_processAt_26 (by decide) ?_
      refine lv_istore (lv' := [(8, .int (0 : Int32)), (0, .ref (pw_ad G 8)), (1, .ref (pw_ad G 3)), (4, .int x4), (5, .long x5), (7, .int x7), (9, .int x9)]) hx hb dX9_processAt_27 hl (by decide) rfl (fun ls hl => ?_)
      exact tl_X9_processAt_29 hC hk12 pw_FU _ _ _ _ _ _ _ _ _ hw (lv_sub hl [1, 2, 3, 4, 5, 0, 6] rfl) hf
set_option maxHeartbeats 4000000 in
theorem tl_X9_processAt_12 (hC : pw_CX G RX9 cX9_processAt 10 (some .int) p s m args meth c) {r : Int32} {τ : pw_St} : ∀ (n : Nat) (x4 : Int32) (x5 : Int64) (x7 : Int32) (x8 : Int32) (x9 : Int32) (σ : pw_St) (H : Heap) (locs : List Loc) (ls : Array Slot), pw_WH G σ s.heap H locs → lv_has ls 10 [(0, .ref (pw_ad G 8)), (1, .ref (pw_ad G 3)), (4, .int x4), (5, .long x5), (7, .int x7), (8, .int x8), (9, .int x9)] → l_X9_processAt_12  n x4 x5 x7 x8 x9 σ = some (r, τ) → W p l e rm_X9_processAt s m args below meth c H locs 0 0 (MQ below (pw_Qi G r τ) args s 0 0 (pw_gA G)) (F0 m 12 ls []) := by
  intro n
  induction n with
  | zero => intro x4 x5 x7 x8 x9 σ H locs ls hw hl hf; cases hf
  | succ n ih => intro x4 x5 x7 x8 x9 σ H locs ls hw hl hf; exact t_X9_processAt_12 hC ih  hw hl hf
set_option maxHeartbeats 4000000 in
set_option maxRecDepth 100000 in
theorem c_X9_processAt {l : Launch} {G : pw_Gh} {x2 : Int64} {x4 : Int32} {σ : pw_St} {r : Int32} {τ : pw_St} (hf : f_X9_processAt x2 x4 σ = some (r, τ)) : Met l yX9_processAt (.code yX9_processAt cX9_processAt 10 (some .int) :: pw_BW) rm_X9_processAt (pw_Pc G [.ref (pw_ad G 8), .ref (pw_ad G 3), .long x2, .int x4] σ) (pw_Qi G r τ) 0 0 (pw_gA G) := by
  refine pw_met (by decide +kernel) (Nat.le_of_ble_eq_true rfl) ?_
  intro p e s m args below meth c ls hC hw hl
  replace hl : lv_has ls 10 [(0, .ref (pw_ad G 8)), (1, .ref (pw_ad G 3)), (2, .long x2), (4, .int x4)] := hl
  have hx := hC.1
  have hb := hC.2.1
  unfold f_X9_processAt at hf
  refine lv_lload_n hx hb dX9_processAt_0 rfl (lv_at hl 2 rfl) ?_
  refine lv_lstore (lv' := [(5, .long x2), (0, .ref (pw_ad G 8)), (1, .ref (pw_ad G 3)), (2, .long x2), (4, .int x4)]) hx hb dX9_processAt_1 hl (by decide) rfl (fun ls hl => ?_)
  refine lv_iconst (v := 0) hx hb dX9_processAt_3 (by decide) ?_
  refine lv_istore (lv' := [(7, .int (0 : Int32)), (5, .long x2), (0, .ref (pw_ad G 8)), (1, .ref (pw_ad G 3)), (2, .long x2), (4, .int x4)]) hx hb dX9_processAt_4 hl (by decide) rfl (fun ls hl => ?_)
  refine lv_iconst (v := -1) hx hb dX9_processAt_6 (by decide) ?_
  refine lv_istore (lv' := [(8, .int (-1 : Int32)), (7, .int (0 : Int32)), (5, .long x2), (0, .ref (pw_ad G 8)), (1, .ref (pw_ad G 3)), (2, .long x2), (4, .int x4)]) hx hb dX9_processAt_7 hl (by decide) rfl (fun ls hl => ?_)
  refine lv_iconst (v := 0) hx hb dX9_processAt_9 (by decide) ?_
  refine lv_istore (lv' := [(9, .int (0 : Int32)), (8, .int (-1 : Int32)), (7, .int (0 : Int32)), (5, .long x2), (0, .ref (pw_ad G 8)), (1, .ref (pw_ad G 3)), (2, .long x2), (4, .int x4)]) hx hb dX9_processAt_10 hl (by decide) rfl (fun ls hl => ?_)
  exact tl_X9_processAt_12 hC  pw_FU _ _ _ _ _ _ _ _ _ hw (lv_sub hl [4, 5, 7, 3, 2, 1, 0] rfl) hf
-- PerhapsWas process
def f_X10_process (σ : pw_St) : Option (Int32 × pw_St) := (if (σ.1 1 8) < (4 : Int32) then (pw_lt (pw_sM σ 1 8 ((σ.1 1 8) + (1 : Int32))) fun σ1 => (some (((σ1.1 1 8) - (1 : Int32)), σ1))) else (some ((-4 : Int32), σ)))
def rm_X10_process : Room := { frames := 0, cells := 0, slots := 0, locals := 0 }
set_option maxHeartbeats 4000000 in
set_option maxRecDepth 100000 in
theorem c_X10_process {l : Launch} {G : pw_Gh} {σ : pw_St} {r : Int32} {τ : pw_St} (hf : f_X10_process σ = some (r, τ)) : Met l yX10_process (.code yX10_process cX10_process 1 (some .int) :: pw_BW) rm_X10_process (pw_Pc G [.ref (pw_ad G 0)] σ) (pw_Qi G r τ) 0 0 (pw_gA G) := by
  refine pw_met (by decide +kernel) (Nat.le_of_ble_eq_true rfl) ?_
  intro p e s m args below meth c ls hC hw hl
  replace hl : lv_has ls 1 [(0, .ref (pw_ad G 0))] := hl
  have hx := hC.1
  have hb := hC.2.1
  unfold f_X10_process at hf
  refine lv_aload_n hx hb dX10_process_0 rfl (lv_at hl 0 rfl) ?_
  refine pg_0_0 hC hw mw_301 dX10_process_1 ?_
  refine pg_1_8 hC hw mw_116 dX10_process_4 ?_
  refine lv_iconst (v := 4) hx hb dX10_process_7 (by decide) ?_
  refine lv_icmp_lt (tgt := 14) hx hb dX10_process_8 (by decide) (fun hc => ?_) (fun hc => ?_)
  · replace hf := pw_ifp hc hf
    refine lv_aload_n hx hb dX10_process_14 rfl (lv_at hl 0 rfl) ?_
    refine pg_0_0 hC hw mw_301 dX10_process_15 ?_
    refine lv_dup hx hb dX10_process_18 rfl ?_
    refine pg_1_8 hC hw mw_116 dX10_process_19 ?_
    refine lv_iconst (v := 1) hx hb dX10_process_22 (by decide) ?_
    refine lv_iadd hx hb dX10_process_23 ?_
    refine pp_1_8 hC hw mw_116 dX10_process_24 (fun H locs hw => ?_)
    obtain ⟨σ1, e1, hf⟩ := pw_lts hf
    replace hw := pw_WHe e1 hw
    refine lv_aload_n hx hb dX10_process_27 rfl (lv_at hl 0 rfl) ?_
    refine pg_0_0 hC hw mw_301 dX10_process_28 ?_
    refine pg_1_8 hC hw mw_116 dX10_process_31 ?_
    refine lv_iconst (v := 1) hx hb dX10_process_34 (by decide) ?_
    refine lv_isub hx hb dX10_process_35 ?_
    exact pw_iret hC hw hf dX10_process_36
  · replace hf := pw_ifn hc hf
    refine lv_bipush (v := -4) hx hb dX10_process_11 (by decide) ?_
    exact pw_iret hC hw hf dX10_process_13
-- PerhapsWas own
def b_X10_own_68 (y0 : Int32) (y1 : Int32) (y2 : Int32) (y3 : Int32) (σ : pw_St) : Option (Int32 × pw_St) := (pw_bi (f_X2_change y3 y2 y1 y0 σ) fun r1 σ1 => (some (r1, σ1)))
def b_X10_own_36 (x1 : Int32) (x2 : Int32) (x3 : Int32) (x4 : Int32) (σ : pw_St) : Option (Int32 × pw_St) := (pw_bi (f_X2_isFull x1 σ) fun r1 σ1 => (if r1 = 0 then (if x4 = (1 : Int32) then (b_X10_own_68  (1 : Int32) x3 x2 x1 σ1) else (b_X10_own_68  (0 : Int32) x3 x2 x1 σ1)) else (some ((-4 : Int32), σ1))))
def f_X10_own (x1 : Int32) (x2 : Int32) (x3 : Int32) (x4 : Int32) (σ : pw_St) : Option (Int32 × pw_St) := (pw_bi (f_X2_hasProcess x1 σ) fun r1 σ1 => (if r1 = 0 then (some ((-1 : Int32), σ1)) else (if x2 < 0 then (some ((-1 : Int32), σ1)) else (if x2 < (3 : Int32) then (if x4 = 0 then (b_X10_own_36  x1 x2 x3 x4 σ1) else (if x4 = (1 : Int32) then (b_X10_own_36  x1 x2 x3 x4 σ1) else (some ((-2 : Int32), σ1)))) else (some ((-1 : Int32), σ1))))))
def rm_X10_own : Room := { frames := 3, cells := 0, slots := 0, locals := 75 }
set_option maxHeartbeats 4000000 in
set_option maxRecDepth 100000 in
theorem t_X10_own_68 (hC : pw_CX G RX10 cX10_own 5 (some .int) p s m args meth c) {r : Int32} {τ : pw_St} {y0 : Int32} {y1 : Int32} {y2 : Int32} {y3 : Int32} {σ : pw_St} {H : Heap} {locs : List Loc} {ls : Array Slot} (hw : pw_WH G σ s.heap H locs) (hl : lv_has ls 5 []) (hf : b_X10_own_68 y0 y1 y2 y3 σ = some (r, τ)) : W p l e rm_X10_own s m args below meth c H locs 0 0 (MQ below (pw_Qi G r τ) args s 0 0 (pw_gA G)) (F0 m 68 ls [.int y0, .int y1, .int y2, .int y3, .ref (pw_ad G 1)]) := by
  have hx := hC.1
  have hb := hC.2.1
  unfold b_X10_own_68 at hf
  obtain ⟨r1, σ1, h1, hf⟩ := pw_bi_some hf
  refine pw_ci hw (pw_runV (As := [.int y3, .int y2, .int y1, .int y0]) (rest := []) hC hw (c_X2_change  h1) mw_345 wm_X2_change ⟨Nat.zero_le _, Nat.zero_le _⟩ ⟨rfl, rfl, Nat.le_of_ble_eq_true rfl, Nat.le_of_ble_eq_true rfl⟩ (by decide) rfl rfl rfl hl.1 rfl (Nat.le_of_ble_eq_true rfl) dX10_own_68) (fun H locs hw => ?_)
  exact pw_iret hC hw hf dX10_own_71
set_option maxHeartbeats 4000000 in
set_option maxRecDepth 100000 in
theorem t_X10_own_36 (hC : pw_CX G RX10 cX10_own 5 (some .int) p s m args meth c) {r : Int32} {τ : pw_St} {x1 : Int32} {x2 : Int32} {x3 : Int32} {x4 : Int32} {σ : pw_St} {H : Heap} {locs : List Loc} {ls : Array Slot} (hw : pw_WH G σ s.heap H locs) (hl : lv_has ls 5 [(0, .ref (pw_ad G 0)), (1, .int x1), (2, .int x2), (3, .int x3), (4, .int x4)]) (hf : b_X10_own_36 x1 x2 x3 x4 σ = some (r, τ)) : W p l e rm_X10_own s m args below meth c H locs 0 0 (MQ below (pw_Qi G r τ) args s 0 0 (pw_gA G)) (F0 m 36 ls []) := by
  have hx := hC.1
  have hb := hC.2.1
  unfold b_X10_own_36 at hf
  refine lv_aload_n hx hb dX10_own_36 rfl (lv_at hl 0 rfl) ?_
  refine pg_0_0 hC hw mw_301 dX10_own_37 ?_
  refine lv_iload_n hx hb dX10_own_40 rfl (lv_at hl 1 rfl) ?_
  obtain ⟨r1, σ1, h1, hf⟩ := pw_bi_some hf
  refine pw_ci hw (pw_runV (As := [.int x1]) (rest := []) hC hw (c_X2_isFull  h1) mw_341 wm_X2_isFull ⟨Nat.zero_le _, Nat.zero_le _⟩ ⟨rfl, rfl, Nat.le_of_ble_eq_true rfl, Nat.le_of_ble_eq_true rfl⟩ (by decide) rfl rfl rfl hl.1 rfl (Nat.le_of_ble_eq_true rfl) dX10_own_41) (fun H locs hw => ?_)
  refine lv_if_eq (tgt := 50) hx hb dX10_own_44 (by decide) (fun hc => ?_) (fun hc => ?_)
  · replace hf := pw_ifp hc hf
    refine lv_aload_n hx hb dX10_own_50 rfl (lv_at hl 0 rfl) ?_
    refine pg_0_0 hC hw mw_301 dX10_own_51 ?_
    refine lv_iload_n hx hb dX10_own_54 rfl (lv_at hl 1 rfl) ?_
    refine lv_iload_n hx hb dX10_own_55 rfl (lv_at hl 2 rfl) ?_
    refine lv_iload_n hx hb dX10_own_56 rfl (lv_at hl 3 rfl) ?_
    refine lv_iload hx hb dX10_own_57 (lv_at hl 4 rfl) ?_
    refine lv_iconst (v := 1) hx hb dX10_own_59 (by decide) ?_
    refine lv_icmp_ne (tgt := 67) hx hb dX10_own_60 (by decide) (fun hc => ?_) (fun hc => ?_)
    · replace hf := pw_ifn hc hf
      refine lv_iconst (v := 0) hx hb dX10_own_67 (by decide) ?_
      exact t_X10_own_68 hC   hw (lv_sub hl [] rfl) hf
    · replace hf := pw_ifp hc hf
      refine lv_iconst (v := 1) hx hb dX10_own_63 (by decide) ?_
      refine lv_goto (tgt := 68) hx hb dX10_own_64 (by decide) ?_
      exact t_X10_own_68 hC   hw (lv_sub hl [] rfl) hf
  · replace hf := pw_ifn hc hf
    refine lv_bipush (v := -4) hx hb dX10_own_47 (by decide) ?_
    exact pw_iret hC hw hf dX10_own_49
set_option maxHeartbeats 4000000 in
set_option maxRecDepth 100000 in
theorem c_X10_own {l : Launch} {G : pw_Gh} {x1 : Int32} {x2 : Int32} {x3 : Int32} {x4 : Int32} {σ : pw_St} {r : Int32} {τ : pw_St} (hf : f_X10_own x1 x2 x3 x4 σ = some (r, τ)) : Met l yX10_own (.code yX10_own cX10_own 5 (some .int) :: pw_BW) rm_X10_own (pw_Pc G [.ref (pw_ad G 0), .int x1, .int x2, .int x3, .int x4] σ) (pw_Qi G r τ) 0 0 (pw_gA G) := by
  refine pw_met (by decide +kernel) (Nat.le_of_ble_eq_true rfl) ?_
  intro p e s m args below meth c ls hC hw hl
  replace hl : lv_has ls 5 [(0, .ref (pw_ad G 0)), (1, .int x1), (2, .int x2), (3, .int x3), (4, .int x4)] := hl
  have hx := hC.1
  have hb := hC.2.1
  unfold f_X10_own at hf
  refine lv_aload_n hx hb dX10_own_0 rfl (lv_at hl 0 rfl) ?_
  refine pg_0_0 hC hw mw_301 dX10_own_1 ?_
  refine lv_iload_n hx hb dX10_own_4 rfl (lv_at hl 1 rfl) ?_
  obtain ⟨r1, σ1, h1, hf⟩ := pw_bi_some hf
  refine pw_ci hw (pw_runV (As := [.int x1]) (rest := []) hC hw (c_X2_hasProcess  h1) mw_337 wm_X2_hasProcess ⟨Nat.zero_le _, Nat.zero_le _⟩ ⟨rfl, rfl, Nat.le_of_ble_eq_true rfl, Nat.le_of_ble_eq_true rfl⟩ (by decide) rfl rfl rfl hl.1 rfl (Nat.le_of_ble_eq_true rfl) dX10_own_5) (fun H locs hw => ?_)
  refine lv_if_eq (tgt := 20) hx hb dX10_own_8 (by decide) (fun hc => ?_) (fun hc => ?_)
  · replace hf := pw_ifp hc hf
    refine lv_iconst (v := -1) hx hb dX10_own_20 (by decide) ?_
    exact pw_iret hC hw hf dX10_own_21
  · replace hf := pw_ifn hc hf
    refine lv_iload_n hx hb dX10_own_11 rfl (lv_at hl 2 rfl) ?_
    refine lv_if_lt (tgt := 20) hx hb dX10_own_12 (by decide) (fun hc => ?_) (fun hc => ?_)
    · replace hf := pw_ifp hc hf
      refine lv_iconst (v := -1) hx hb dX10_own_20 (by decide) ?_
      exact pw_iret hC hw hf dX10_own_21
    · replace hf := pw_ifn hc hf
      refine lv_iload_n hx hb dX10_own_15 rfl (lv_at hl 2 rfl) ?_
      refine lv_iconst (v := 3) hx hb dX10_own_16 (by decide) ?_
      refine lv_icmp_lt (tgt := 22) hx hb dX10_own_17 (by decide) (fun hc => ?_) (fun hc => ?_)
      · replace hf := pw_ifp hc hf
        refine lv_iload hx hb dX10_own_22 (lv_at hl 4 rfl) ?_
        refine lv_if_eq (tgt := 36) hx hb dX10_own_24 (by decide) (fun hc => ?_) (fun hc => ?_)
        · replace hf := pw_ifp hc hf
          exact t_X10_own_36 hC   hw (lv_sub hl [0, 1, 2, 3, 4] rfl) hf
        · replace hf := pw_ifn hc hf
          refine lv_iload hx hb dX10_own_27 (lv_at hl 4 rfl) ?_
          refine lv_iconst (v := 1) hx hb dX10_own_29 (by decide) ?_
          refine lv_icmp_eq (tgt := 36) hx hb dX10_own_30 (by decide) (fun hc => ?_) (fun hc => ?_)
          · replace hf := pw_ifp hc hf
            exact t_X10_own_36 hC   hw (lv_sub hl [0, 1, 2, 3, 4] rfl) hf
          · replace hf := pw_ifn hc hf
            refine lv_bipush (v := -2) hx hb dX10_own_33 (by decide) ?_
            exact pw_iret hC hw hf dX10_own_35
      · replace hf := pw_ifn hc hf
        refine lv_iconst (v := -1) hx hb dX10_own_20 (by decide) ?_
        exact pw_iret hC hw hf dX10_own_21
-- PerhapsWas refusalOfPair
def f_X10_refusalOfPair (x1 : Int32) (x2 : Int32) (σ : pw_St) : Option (Int32 × pw_St) := (pw_bi (f_X2_hasProcess x1 σ) fun r1 σ1 => (if r1 = 0 then (some ((-1 : Int32), σ1)) else (pw_bi (f_X2_hasProcess x2 σ1) fun r2 σ2 => (if r2 = 0 then (some ((-1 : Int32), σ2)) else (if x1 = x2 then (some ((-2 : Int32), σ2)) else (pw_bi (f_X2_isFull x1 σ2) fun r3 σ3 => (if r3 = 0 then (some ((0 : Int32), σ3)) else (some ((-4 : Int32), σ3)))))))))
def rm_X10_refusalOfPair : Room := { frames := 1, cells := 0, slots := 0, locals := 21 }
set_option maxHeartbeats 4000000 in
set_option maxRecDepth 100000 in
theorem c_X10_refusalOfPair {l : Launch} {G : pw_Gh} {x1 : Int32} {x2 : Int32} {σ : pw_St} {r : Int32} {τ : pw_St} (hf : f_X10_refusalOfPair x1 x2 σ = some (r, τ)) : Met l yX10_refusalOfPair (.code yX10_refusalOfPair cX10_refusalOfPair 3 (some .int) :: pw_BW) rm_X10_refusalOfPair (pw_Pc G [.ref (pw_ad G 0), .int x1, .int x2] σ) (pw_Qi G r τ) 0 0 (pw_gA G) := by
  refine pw_met (by decide +kernel) (Nat.le_of_ble_eq_true rfl) ?_
  intro p e s m args below meth c ls hC hw hl
  replace hl : lv_has ls 3 [(0, .ref (pw_ad G 0)), (1, .int x1), (2, .int x2)] := hl
  have hx := hC.1
  have hb := hC.2.1
  unfold f_X10_refusalOfPair at hf
  refine lv_aload_n hx hb dX10_refusalOfPair_0 rfl (lv_at hl 0 rfl) ?_
  refine pg_0_0 hC hw mw_301 dX10_refusalOfPair_1 ?_
  refine lv_iload_n hx hb dX10_refusalOfPair_4 rfl (lv_at hl 1 rfl) ?_
  obtain ⟨r1, σ1, h1, hf⟩ := pw_bi_some hf
  refine pw_ci hw (pw_runV (As := [.int x1]) (rest := []) hC hw (c_X2_hasProcess  h1) mw_337 wm_X2_hasProcess ⟨Nat.zero_le _, Nat.zero_le _⟩ ⟨rfl, rfl, Nat.le_of_ble_eq_true rfl, Nat.le_of_ble_eq_true rfl⟩ (by decide) rfl rfl rfl hl.1 rfl (Nat.le_of_ble_eq_true rfl) dX10_refusalOfPair_5) (fun H locs hw => ?_)
  refine lv_if_eq (tgt := 22) hx hb dX10_refusalOfPair_8 (by decide) (fun hc => ?_) (fun hc => ?_)
  · replace hf := pw_ifp hc hf
    refine lv_iconst (v := -1) hx hb dX10_refusalOfPair_22 (by decide) ?_
    exact pw_iret hC hw hf dX10_refusalOfPair_23
  · replace hf := pw_ifn hc hf
    refine lv_aload_n hx hb dX10_refusalOfPair_11 rfl (lv_at hl 0 rfl) ?_
    refine pg_0_0 hC hw mw_301 dX10_refusalOfPair_12 ?_
    refine lv_iload_n hx hb dX10_refusalOfPair_15 rfl (lv_at hl 2 rfl) ?_
    obtain ⟨r2, σ2, h2, hf⟩ := pw_bi_some hf
    refine pw_ci hw (pw_runV (As := [.int x2]) (rest := []) hC hw (c_X2_hasProcess  h2) mw_337 wm_X2_hasProcess ⟨Nat.zero_le _, Nat.zero_le _⟩ ⟨rfl, rfl, Nat.le_of_ble_eq_true rfl, Nat.le_of_ble_eq_true rfl⟩ (by decide) rfl rfl rfl hl.1 rfl (Nat.le_of_ble_eq_true rfl) dX10_refusalOfPair_16) (fun H locs hw => ?_)
    refine lv_if_ne (tgt := 24) hx hb dX10_refusalOfPair_19 (by decide) (fun hc => ?_) (fun hc => ?_)
    · replace hf := pw_ifn hc hf
      refine lv_iload_n hx hb dX10_refusalOfPair_24 rfl (lv_at hl 1 rfl) ?_
      refine lv_iload_n hx hb dX10_refusalOfPair_25 rfl (lv_at hl 2 rfl) ?_
      refine lv_icmp_ne (tgt := 32) hx hb dX10_refusalOfPair_26 (by decide) (fun hc => ?_) (fun hc => ?_)
      · replace hf := pw_ifn hc hf
        refine lv_aload_n hx hb dX10_refusalOfPair_32 rfl (lv_at hl 0 rfl) ?_
        refine pg_0_0 hC hw mw_301 dX10_refusalOfPair_33 ?_
        refine lv_iload_n hx hb dX10_refusalOfPair_36 rfl (lv_at hl 1 rfl) ?_
        obtain ⟨r3, σ3, h3, hf⟩ := pw_bi_some hf
        refine pw_ci hw (pw_runV (As := [.int x1]) (rest := []) hC hw (c_X2_isFull  h3) mw_341 wm_X2_isFull ⟨Nat.zero_le _, Nat.zero_le _⟩ ⟨rfl, rfl, Nat.le_of_ble_eq_true rfl, Nat.le_of_ble_eq_true rfl⟩ (by decide) rfl rfl rfl hl.1 rfl (Nat.le_of_ble_eq_true rfl) dX10_refusalOfPair_37) (fun H locs hw => ?_)
        refine lv_if_eq (tgt := 48) hx hb dX10_refusalOfPair_40 (by decide) (fun hc => ?_) (fun hc => ?_)
        · replace hf := pw_ifp hc hf
          refine lv_iconst (v := 0) hx hb dX10_refusalOfPair_48 (by decide) ?_
          exact pw_iret hC hw hf dX10_refusalOfPair_49
        · replace hf := pw_ifn hc hf
          refine lv_bipush (v := -4) hx hb dX10_refusalOfPair_43 (by decide) ?_
          refine lv_goto (tgt := 49) hx hb dX10_refusalOfPair_45 (by decide) ?_
          exact pw_iret hC hw hf dX10_refusalOfPair_49
      · replace hf := pw_ifp hc hf
        refine lv_bipush (v := -2) hx hb dX10_refusalOfPair_29 (by decide) ?_
        exact pw_iret hC hw hf dX10_refusalOfPair_31
    · replace hf := pw_ifp hc hf
      refine lv_iconst (v := -1) hx hb dX10_refusalOfPair_22 (by decide) ?_
      exact pw_iret hC hw hf dX10_refusalOfPair_23
-- PerhapsWas send
def f_X10_send (x1 : Int32) (x2 : Int32) (σ : pw_St) : Option (Int32 × pw_St) := (pw_bi (f_X10_refusalOfPair x1 x2 σ) fun r1 σ1 => (if r1 = 0 then (pw_bi (f_X2_sendOut x1 x2 σ1) fun r2 σ2 => (some (r2, σ2))) else (some (r1, σ1))))
def rm_X10_send : Room := { frames := 3, cells := 0, slots := 0, locals := 72 }
set_option maxHeartbeats 4000000 in
set_option maxRecDepth 100000 in
theorem c_X10_send {l : Launch} {G : pw_Gh} {x1 : Int32} {x2 : Int32} {σ : pw_St} {r : Int32} {τ : pw_St} (hf : f_X10_send x1 x2 σ = some (r, τ)) : Met l yX10_send (.code yX10_send cX10_send 4 (some .int) :: pw_BW) rm_X10_send (pw_Pc G [.ref (pw_ad G 0), .int x1, .int x2] σ) (pw_Qi G r τ) 0 0 (pw_gA G) := by
  refine pw_met (by decide +kernel) (Nat.le_of_ble_eq_true rfl) ?_
  intro p e s m args below meth c ls hC hw hl
  replace hl : lv_has ls 4 [(0, .ref (pw_ad G 0)), (1, .int x1), (2, .int x2)] := hl
  have hx := hC.1
  have hb := hC.2.1
  unfold f_X10_send at hf
  refine lv_aload_n hx hb dX10_send_0 rfl (lv_at hl 0 rfl) ?_
  refine lv_iload_n hx hb dX10_send_1 rfl (lv_at hl 1 rfl) ?_
  refine lv_iload_n hx hb dX10_send_2 rfl (lv_at hl 2 rfl) ?_
  obtain ⟨r1, σ1, h1, hf⟩ := pw_bi_some hf
  refine pw_ci hw (pw_runV (As := [.int x1, .int x2]) (rest := []) hC hw (c_X10_refusalOfPair  h1) mw_367 wm_X10_refusalOfPair ⟨Nat.zero_le _, Nat.zero_le _⟩ ⟨rfl, rfl, Nat.le_of_ble_eq_true rfl, Nat.le_of_ble_eq_true rfl⟩ (by decide) rfl rfl rfl hl.1 rfl (Nat.le_of_ble_eq_true rfl) dX10_send_3) (fun H locs hw => ?_)
  refine lv_istore_n (lv' := [(3, .int r1), (0, .ref (pw_ad G 0)), (1, .int x1), (2, .int x2)]) hx hb dX10_send_6 rfl hl (by decide) rfl (fun ls hl => ?_)
  refine lv_iload_n hx hb dX10_send_7 rfl (lv_at hl 0 rfl) ?_
  refine lv_if_eq (tgt := 15) hx hb dX10_send_8 (by decide) (fun hc => ?_) (fun hc => ?_)
  · replace hf := pw_ifp hc hf
    refine lv_aload_n hx hb dX10_send_15 rfl (lv_at hl 1 rfl) ?_
    refine pg_0_0 hC hw mw_301 dX10_send_16 ?_
    refine lv_iload_n hx hb dX10_send_19 rfl (lv_at hl 2 rfl) ?_
    refine lv_iload_n hx hb dX10_send_20 rfl (lv_at hl 3 rfl) ?_
    obtain ⟨r2, σ2, h2, hf⟩ := pw_bi_some hf
    refine pw_ci hw (pw_runV (As := [.int x1, .int x2]) (rest := []) hC hw (c_X2_sendOut  h2) mw_371 wm_X2_sendOut ⟨Nat.zero_le _, Nat.zero_le _⟩ ⟨rfl, rfl, Nat.le_of_ble_eq_true rfl, Nat.le_of_ble_eq_true rfl⟩ (by decide) rfl rfl rfl hl.1 rfl (Nat.le_of_ble_eq_true rfl) dX10_send_21) (fun H locs hw => ?_)
    exact pw_iret hC hw hf dX10_send_24
  · replace hf := pw_ifn hc hf
    refine lv_iload_n hx hb dX10_send_11 rfl (lv_at hl 0 rfl) ?_
    refine lv_goto (tgt := 24) hx hb dX10_send_12 (by decide) ?_
    exact pw_iret hC hw hf dX10_send_24
-- PerhapsWas take
def f_X10_take (x1 : Int32) (σ : pw_St) : Option (Int32 × pw_St) := (pw_bi (f_X3_has x1 σ) fun r1 σ1 => (if r1 = 0 then (some ((-1 : Int32), σ1)) else (if pw_in x1 24 = true then (if (σ1.1 21 x1.toNatClampNeg) = (-1 : Int32) then (if pw_in x1 24 = true then (pw_bi (f_X2_isFull (σ1.1 19 x1.toNatClampNeg) σ1) fun r2 σ2 => (if r2 = 0 then (pw_bi (f_X2_takeIn x1 σ2) fun r3 σ3 => (some (r3, σ3))) else (some ((-4 : Int32), σ2)))) else none) else (some ((-3 : Int32), σ1))) else none)))
def rm_X10_take : Room := { frames := 3, cells := 0, slots := 0, locals := 72 }
set_option maxHeartbeats 4000000 in
set_option maxRecDepth 100000 in
theorem c_X10_take {l : Launch} {G : pw_Gh} {x1 : Int32} {σ : pw_St} {r : Int32} {τ : pw_St} (hf : f_X10_take x1 σ = some (r, τ)) : Met l yX10_take (.code yX10_take cX10_take 3 (some .int) :: pw_BW) rm_X10_take (pw_Pc G [.ref (pw_ad G 0), .int x1] σ) (pw_Qi G r τ) 0 0 (pw_gA G) := by
  refine pw_met (by decide +kernel) (Nat.le_of_ble_eq_true rfl) ?_
  intro p e s m args below meth c ls hC hw hl
  replace hl : lv_has ls 3 [(0, .ref (pw_ad G 0)), (1, .int x1)] := hl
  have hx := hC.1
  have hb := hC.2.1
  unfold f_X10_take at hf
  refine lv_aload_n hx hb dX10_take_0 rfl (lv_at hl 0 rfl) ?_
  refine pg_0_0 hC hw mw_301 dX10_take_1 ?_
  refine pg_1_0 hC hw mw_102 dX10_take_4 ?_
  refine lv_astore_n (lv' := [(2, .ref (pw_ad G 2)), (0, .ref (pw_ad G 0)), (1, .int x1)]) hx hb dX10_take_7 rfl hl (by decide) rfl (fun ls hl => ?_)
  refine lv_aload_n hx hb dX10_take_8 rfl (lv_at hl 0 rfl) ?_
  refine lv_iload_n hx hb dX10_take_9 rfl (lv_at hl 2 rfl) ?_
  obtain ⟨r1, σ1, h1, hf⟩ := pw_bi_some hf
  refine pw_ci hw (pw_runV (As := [.int x1]) (rest := []) hC hw (c_X3_has  h1) mw_383 wm_X3_has ⟨Nat.zero_le _, Nat.zero_le _⟩ ⟨rfl, rfl, Nat.le_of_ble_eq_true rfl, Nat.le_of_ble_eq_true rfl⟩ (by decide) rfl rfl rfl hl.1 rfl (Nat.le_of_ble_eq_true rfl) dX10_take_10) (fun H locs hw => ?_)
  refine lv_if_ne (tgt := 18) hx hb dX10_take_13 (by decide) (fun hc => ?_) (fun hc => ?_)
  · replace hf := pw_ifn hc hf
    refine lv_aload_n hx hb dX10_take_18 rfl (lv_at hl 0 rfl) ?_
    refine pg_2_3 hC hw mw_82 dX10_take_19 ?_
    refine lv_iload_n hx hb dX10_take_22 rfl (lv_at hl 2 rfl) ?_
    obtain ⟨hin, hf⟩ := pw_gd hf
    refine pw_ild hC hw ca_21 hin dX10_take_23 ?_
    refine lv_iconst (v := -1) hx hb dX10_take_24 (by decide) ?_
    refine lv_icmp_eq (tgt := 31) hx hb dX10_take_25 (by decide) (fun hc => ?_) (fun hc => ?_)
    · replace hf := pw_ifp hc hf
      refine lv_aload_n hx hb dX10_take_31 rfl (lv_at hl 1 rfl) ?_
      refine pg_0_0 hC hw mw_301 dX10_take_32 ?_
      refine lv_aload_n hx hb dX10_take_35 rfl (lv_at hl 0 rfl) ?_
      refine pg_2_1 hC hw mw_74 dX10_take_36 ?_
      refine lv_iload_n hx hb dX10_take_39 rfl (lv_at hl 2 rfl) ?_
      obtain ⟨hin, hf⟩ := pw_gd hf
      refine pw_ild hC hw ca_19 hin dX10_take_40 ?_
      obtain ⟨r2, σ2, h2, hf⟩ := pw_bi_some hf
      refine pw_ci hw (pw_runV (As := [.int (σ1.1 19 x1.toNatClampNeg)]) (rest := []) hC hw (c_X2_isFull  h2) mw_341 wm_X2_isFull ⟨Nat.zero_le _, Nat.zero_le _⟩ ⟨rfl, rfl, Nat.le_of_ble_eq_true rfl, Nat.le_of_ble_eq_true rfl⟩ (by decide) rfl rfl rfl hl.1 rfl (Nat.le_of_ble_eq_true rfl) dX10_take_41) (fun H locs hw => ?_)
      refine lv_if_eq (tgt := 50) hx hb dX10_take_44 (by decide) (fun hc => ?_) (fun hc => ?_)
      · replace hf := pw_ifp hc hf
        refine lv_aload_n hx hb dX10_take_50 rfl (lv_at hl 1 rfl) ?_
        refine pg_0_0 hC hw mw_301 dX10_take_51 ?_
        refine lv_iload_n hx hb dX10_take_54 rfl (lv_at hl 2 rfl) ?_
        obtain ⟨r3, σ3, h3, hf⟩ := pw_bi_some hf
        refine pw_ci hw (pw_runV (As := [.int x1]) (rest := []) hC hw (c_X2_takeIn  h3) mw_387 wm_X2_takeIn ⟨Nat.zero_le _, Nat.zero_le _⟩ ⟨rfl, rfl, Nat.le_of_ble_eq_true rfl, Nat.le_of_ble_eq_true rfl⟩ (by decide) rfl rfl rfl hl.1 rfl (Nat.le_of_ble_eq_true rfl) dX10_take_55) (fun H locs hw => ?_)
        exact pw_iret hC hw hf dX10_take_58
      · replace hf := pw_ifn hc hf
        refine lv_bipush (v := -4) hx hb dX10_take_47 (by decide) ?_
        exact pw_iret hC hw hf dX10_take_49
    · replace hf := pw_ifn hc hf
      refine lv_bipush (v := -3) hx hb dX10_take_28 (by decide) ?_
      exact pw_iret hC hw hf dX10_take_30
  · replace hf := pw_ifp hc hf
    refine lv_iconst (v := -1) hx hb dX10_take_16 (by decide) ?_
    exact pw_iret hC hw hf dX10_take_17
-- PerhapsWas wait
def f_X10_wait (x1 : Int32) (x2 : Int32) (σ : pw_St) : Option (Int32 × pw_St) := (pw_bi (f_X10_refusalOfPair x1 x2 σ) fun r1 σ1 => (if r1 = 0 then (pw_bi (f_X2_awaitAll x1 x2 σ1) fun r2 σ2 => (some (r2, σ2))) else (some (r1, σ1))))
def rm_X10_wait : Room := { frames := 3, cells := 0, slots := 0, locals := 72 }
set_option maxHeartbeats 4000000 in
set_option maxRecDepth 100000 in
theorem c_X10_wait {l : Launch} {G : pw_Gh} {x1 : Int32} {x2 : Int32} {σ : pw_St} {r : Int32} {τ : pw_St} (hf : f_X10_wait x1 x2 σ = some (r, τ)) : Met l yX10_wait (.code yX10_wait cX10_wait 4 (some .int) :: pw_BW) rm_X10_wait (pw_Pc G [.ref (pw_ad G 0), .int x1, .int x2] σ) (pw_Qi G r τ) 0 0 (pw_gA G) := by
  refine pw_met (by decide +kernel) (Nat.le_of_ble_eq_true rfl) ?_
  intro p e s m args below meth c ls hC hw hl
  replace hl : lv_has ls 4 [(0, .ref (pw_ad G 0)), (1, .int x1), (2, .int x2)] := hl
  have hx := hC.1
  have hb := hC.2.1
  unfold f_X10_wait at hf
  refine lv_aload_n hx hb dX10_wait_0 rfl (lv_at hl 0 rfl) ?_
  refine lv_iload_n hx hb dX10_wait_1 rfl (lv_at hl 1 rfl) ?_
  refine lv_iload_n hx hb dX10_wait_2 rfl (lv_at hl 2 rfl) ?_
  obtain ⟨r1, σ1, h1, hf⟩ := pw_bi_some hf
  refine pw_ci hw (pw_runV (As := [.int x1, .int x2]) (rest := []) hC hw (c_X10_refusalOfPair  h1) mw_367 wm_X10_refusalOfPair ⟨Nat.zero_le _, Nat.zero_le _⟩ ⟨rfl, rfl, Nat.le_of_ble_eq_true rfl, Nat.le_of_ble_eq_true rfl⟩ (by decide) rfl rfl rfl hl.1 rfl (Nat.le_of_ble_eq_true rfl) dX10_wait_3) (fun H locs hw => ?_)
  refine lv_istore_n (lv' := [(3, .int r1), (0, .ref (pw_ad G 0)), (1, .int x1), (2, .int x2)]) hx hb dX10_wait_6 rfl hl (by decide) rfl (fun ls hl => ?_)
  refine lv_iload_n hx hb dX10_wait_7 rfl (lv_at hl 0 rfl) ?_
  refine lv_if_eq (tgt := 15) hx hb dX10_wait_8 (by decide) (fun hc => ?_) (fun hc => ?_)
  · replace hf := pw_ifp hc hf
    refine lv_aload_n hx hb dX10_wait_15 rfl (lv_at hl 1 rfl) ?_
    refine pg_0_0 hC hw mw_301 dX10_wait_16 ?_
    refine lv_iload_n hx hb dX10_wait_19 rfl (lv_at hl 2 rfl) ?_
    refine lv_iload_n hx hb dX10_wait_20 rfl (lv_at hl 3 rfl) ?_
    obtain ⟨r2, σ2, h2, hf⟩ := pw_bi_some hf
    refine pw_ci hw (pw_runV (As := [.int x1, .int x2]) (rest := []) hC hw (c_X2_awaitAll  h2) mw_402 wm_X2_awaitAll ⟨Nat.zero_le _, Nat.zero_le _⟩ ⟨rfl, rfl, Nat.le_of_ble_eq_true rfl, Nat.le_of_ble_eq_true rfl⟩ (by decide) rfl rfl rfl hl.1 rfl (Nat.le_of_ble_eq_true rfl) dX10_wait_21) (fun H locs hw => ?_)
    exact pw_iret hC hw hf dX10_wait_24
  · replace hf := pw_ifn hc hf
    refine lv_iload_n hx hb dX10_wait_11 rfl (lv_at hl 0 rfl) ?_
    refine lv_goto (tgt := 24) hx hb dX10_wait_12 (by decide) ?_
    exact pw_iret hC hw hf dX10_wait_24
-- PerhapsWas undo
def f_X10_undo (σ : pw_St) : Option (Int32 × pw_St) := (if (σ.1 1 9) = 0 then (some ((-3 : Int32), σ)) else (pw_bi (f_X2_takeBack σ) fun r1 σ1 => (some (r1, σ1))))
def rm_X10_undo : Room := { frames := 2, cells := 0, slots := 0, locals := 43 }
set_option maxHeartbeats 4000000 in
set_option maxRecDepth 100000 in
theorem c_X10_undo {l : Launch} {G : pw_Gh} {σ : pw_St} {r : Int32} {τ : pw_St} (hf : f_X10_undo σ = some (r, τ)) : Met l yX10_undo (.code yX10_undo cX10_undo 1 (some .int) :: pw_BW) rm_X10_undo (pw_Pc G [.ref (pw_ad G 0)] σ) (pw_Qi G r τ) 0 0 (pw_gA G) := by
  refine pw_met (by decide +kernel) (Nat.le_of_ble_eq_true rfl) ?_
  intro p e s m args below meth c ls hC hw hl
  replace hl : lv_has ls 1 [(0, .ref (pw_ad G 0))] := hl
  have hx := hC.1
  have hb := hC.2.1
  unfold f_X10_undo at hf
  refine lv_aload_n hx hb dX10_undo_0 rfl (lv_at hl 0 rfl) ?_
  refine pg_0_0 hC hw mw_301 dX10_undo_1 ?_
  refine pg_1_9 hC hw mw_118 dX10_undo_4 ?_
  refine lv_if_ne (tgt := 15) hx hb dX10_undo_7 (by decide) (fun hc => ?_) (fun hc => ?_)
  · replace hf := pw_ifn hc hf
    refine lv_aload_n hx hb dX10_undo_15 rfl (lv_at hl 0 rfl) ?_
    refine pg_0_0 hC hw mw_301 dX10_undo_16 ?_
    obtain ⟨r1, σ1, h1, hf⟩ := pw_bi_some hf
    refine pw_ci hw (pw_runV (As := []) (rest := []) hC hw (c_X2_takeBack  h1) mw_410 wm_X2_takeBack ⟨Nat.zero_le _, Nat.zero_le _⟩ ⟨rfl, rfl, Nat.le_of_ble_eq_true rfl, Nat.le_of_ble_eq_true rfl⟩ (by decide) rfl rfl rfl hl.1 rfl (Nat.le_of_ble_eq_true rfl) dX10_undo_19) (fun H locs hw => ?_)
    exact pw_iret hC hw hf dX10_undo_22
  · replace hf := pw_ifp hc hf
    refine lv_bipush (v := -3) hx hb dX10_undo_10 (by decide) ?_
    refine lv_goto (tgt := 22) hx hb dX10_undo_12 (by decide) ?_
    exact pw_iret hC hw hf dX10_undo_22
-- PerhapsWas event
def f_X10_event (x1 : Int32) (x2 : Int32) (x3 : Int32) (σ : pw_St) : Option (Int32 × pw_St) := (pw_bi (f_X2_hasEvent x1 x2 σ) fun r1 σ1 => (if r1 = 0 then (some ((-1 : Int32), σ1)) else (pw_bi (f_X2_place x1 x2 σ1) fun r2 σ2 => (if x3 = 0 then (if pw_in r2 24 = true then (some ((σ2.1 13 r2.toNatClampNeg), σ2)) else none) else (if x3 = 1 then (if pw_in r2 24 = true then (some ((σ2.1 14 r2.toNatClampNeg), σ2)) else none) else (if x3 = 2 then (if pw_in r2 24 = true then (some ((σ2.1 15 r2.toNatClampNeg), σ2)) else none) else (some ((-1 : Int32), σ2))))))))
def rm_X10_event : Room := { frames := 2, cells := 0, slots := 0, locals := 43 }
set_option maxHeartbeats 4000000 in
set_option maxRecDepth 100000 in
theorem c_X10_event {l : Launch} {G : pw_Gh} {x1 : Int32} {x2 : Int32} {x3 : Int32} {σ : pw_St} {r : Int32} {τ : pw_St} (hf : f_X10_event x1 x2 x3 σ = some (r, τ)) : Met l yX10_event (.code yX10_event cX10_event 5 (some .int) :: pw_BW) rm_X10_event (pw_Pc G [.ref (pw_ad G 0), .int x1, .int x2, .int x3] σ) (pw_Qi G r τ) 0 0 (pw_gA G) := by
  refine pw_met (by decide +kernel) (Nat.le_of_ble_eq_true rfl) ?_
  intro p e s m args below meth c ls hC hw hl
  replace hl : lv_has ls 5 [(0, .ref (pw_ad G 0)), (1, .int x1), (2, .int x2), (3, .int x3)] := hl
  have hx := hC.1
  have hb := hC.2.1
  unfold f_X10_event at hf
  refine lv_aload_n hx hb dX10_event_0 rfl (lv_at hl 0 rfl) ?_
  refine pg_0_0 hC hw mw_301 dX10_event_1 ?_
  refine lv_iload_n hx hb dX10_event_4 rfl (lv_at hl 1 rfl) ?_
  refine lv_iload_n hx hb dX10_event_5 rfl (lv_at hl 2 rfl) ?_
  obtain ⟨r1, σ1, h1, hf⟩ := pw_bi_some hf
  refine pw_ci hw (pw_runV (As := [.int x1, .int x2]) (rest := []) hC hw (c_X2_hasEvent  h1) mw_418 wm_X2_hasEvent ⟨Nat.zero_le _, Nat.zero_le _⟩ ⟨rfl, rfl, Nat.le_of_ble_eq_true rfl, Nat.le_of_ble_eq_true rfl⟩ (by decide) rfl rfl rfl hl.1 rfl (Nat.le_of_ble_eq_true rfl) dX10_event_6) (fun H locs hw => ?_)
  refine lv_if_ne (tgt := 14) hx hb dX10_event_9 (by decide) (fun hc => ?_) (fun hc => ?_)
  · replace hf := pw_ifn hc hf
    refine lv_iload_n hx hb dX10_event_14 rfl (lv_at hl 1 rfl) ?_
    refine lv_iload_n hx hb dX10_event_15 rfl (lv_at hl 2 rfl) ?_
    obtain ⟨r2, σ2, h2, hf⟩ := pw_bi_some hf
    refine pw_ci hw (pw_runS (As := [.int x1, .int x2]) (rest := []) hC hw (c_X2_place  h2) mw_423 wm_X2_place ⟨Nat.zero_le _, Nat.zero_le _⟩ ⟨rfl, rfl, Nat.le_of_ble_eq_true rfl, Nat.le_of_ble_eq_true rfl⟩ rfl hl.1 rfl (Nat.le_of_ble_eq_true rfl) dX10_event_16) (fun H locs hw => ?_)
    refine lv_istore (lv' := [(4, .int r2), (0, .ref (pw_ad G 0)), (1, .int x1), (2, .int x2), (3, .int x3)]) hx hb dX10_event_19 hl (by decide) rfl (fun ls hl => ?_)
    refine lv_iload_n hx hb dX10_event_21 rfl (lv_at hl 4 rfl) ?_
    by_cases hc0 : x3 = 0
    · replace hf := pw_ifp hc0 hf
      refine lv_tableIn (off := 26) (tgt := 48) hx hb dX10_event_22 (by rw [hc0]; decide) (by rw [hc0]; decide) (by rw [hc0]; decide) (by decide) ?_
      refine lv_aload_n hx hb dX10_event_48 rfl (lv_at hl 1 rfl) ?_
      refine pg_0_0 hC hw mw_301 dX10_event_49 ?_
      refine pg_1_3 hC hw mw_108 dX10_event_52 ?_
      refine lv_iload hx hb dX10_event_55 (lv_at hl 0 rfl) ?_
      obtain ⟨hin, hf⟩ := pw_gd hf
      refine pw_ild hC hw ca_13 hin dX10_event_57 ?_
      exact pw_iret hC hw hf dX10_event_58
    replace hf := pw_ifn hc0 hf
    by_cases hc1 : x3 = 1
    · replace hf := pw_ifp hc1 hf
      refine lv_tableIn (off := 37) (tgt := 59) hx hb dX10_event_22 (by rw [hc1]; decide) (by rw [hc1]; decide) (by rw [hc1]; decide) (by decide) ?_
      refine lv_aload_n hx hb dX10_event_59 rfl (lv_at hl 1 rfl) ?_
      refine pg_0_0 hC hw mw_301 dX10_event_60 ?_
      refine pg_1_4 hC hw mw_110 dX10_event_63 ?_
      refine lv_iload hx hb dX10_event_66 (lv_at hl 0 rfl) ?_
      obtain ⟨hin, hf⟩ := pw_gd hf
      refine pw_ild hC hw ca_14 hin dX10_event_68 ?_
      exact pw_iret hC hw hf dX10_event_69
    replace hf := pw_ifn hc1 hf
    by_cases hc2 : x3 = 2
    · replace hf := pw_ifp hc2 hf
      refine lv_tableIn (off := 48) (tgt := 70) hx hb dX10_event_22 (by rw [hc2]; decide) (by rw [hc2]; decide) (by rw [hc2]; decide) (by decide) ?_
      refine lv_aload_n hx hb dX10_event_70 rfl (lv_at hl 1 rfl) ?_
      refine pg_0_0 hC hw mw_301 dX10_event_71 ?_
      refine pg_1_5 hC hw mw_112 dX10_event_74 ?_
      refine lv_iload hx hb dX10_event_77 (lv_at hl 0 rfl) ?_
      obtain ⟨hin, hf⟩ := pw_gd hf
      refine pw_ild hC hw ca_15 hin dX10_event_79 ?_
      exact pw_iret hC hw hf dX10_event_80
    replace hf := pw_ifn hc2 hf
    refine lv_tableOut (tgt := 81) hx hb dX10_event_22 (by have hq := And.intro (pw_ti hc0 (z := 0) (by decide)) (And.intro (pw_ti hc1 (z := 1) (by decide)) (pw_ti hc2 (z := 2) (by decide))); omega) (by decide) ?_
    refine lv_iconst (v := -1) hx hb dX10_event_81 (by decide) ?_
    exact pw_iret hC hw hf dX10_event_82
  · replace hf := pw_ifp hc hf
    refine lv_iconst (v := -1) hx hb dX10_event_12 (by decide) ?_
    exact pw_iret hC hw hf dX10_event_13
-- PerhapsWas letter
def f_X10_letter (x1 : Int32) (x2 : Int32) (σ : pw_St) : Option (Int32 × pw_St) := (pw_bi (f_X3_has x1 σ) fun r1 σ1 => (if r1 = 0 then (some ((-1 : Int32), σ1)) else (if x2 = 0 then (if pw_in x1 24 = true then (some ((σ1.1 18 x1.toNatClampNeg), σ1)) else none) else (if x2 = 1 then (if pw_in x1 24 = true then (some ((σ1.1 19 x1.toNatClampNeg), σ1)) else none) else (if x2 = 2 then (if pw_in x1 24 = true then (some ((σ1.1 20 x1.toNatClampNeg), σ1)) else none) else (if x2 = 3 then (if pw_in x1 24 = true then (some ((σ1.1 21 x1.toNatClampNeg), σ1)) else none) else (some ((-1 : Int32), σ1))))))))
def rm_X10_letter : Room := { frames := 1, cells := 0, slots := 0, locals := 21 }
set_option maxHeartbeats 4000000 in
set_option maxRecDepth 100000 in
theorem c_X10_letter {l : Launch} {G : pw_Gh} {x1 : Int32} {x2 : Int32} {σ : pw_St} {r : Int32} {τ : pw_St} (hf : f_X10_letter x1 x2 σ = some (r, τ)) : Met l yX10_letter (.code yX10_letter cX10_letter 4 (some .int) :: pw_BW) rm_X10_letter (pw_Pc G [.ref (pw_ad G 0), .int x1, .int x2] σ) (pw_Qi G r τ) 0 0 (pw_gA G) := by
  refine pw_met (by decide +kernel) (Nat.le_of_ble_eq_true rfl) ?_
  intro p e s m args below meth c ls hC hw hl
  replace hl : lv_has ls 4 [(0, .ref (pw_ad G 0)), (1, .int x1), (2, .int x2)] := hl
  have hx := hC.1
  have hb := hC.2.1
  unfold f_X10_letter at hf
  refine lv_aload_n hx hb dX10_letter_0 rfl (lv_at hl 0 rfl) ?_
  refine pg_0_0 hC hw mw_301 dX10_letter_1 ?_
  refine pg_1_0 hC hw mw_102 dX10_letter_4 ?_
  refine lv_astore_n (lv' := [(3, .ref (pw_ad G 2)), (0, .ref (pw_ad G 0)), (1, .int x1), (2, .int x2)]) hx hb dX10_letter_7 rfl hl (by decide) rfl (fun ls hl => ?_)
  refine lv_aload_n hx hb dX10_letter_8 rfl (lv_at hl 0 rfl) ?_
  refine lv_iload_n hx hb dX10_letter_9 rfl (lv_at hl 2 rfl) ?_
  obtain ⟨r1, σ1, h1, hf⟩ := pw_bi_some hf
  refine pw_ci hw (pw_runV (As := [.int x1]) (rest := []) hC hw (c_X3_has  h1) mw_383 wm_X3_has ⟨Nat.zero_le _, Nat.zero_le _⟩ ⟨rfl, rfl, Nat.le_of_ble_eq_true rfl, Nat.le_of_ble_eq_true rfl⟩ (by decide) rfl rfl rfl hl.1 rfl (Nat.le_of_ble_eq_true rfl) dX10_letter_10) (fun H locs hw => ?_)
  refine lv_if_ne (tgt := 18) hx hb dX10_letter_13 (by decide) (fun hc => ?_) (fun hc => ?_)
  · replace hf := pw_ifn hc hf
    refine lv_iload_n hx hb dX10_letter_18 rfl (lv_at hl 3 rfl) ?_
    by_cases hc0 : x2 = 0
    · replace hf := pw_ifp hc0 hf
      refine lv_tableIn (off := 29) (tgt := 48) hx hb dX10_letter_19 (by rw [hc0]; decide) (by rw [hc0]; decide) (by rw [hc0]; decide) (by decide) ?_
      refine lv_aload_n hx hb dX10_letter_48 rfl (lv_at hl 0 rfl) ?_
      refine pg_2_0 hC hw mw_70 dX10_letter_49 ?_
      refine lv_iload_n hx hb dX10_letter_52 rfl (lv_at hl 2 rfl) ?_
      obtain ⟨hin, hf⟩ := pw_gd hf
      refine pw_ild hC hw ca_18 hin dX10_letter_53 ?_
      exact pw_iret hC hw hf dX10_letter_54
    replace hf := pw_ifn hc0 hf
    by_cases hc1 : x2 = 1
    · replace hf := pw_ifp hc1 hf
      refine lv_tableIn (off := 36) (tgt := 55) hx hb dX10_letter_19 (by rw [hc1]; decide) (by rw [hc1]; decide) (by rw [hc1]; decide) (by decide) ?_
      refine lv_aload_n hx hb dX10_letter_55 rfl (lv_at hl 0 rfl) ?_
      refine pg_2_1 hC hw mw_74 dX10_letter_56 ?_
      refine lv_iload_n hx hb dX10_letter_59 rfl (lv_at hl 2 rfl) ?_
      obtain ⟨hin, hf⟩ := pw_gd hf
      refine pw_ild hC hw ca_19 hin dX10_letter_60 ?_
      exact pw_iret hC hw hf dX10_letter_61
    replace hf := pw_ifn hc1 hf
    by_cases hc2 : x2 = 2
    · replace hf := pw_ifp hc2 hf
      refine lv_tableIn (off := 43) (tgt := 62) hx hb dX10_letter_19 (by rw [hc2]; decide) (by rw [hc2]; decide) (by rw [hc2]; decide) (by decide) ?_
      refine lv_aload_n hx hb dX10_letter_62 rfl (lv_at hl 0 rfl) ?_
      refine pg_2_2 hC hw mw_78 dX10_letter_63 ?_
      refine lv_iload_n hx hb dX10_letter_66 rfl (lv_at hl 2 rfl) ?_
      obtain ⟨hin, hf⟩ := pw_gd hf
      refine pw_ild hC hw ca_20 hin dX10_letter_67 ?_
      exact pw_iret hC hw hf dX10_letter_68
    replace hf := pw_ifn hc2 hf
    by_cases hc3 : x2 = 3
    · replace hf := pw_ifp hc3 hf
      refine lv_tableIn (off := 50) (tgt := 69) hx hb dX10_letter_19 (by rw [hc3]; decide) (by rw [hc3]; decide) (by rw [hc3]; decide) (by decide) ?_
      refine lv_aload_n hx hb dX10_letter_69 rfl (lv_at hl 0 rfl) ?_
      refine pg_2_3 hC hw mw_82 dX10_letter_70 ?_
      refine lv_iload_n hx hb dX10_letter_73 rfl (lv_at hl 2 rfl) ?_
      obtain ⟨hin, hf⟩ := pw_gd hf
      refine pw_ild hC hw ca_21 hin dX10_letter_74 ?_
      exact pw_iret hC hw hf dX10_letter_75
    replace hf := pw_ifn hc3 hf
    refine lv_tableOut (tgt := 76) hx hb dX10_letter_19 (by have hq := And.intro (pw_ti hc0 (z := 0) (by decide)) (And.intro (pw_ti hc1 (z := 1) (by decide)) (And.intro (pw_ti hc2 (z := 2) (by decide)) (pw_ti hc3 (z := 3) (by decide)))); omega) (by decide) ?_
    refine lv_iconst (v := -1) hx hb dX10_letter_76 (by decide) ?_
    exact pw_iret hC hw hf dX10_letter_77
  · replace hf := pw_ifp hc hf
    refine lv_iconst (v := -1) hx hb dX10_letter_16 (by decide) ?_
    exact pw_iret hC hw hf dX10_letter_17
-- PerhapsWas ahead
def b_X10_ahead_40 (x1 : Int32) (x2 : Int32) (x3 : Int32) (x4 : Int32) (σ : pw_St) : Option (Int32 × pw_St) := (pw_bi (f_X2_clockOf x3 x4 x1 σ) fun r1 σ1 => (if r1 ≤ x2 then (pw_bi (f_X2_clockOf x1 x2 x3 σ1) fun r2 σ2 => (if r2 ≤ x4 then (some ((3 : Int32), σ2)) else (some ((2 : Int32), σ2)))) else (some ((1 : Int32), σ1))))
def f_X10_ahead (x1 : Int32) (x2 : Int32) (x3 : Int32) (x4 : Int32) (σ : pw_St) : Option (Int32 × pw_St) := (pw_bi (f_X2_hasEvent x1 x2 σ) fun r1 σ1 => (if r1 = 0 then (some ((-1 : Int32), σ1)) else (pw_bi (f_X2_hasEvent x3 x4 σ1) fun r2 σ2 => (if r2 = 0 then (some ((-1 : Int32), σ2)) else (if x1 = x3 then (if x2 = x4 then (some ((0 : Int32), σ2)) else (b_X10_ahead_40  x1 x2 x3 x4 σ2)) else (b_X10_ahead_40  x1 x2 x3 x4 σ2))))))
def rm_X10_ahead : Room := { frames := 2, cells := 0, slots := 0, locals := 43 }
set_option maxHeartbeats 4000000 in
set_option maxRecDepth 100000 in
theorem t_X10_ahead_40 (hC : pw_CX G RX10 cX10_ahead 5 (some .int) p s m args meth c) {r : Int32} {τ : pw_St} {x1 : Int32} {x2 : Int32} {x3 : Int32} {x4 : Int32} {σ : pw_St} {H : Heap} {locs : List Loc} {ls : Array Slot} (hw : pw_WH G σ s.heap H locs) (hl : lv_has ls 5 [(0, .ref (pw_ad G 0)), (1, .int x1), (2, .int x2), (3, .int x3), (4, .int x4)]) (hf : b_X10_ahead_40 x1 x2 x3 x4 σ = some (r, τ)) : W p l e rm_X10_ahead s m args below meth c H locs 0 0 (MQ below (pw_Qi G r τ) args s 0 0 (pw_gA G)) (F0 m 40 ls []) := by
  have hx := hC.1
  have hb := hC.2.1
  unfold b_X10_ahead_40 at hf
  refine lv_aload_n hx hb dX10_ahead_40 rfl (lv_at hl 0 rfl) ?_
  refine pg_0_0 hC hw mw_301 dX10_ahead_41 ?_
  refine lv_iload_n hx hb dX10_ahead_44 rfl (lv_at hl 3 rfl) ?_
  refine lv_iload hx hb dX10_ahead_45 (lv_at hl 4 rfl) ?_
  refine lv_iload_n hx hb dX10_ahead_47 rfl (lv_at hl 1 rfl) ?_
  obtain ⟨r1, σ1, h1, hf⟩ := pw_bi_some hf
  refine pw_ci hw (pw_runV (As := [.int x3, .int x4, .int x1]) (rest := []) hC hw (c_X2_clockOf  h1) mw_432 wm_X2_clockOf ⟨Nat.zero_le _, Nat.zero_le _⟩ ⟨rfl, rfl, Nat.le_of_ble_eq_true rfl, Nat.le_of_ble_eq_true rfl⟩ (by decide) rfl rfl rfl hl.1 rfl (Nat.le_of_ble_eq_true rfl) dX10_ahead_48) (fun H locs hw => ?_)
  refine lv_iload_n hx hb dX10_ahead_51 rfl (lv_at hl 2 rfl) ?_
  refine lv_icmp_le (tgt := 57) hx hb dX10_ahead_52 (by decide) (fun hc => ?_) (fun hc => ?_)
  · replace hf := pw_ifp hc hf
    refine lv_aload_n hx hb dX10_ahead_57 rfl (lv_at hl 0 rfl) ?_
    refine pg_0_0 hC hw mw_301 dX10_ahead_58 ?_
    refine lv_iload_n hx hb dX10_ahead_61 rfl (lv_at hl 1 rfl) ?_
    refine lv_iload_n hx hb dX10_ahead_62 rfl (lv_at hl 2 rfl) ?_
    refine lv_iload_n hx hb dX10_ahead_63 rfl (lv_at hl 3 rfl) ?_
    obtain ⟨r2, σ2, h2, hf⟩ := pw_bi_some hf
    refine pw_ci hw (pw_runV (As := [.int x1, .int x2, .int x3]) (rest := []) hC hw (c_X2_clockOf  h2) mw_432 wm_X2_clockOf ⟨Nat.zero_le _, Nat.zero_le _⟩ ⟨rfl, rfl, Nat.le_of_ble_eq_true rfl, Nat.le_of_ble_eq_true rfl⟩ (by decide) rfl rfl rfl hl.1 rfl (Nat.le_of_ble_eq_true rfl) dX10_ahead_64) (fun H locs hw => ?_)
    refine lv_iload hx hb dX10_ahead_67 (lv_at hl 4 rfl) ?_
    refine lv_icmp_le (tgt := 76) hx hb dX10_ahead_69 (by decide) (fun hc => ?_) (fun hc => ?_)
    · replace hf := pw_ifp hc hf
      refine lv_iconst (v := 3) hx hb dX10_ahead_76 (by decide) ?_
      exact pw_iret hC hw hf dX10_ahead_77
    · replace hf := pw_ifn hc hf
      refine lv_iconst (v := 2) hx hb dX10_ahead_72 (by decide) ?_
      refine lv_goto (tgt := 77) hx hb dX10_ahead_73 (by decide) ?_
      exact pw_iret hC hw hf dX10_ahead_77
  · replace hf := pw_ifn hc hf
    refine lv_iconst (v := 1) hx hb dX10_ahead_55 (by decide) ?_
    exact pw_iret hC hw hf dX10_ahead_56
set_option maxHeartbeats 4000000 in
set_option maxRecDepth 100000 in
theorem c_X10_ahead {l : Launch} {G : pw_Gh} {x1 : Int32} {x2 : Int32} {x3 : Int32} {x4 : Int32} {σ : pw_St} {r : Int32} {τ : pw_St} (hf : f_X10_ahead x1 x2 x3 x4 σ = some (r, τ)) : Met l yX10_ahead (.code yX10_ahead cX10_ahead 5 (some .int) :: pw_BW) rm_X10_ahead (pw_Pc G [.ref (pw_ad G 0), .int x1, .int x2, .int x3, .int x4] σ) (pw_Qi G r τ) 0 0 (pw_gA G) := by
  refine pw_met (by decide +kernel) (Nat.le_of_ble_eq_true rfl) ?_
  intro p e s m args below meth c ls hC hw hl
  replace hl : lv_has ls 5 [(0, .ref (pw_ad G 0)), (1, .int x1), (2, .int x2), (3, .int x3), (4, .int x4)] := hl
  have hx := hC.1
  have hb := hC.2.1
  unfold f_X10_ahead at hf
  refine lv_aload_n hx hb dX10_ahead_0 rfl (lv_at hl 0 rfl) ?_
  refine pg_0_0 hC hw mw_301 dX10_ahead_1 ?_
  refine lv_iload_n hx hb dX10_ahead_4 rfl (lv_at hl 1 rfl) ?_
  refine lv_iload_n hx hb dX10_ahead_5 rfl (lv_at hl 2 rfl) ?_
  obtain ⟨r1, σ1, h1, hf⟩ := pw_bi_some hf
  refine pw_ci hw (pw_runV (As := [.int x1, .int x2]) (rest := []) hC hw (c_X2_hasEvent  h1) mw_418 wm_X2_hasEvent ⟨Nat.zero_le _, Nat.zero_le _⟩ ⟨rfl, rfl, Nat.le_of_ble_eq_true rfl, Nat.le_of_ble_eq_true rfl⟩ (by decide) rfl rfl rfl hl.1 rfl (Nat.le_of_ble_eq_true rfl) dX10_ahead_6) (fun H locs hw => ?_)
  refine lv_if_eq (tgt := 25) hx hb dX10_ahead_9 (by decide) (fun hc => ?_) (fun hc => ?_)
  · replace hf := pw_ifp hc hf
    refine lv_iconst (v := -1) hx hb dX10_ahead_25 (by decide) ?_
    exact pw_iret hC hw hf dX10_ahead_26
  · replace hf := pw_ifn hc hf
    refine lv_aload_n hx hb dX10_ahead_12 rfl (lv_at hl 0 rfl) ?_
    refine pg_0_0 hC hw mw_301 dX10_ahead_13 ?_
    refine lv_iload_n hx hb dX10_ahead_16 rfl (lv_at hl 3 rfl) ?_
    refine lv_iload hx hb dX10_ahead_17 (lv_at hl 4 rfl) ?_
    obtain ⟨r2, σ2, h2, hf⟩ := pw_bi_some hf
    refine pw_ci hw (pw_runV (As := [.int x3, .int x4]) (rest := []) hC hw (c_X2_hasEvent  h2) mw_418 wm_X2_hasEvent ⟨Nat.zero_le _, Nat.zero_le _⟩ ⟨rfl, rfl, Nat.le_of_ble_eq_true rfl, Nat.le_of_ble_eq_true rfl⟩ (by decide) rfl rfl rfl hl.1 rfl (Nat.le_of_ble_eq_true rfl) dX10_ahead_19) (fun H locs hw => ?_)
    refine lv_if_ne (tgt := 27) hx hb dX10_ahead_22 (by decide) (fun hc => ?_) (fun hc => ?_)
    · replace hf := pw_ifn hc hf
      refine lv_iload_n hx hb dX10_ahead_27 rfl (lv_at hl 1 rfl) ?_
      refine lv_iload_n hx hb dX10_ahead_28 rfl (lv_at hl 3 rfl) ?_
      refine lv_icmp_ne (tgt := 40) hx hb dX10_ahead_29 (by decide) (fun hc => ?_) (fun hc => ?_)
      · replace hf := pw_ifn hc hf
        exact t_X10_ahead_40 hC   hw (lv_sub hl [0, 1, 2, 3, 4] rfl) hf
      · replace hf := pw_ifp hc hf
        refine lv_iload_n hx hb dX10_ahead_32 rfl (lv_at hl 2 rfl) ?_
        refine lv_iload hx hb dX10_ahead_33 (lv_at hl 4 rfl) ?_
        refine lv_icmp_ne (tgt := 40) hx hb dX10_ahead_35 (by decide) (fun hc => ?_) (fun hc => ?_)
        · replace hf := pw_ifn hc hf
          exact t_X10_ahead_40 hC   hw (lv_sub hl [0, 1, 2, 3, 4] rfl) hf
        · replace hf := pw_ifp hc hf
          refine lv_iconst (v := 0) hx hb dX10_ahead_38 (by decide) ?_
          exact pw_iret hC hw hf dX10_ahead_39
    · replace hf := pw_ifp hc hf
      refine lv_iconst (v := -1) hx hb dX10_ahead_25 (by decide) ?_
      exact pw_iret hC hw hf dX10_ahead_26
-- PerhapsWas clock
def f_X10_clock (x1 : Int32) (x2 : Int32) (x3 : Int32) (σ : pw_St) : Option (Int32 × pw_St) := (pw_bi (f_X2_hasEvent x1 x2 σ) fun r1 σ1 => (if r1 = 0 then (some ((-1 : Int32), σ1)) else (pw_bi (f_X2_hasProcess x3 σ1) fun r2 σ2 => (if r2 = 0 then (some ((-1 : Int32), σ2)) else (pw_bi (f_X2_clockOf x1 x2 x3 σ2) fun r3 σ3 => (some (r3, σ3)))))))
def rm_X10_clock : Room := { frames := 2, cells := 0, slots := 0, locals := 43 }
set_option maxHeartbeats 4000000 in
set_option maxRecDepth 100000 in
theorem c_X10_clock {l : Launch} {G : pw_Gh} {x1 : Int32} {x2 : Int32} {x3 : Int32} {σ : pw_St} {r : Int32} {τ : pw_St} (hf : f_X10_clock x1 x2 x3 σ = some (r, τ)) : Met l yX10_clock (.code yX10_clock cX10_clock 4 (some .int) :: pw_BW) rm_X10_clock (pw_Pc G [.ref (pw_ad G 0), .int x1, .int x2, .int x3] σ) (pw_Qi G r τ) 0 0 (pw_gA G) := by
  refine pw_met (by decide +kernel) (Nat.le_of_ble_eq_true rfl) ?_
  intro p e s m args below meth c ls hC hw hl
  replace hl : lv_has ls 4 [(0, .ref (pw_ad G 0)), (1, .int x1), (2, .int x2), (3, .int x3)] := hl
  have hx := hC.1
  have hb := hC.2.1
  unfold f_X10_clock at hf
  refine lv_aload_n hx hb dX10_clock_0 rfl (lv_at hl 0 rfl) ?_
  refine pg_0_0 hC hw mw_301 dX10_clock_1 ?_
  refine lv_iload_n hx hb dX10_clock_4 rfl (lv_at hl 1 rfl) ?_
  refine lv_iload_n hx hb dX10_clock_5 rfl (lv_at hl 2 rfl) ?_
  obtain ⟨r1, σ1, h1, hf⟩ := pw_bi_some hf
  refine pw_ci hw (pw_runV (As := [.int x1, .int x2]) (rest := []) hC hw (c_X2_hasEvent  h1) mw_418 wm_X2_hasEvent ⟨Nat.zero_le _, Nat.zero_le _⟩ ⟨rfl, rfl, Nat.le_of_ble_eq_true rfl, Nat.le_of_ble_eq_true rfl⟩ (by decide) rfl rfl rfl hl.1 rfl (Nat.le_of_ble_eq_true rfl) dX10_clock_6) (fun H locs hw => ?_)
  refine lv_if_eq (tgt := 23) hx hb dX10_clock_9 (by decide) (fun hc => ?_) (fun hc => ?_)
  · replace hf := pw_ifp hc hf
    refine lv_iconst (v := -1) hx hb dX10_clock_23 (by decide) ?_
    exact pw_iret hC hw hf dX10_clock_24
  · replace hf := pw_ifn hc hf
    refine lv_aload_n hx hb dX10_clock_12 rfl (lv_at hl 0 rfl) ?_
    refine pg_0_0 hC hw mw_301 dX10_clock_13 ?_
    refine lv_iload_n hx hb dX10_clock_16 rfl (lv_at hl 3 rfl) ?_
    obtain ⟨r2, σ2, h2, hf⟩ := pw_bi_some hf
    refine pw_ci hw (pw_runV (As := [.int x3]) (rest := []) hC hw (c_X2_hasProcess  h2) mw_337 wm_X2_hasProcess ⟨Nat.zero_le _, Nat.zero_le _⟩ ⟨rfl, rfl, Nat.le_of_ble_eq_true rfl, Nat.le_of_ble_eq_true rfl⟩ (by decide) rfl rfl rfl hl.1 rfl (Nat.le_of_ble_eq_true rfl) dX10_clock_17) (fun H locs hw => ?_)
    refine lv_if_ne (tgt := 25) hx hb dX10_clock_20 (by decide) (fun hc => ?_) (fun hc => ?_)
    · replace hf := pw_ifn hc hf
      refine lv_aload_n hx hb dX10_clock_25 rfl (lv_at hl 0 rfl) ?_
      refine pg_0_0 hC hw mw_301 dX10_clock_26 ?_
      refine lv_iload_n hx hb dX10_clock_29 rfl (lv_at hl 1 rfl) ?_
      refine lv_iload_n hx hb dX10_clock_30 rfl (lv_at hl 2 rfl) ?_
      refine lv_iload_n hx hb dX10_clock_31 rfl (lv_at hl 3 rfl) ?_
      obtain ⟨r3, σ3, h3, hf⟩ := pw_bi_some hf
      refine pw_ci hw (pw_runV (As := [.int x1, .int x2, .int x3]) (rest := []) hC hw (c_X2_clockOf  h3) mw_432 wm_X2_clockOf ⟨Nat.zero_le _, Nat.zero_le _⟩ ⟨rfl, rfl, Nat.le_of_ble_eq_true rfl, Nat.le_of_ble_eq_true rfl⟩ (by decide) rfl rfl rfl hl.1 rfl (Nat.le_of_ble_eq_true rfl) dX10_clock_32) (fun H locs hw => ?_)
      exact pw_iret hC hw hf dX10_clock_35
    · replace hf := pw_ifp hc hf
      refine lv_iconst (v := -1) hx hb dX10_clock_23 (by decide) ?_
      exact pw_iret hC hw hf dX10_clock_24
-- PerhapsWas freshNet
def f_X10_freshNet (σ : pw_St) : Option pw_St := (pw_bv (f_X6_refresh σ) fun σ1 => (some σ1))
def rm_X10_freshNet : Room := { frames := 3, cells := 0, slots := 0, locals := 68 }
set_option maxHeartbeats 4000000 in
set_option maxRecDepth 100000 in
theorem c_X10_freshNet {l : Launch} {G : pw_Gh} {σ : pw_St} {τ : pw_St} (hf : f_X10_freshNet σ = some τ) : Met l yX10_freshNet (.code yX10_freshNet cX10_freshNet 1 (some (.object RX6)) :: pw_BW) rm_X10_freshNet (pw_Pc G [.ref (pw_ad G 0)] σ) (pw_Qr G (pw_ad G 3) τ) 0 0 (pw_gA G) := by
  refine pw_met (by decide +kernel) (Nat.le_of_ble_eq_true rfl) ?_
  intro p e s m args below meth c ls hC hw hl
  replace hl : lv_has ls 1 [(0, .ref (pw_ad G 0))] := hl
  have hx := hC.1
  have hb := hC.2.1
  unfold f_X10_freshNet at hf
  refine lv_aload_n hx hb dX10_freshNet_0 rfl (lv_at hl 0 rfl) ?_
  refine pg_0_1 hC hw mw_302 dX10_freshNet_1 ?_
  obtain ⟨σ1, h1, hf⟩ := pw_bv_some hf
  refine pw_cv hw (pw_runV (As := []) (rest := []) hC hw (c_X6_refresh  h1) mw_449 wm_X6_refresh ⟨Nat.zero_le _, Nat.zero_le _⟩ ⟨rfl, rfl, Nat.le_of_ble_eq_true rfl, Nat.le_of_ble_eq_true rfl⟩ (by decide) rfl rfl rfl hl.1 rfl (Nat.le_of_ble_eq_true rfl) dX10_freshNet_4) (fun H locs hw => ?_)
  refine lv_aload_n hx hb dX10_freshNet_7 rfl (lv_at hl 0 rfl) ?_
  refine pg_0_1 hC hw mw_302 dX10_freshNet_8 ?_
  exact pw_aret hC hw hf dX10_freshNet_11
-- PerhapsWas possible
def f_X10_possible (x1 : Int32) (σ : pw_St) : Option (Int32 × pw_St) := (pw_bi (f_X2_hasCut x1 σ) fun r1 σ1 => (if r1 = 0 then (some ((-1 : Int32), σ1)) else (pw_bv (f_X10_freshNet σ1) fun σ2 => (if pw_in x1 2401 = true then (if (σ2.1 23 x1.toNatClampNeg) = 0 then (some ((0 : Int32), σ2)) else (some ((1 : Int32), σ2))) else none))))
def rm_X10_possible : Room := { frames := 4, cells := 0, slots := 0, locals := 88 }
set_option maxHeartbeats 4000000 in
set_option maxRecDepth 100000 in
theorem c_X10_possible {l : Launch} {G : pw_Gh} {x1 : Int32} {σ : pw_St} {r : Int32} {τ : pw_St} (hf : f_X10_possible x1 σ = some (r, τ)) : Met l yX10_possible (.code yX10_possible cX10_possible 2 (some .int) :: pw_BW) rm_X10_possible (pw_Pc G [.ref (pw_ad G 0), .int x1] σ) (pw_Qi G r τ) 0 0 (pw_gA G) := by
  refine pw_met (by decide +kernel) (Nat.le_of_ble_eq_true rfl) ?_
  intro p e s m args below meth c ls hC hw hl
  replace hl : lv_has ls 2 [(0, .ref (pw_ad G 0)), (1, .int x1)] := hl
  have hx := hC.1
  have hb := hC.2.1
  unfold f_X10_possible at hf
  refine lv_aload_n hx hb dX10_possible_0 rfl (lv_at hl 0 rfl) ?_
  refine pg_0_0 hC hw mw_301 dX10_possible_1 ?_
  refine lv_iload_n hx hb dX10_possible_4 rfl (lv_at hl 1 rfl) ?_
  obtain ⟨r1, σ1, h1, hf⟩ := pw_bi_some hf
  refine pw_ci hw (pw_runV (As := [.int x1]) (rest := []) hC hw (c_X2_hasCut  h1) mw_441 wm_X2_hasCut ⟨Nat.zero_le _, Nat.zero_le _⟩ ⟨rfl, rfl, Nat.le_of_ble_eq_true rfl, Nat.le_of_ble_eq_true rfl⟩ (by decide) rfl rfl rfl hl.1 rfl (Nat.le_of_ble_eq_true rfl) dX10_possible_5) (fun H locs hw => ?_)
  refine lv_if_ne (tgt := 13) hx hb dX10_possible_8 (by decide) (fun hc => ?_) (fun hc => ?_)
  · replace hf := pw_ifn hc hf
    refine lv_aload_n hx hb dX10_possible_13 rfl (lv_at hl 0 rfl) ?_
    obtain ⟨σ2, h2, hf⟩ := pw_bv_some hf
    refine pw_cr hw (pw_runV (As := []) (rest := []) hC hw (c_X10_freshNet  h2) mw_445 wm_X10_freshNet ⟨Nat.zero_le _, Nat.zero_le _⟩ ⟨rfl, rfl, Nat.le_of_ble_eq_true rfl, Nat.le_of_ble_eq_true rfl⟩ (by decide) rfl rfl rfl hl.1 rfl (Nat.le_of_ble_eq_true rfl) dX10_possible_14) (fun H locs hw => ?_)
    refine pg_3_2 hC hw mw_157 dX10_possible_17 ?_
    refine lv_iload_n hx hb dX10_possible_20 rfl (lv_at hl 1 rfl) ?_
    obtain ⟨hin, hf⟩ := pw_gd hf
    refine pw_zld hC hw ca_23 hin dX10_possible_21 ?_
    refine lv_if_eq (tgt := 29) hx hb dX10_possible_22 (by decide) (fun hc => ?_) (fun hc => ?_)
    · replace hf := pw_ifp hc hf
      refine lv_iconst (v := 0) hx hb dX10_possible_29 (by decide) ?_
      exact pw_iret hC hw hf dX10_possible_30
    · replace hf := pw_ifn hc hf
      refine lv_iconst (v := 1) hx hb dX10_possible_25 (by decide) ?_
      refine lv_goto (tgt := 30) hx hb dX10_possible_26 (by decide) ?_
      exact pw_iret hC hw hf dX10_possible_30
  · replace hf := pw_ifp hc hf
    refine lv_iconst (v := -1) hx hb dX10_possible_11 (by decide) ?_
    exact pw_iret hC hw hf dX10_possible_12
-- PerhapsWas cuts
def f_X10_cuts (x1 : Int32) (σ : pw_St) : Option (Int32 × pw_St) := (if (-1 : Int32) ≤ x1 then (pw_bv (f_X10_freshNet σ) fun σ1 => (if x1 = (-1 : Int32) then (some ((σ1.1 3 5), σ1)) else (pw_bi (f_X6_howManyOf x1 σ1) fun r2 σ2 => (some (r2, σ2))))) else (some ((-2 : Int32), σ)))
def rm_X10_cuts : Room := { frames := 4, cells := 0, slots := 0, locals := 88 }
set_option maxHeartbeats 4000000 in
set_option maxRecDepth 100000 in
theorem c_X10_cuts {l : Launch} {G : pw_Gh} {x1 : Int32} {σ : pw_St} {r : Int32} {τ : pw_St} (hf : f_X10_cuts x1 σ = some (r, τ)) : Met l yX10_cuts (.code yX10_cuts cX10_cuts 3 (some .int) :: pw_BW) rm_X10_cuts (pw_Pc G [.ref (pw_ad G 0), .int x1] σ) (pw_Qi G r τ) 0 0 (pw_gA G) := by
  refine pw_met (by decide +kernel) (Nat.le_of_ble_eq_true rfl) ?_
  intro p e s m args below meth c ls hC hw hl
  replace hl : lv_has ls 3 [(0, .ref (pw_ad G 0)), (1, .int x1)] := hl
  have hx := hC.1
  have hb := hC.2.1
  unfold f_X10_cuts at hf
  refine lv_iload_n hx hb dX10_cuts_0 rfl (lv_at hl 1 rfl) ?_
  refine lv_iconst (v := -1) hx hb dX10_cuts_1 (by decide) ?_
  refine lv_icmp_ge (tgt := 8) hx hb dX10_cuts_2 (by decide) (fun hc => ?_) (fun hc => ?_)
  · replace hf := pw_ifp hc hf
    refine lv_aload_n hx hb dX10_cuts_8 rfl (lv_at hl 0 rfl) ?_
    obtain ⟨σ1, h1, hf⟩ := pw_bv_some hf
    refine pw_cr hw (pw_runV (As := []) (rest := []) hC hw (c_X10_freshNet  h1) mw_445 wm_X10_freshNet ⟨Nat.zero_le _, Nat.zero_le _⟩ ⟨rfl, rfl, Nat.le_of_ble_eq_true rfl, Nat.le_of_ble_eq_true rfl⟩ (by decide) rfl rfl rfl hl.1 rfl (Nat.le_of_ble_eq_true rfl) dX10_cuts_9) (fun H locs hw => ?_)
    refine lv_astore_n (lv' := [(2, .ref (pw_ad G 3)), (0, .ref (pw_ad G 0)), (1, .int x1)]) hx hb dX10_cuts_12 rfl hl (by decide) rfl (fun ls hl => ?_)
    refine lv_iload_n hx hb dX10_cuts_13 rfl (lv_at hl 2 rfl) ?_
    refine lv_iconst (v := -1) hx hb dX10_cuts_14 (by decide) ?_
    refine lv_icmp_ne (tgt := 25) hx hb dX10_cuts_15 (by decide) (fun hc => ?_) (fun hc => ?_)
    · replace hf := pw_ifn hc hf
      refine lv_aload_n hx hb dX10_cuts_25 rfl (lv_at hl 0 rfl) ?_
      refine lv_iload_n hx hb dX10_cuts_26 rfl (lv_at hl 2 rfl) ?_
      obtain ⟨r2, σ2, h2, hf⟩ := pw_bi_some hf
      refine pw_ci hw (pw_runV (As := [.int x1]) (rest := []) hC hw (c_X6_howManyOf  h2) mw_475 wm_X6_howManyOf ⟨Nat.zero_le _, Nat.zero_le _⟩ ⟨rfl, rfl, Nat.le_of_ble_eq_true rfl, Nat.le_of_ble_eq_true rfl⟩ (by decide) rfl rfl rfl hl.1 rfl (Nat.le_of_ble_eq_true rfl) dX10_cuts_27) (fun H locs hw => ?_)
      exact pw_iret hC hw hf dX10_cuts_30
    · replace hf := pw_ifp hc hf
      refine lv_aload_n hx hb dX10_cuts_18 rfl (lv_at hl 0 rfl) ?_
      refine pg_3_5 hC hw mw_163 dX10_cuts_19 ?_
      refine lv_goto (tgt := 30) hx hb dX10_cuts_22 (by decide) ?_
      exact pw_iret hC hw hf dX10_cuts_30
  · replace hf := pw_ifn hc hf
    refine lv_bipush (v := -2) hx hb dX10_cuts_5 (by decide) ?_
    exact pw_iret hC hw hf dX10_cuts_7
end PM
