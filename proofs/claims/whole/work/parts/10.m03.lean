section PM
variable {p : Program} {l : Launch} {e : Env} {s : State} {m : MethodId} {args : Array Value} {below : List Frame} {meth : Method} {c : Code} {G : pw_Gh}
-- PerhapsWas$Net refresh
def b_X6_refresh_113 (σ : pw_St) : Option pw_St := (pw_bv (f_X6_sortBySize σ) fun σ1 => (some σ1))
def b_X6_refresh_106 (k70 : Int32 → pw_St → Option pw_St) (x1 : Int32) (y0 : Int32) (y1 : Int32) (σ : pw_St) : Option pw_St := (if pw_in y1 2401 = true then (pw_lt (pw_sM σ 23 y1.toNatClampNeg (vp_nar .boolean y0)) fun σ1 => (k70 (x1 + (1 : Int32)) σ1)) else none)
def b_X6_refresh_105 (k70 : Int32 → pw_St → Option pw_St) (x1 : Int32) (y0 : Int32) (σ : pw_St) : Option pw_St := (b_X6_refresh_106 k70 x1 (0 : Int32) y0 σ)
def b_X6_refresh_70 (k70 : Int32 → pw_St → Option pw_St) (x1 : Int32) (σ : pw_St) : Option pw_St := (if (2401 : Int32) ≤ x1 then (b_X6_refresh_113  σ) else (pw_bi (f_X2_hasCut x1 σ) fun r1 σ1 => (if r1 = 0 then (b_X6_refresh_105 k70 x1 x1 σ1) else (pw_bi (f_X6_isClosed x1 σ1) fun r2 σ2 => (if r2 = 0 then (b_X6_refresh_105 k70 x1 x1 σ2) else (b_X6_refresh_106 k70 x1 (1 : Int32) x1 σ2))))))
def l_X6_refresh_70 : Nat → Int32 → pw_St → Option pw_St
  | 0 => fun _ _ => none
  | n + 1 => fun x1 σ => b_X6_refresh_70  (l_X6_refresh_70  n) x1 σ
def b_X6_refresh_33 (k33 : Int32 → pw_St → Option pw_St) (x1 : Int32) (σ : pw_St) : Option pw_St := (if (4 : Int32) ≤ x1 then (l_X6_refresh_70  pw_FU (0 : Int32) σ) else (if pw_in x1 4 = true then (if pw_in x1 4 = true then (pw_lt (pw_sM σ 3 6 ((σ.1 3 6) + ((σ.1 11 x1.toNatClampNeg) * (pw_wt x1.toNatClampNeg)))) fun σ1 => (k33 (x1 + (1 : Int32)) σ1)) else none) else none))
def l_X6_refresh_33 : Nat → Int32 → pw_St → Option pw_St
  | 0 => fun _ _ => none
  | n + 1 => fun x1 σ => b_X6_refresh_33  (l_X6_refresh_33  n) x1 σ
def f_X6_refresh (σ : pw_St) : Option pw_St := (if (σ.1 3 7) = (σ.1 1 10) then (some σ) else (pw_lt (pw_sM σ 3 7 (σ.1 1 10)) fun σ1 => (pw_lt (pw_sM σ1 3 6 (0 : Int32)) fun σ2 => (l_X6_refresh_33  pw_FU (0 : Int32) σ2))))
def rm_X6_refresh : Room := { frames := 2, cells := 0, slots := 0, locals := 47 }
set_option maxHeartbeats 4000000 in
set_option maxRecDepth 100000 in
theorem t_X6_refresh_113 (hC : pw_CX G RX6 cX6_refresh 2 none p s m args meth c) {τ : pw_St} {σ : pw_St} {H : Heap} {locs : List Loc} {ls : Array Slot} (hw : pw_WH G σ s.heap H locs) (hl : lv_has ls 2 [(0, .ref (pw_ad G 3))]) (hf : b_X6_refresh_113 σ = some τ) : W p l e rm_X6_refresh s m args below meth c H locs 0 0 (MQ below (pw_Qv G τ) args s 0 0 (pw_gA G)) (F0 m 113 ls []) := by
  have hx := hC.1
  have hb := hC.2.1
  unfold b_X6_refresh_113 at hf
  refine lv_aload_n hx hb dX6_refresh_113 rfl (lv_at hl 0 rfl) ?_
  obtain ⟨σ1, h1, hf⟩ := pw_bv_some hf
  refine pw_cv hw (pw_runV (As := []) (rest := []) hC hw (c_X6_sortBySize  h1) mw_461 wm_X6_sortBySize ⟨Nat.zero_le _, Nat.zero_le _⟩ ⟨rfl, rfl, Nat.le_of_ble_eq_true rfl, Nat.le_of_ble_eq_true rfl⟩ (by decide) rfl rfl rfl hl.1 rfl (Nat.le_of_ble_eq_true rfl) dX6_refresh_114) (fun H locs hw => ?_)
  exact pw_vret hC hw hf dX6_refresh_117
set_option maxHeartbeats 4000000 in
set_option maxRecDepth 100000 in
theorem t_X6_refresh_106 (hC : pw_CX G RX6 cX6_refresh 2 none p s m args meth c) {k70 : Int32 → pw_St → Option pw_St} {τ : pw_St} (hk70 : ∀ (x1 : Int32), ∀ (σ : pw_St) (H : Heap) (locs : List Loc) (ls : Array Slot), pw_WH G σ s.heap H locs → lv_has ls 2 [(0, .ref (pw_ad G 3)), (1, .int x1)] → k70 x1 σ = some τ → W p l e rm_X6_refresh s m args below meth c H locs 0 0 (MQ below (pw_Qv G τ) args s 0 0 (pw_gA G)) (F0 m 70 ls [])) {x1 : Int32} {y0 : Int32} {y1 : Int32} {σ : pw_St} {H : Heap} {locs : List Loc} {ls : Array Slot} (hw : pw_WH G σ s.heap H locs) (hl : lv_has ls 2 [(0, .ref (pw_ad G 3)), (1, .int x1)]) (hf : b_X6_refresh_106 k70 x1 y0 y1 σ = some τ) : W p l e rm_X6_refresh s m args below meth c H locs 0 0 (MQ below (pw_Qv G τ) args s 0 0 (pw_gA G)) (F0 m 106 ls [.int y0, .int y1, .ref (pw_ad G 23)]) := by
  have hx := hC.1
  have hb := hC.2.1
  unfold b_X6_refresh_106 at hf
  obtain ⟨hin, hf⟩ := pw_gd hf
  refine pw_zst hC hw ca_23 hin dX6_refresh_106 (fun H locs hw => ?_)
  obtain ⟨σ1, e1, hf⟩ := pw_lts hf
  replace hw := pw_WHe e1 hw
  refine lv_iinc (v := (x1 + (1 : Int32))) (lv' := [(1, .int (x1 + (1 : Int32))), (0, .ref (pw_ad G 3))]) hx hb dX6_refresh_107 hl (k := 1) rfl rfl (by decide) rfl (fun ls hl => ?_)
  refine lv_goto (tgt := 70) hx hb dX6_refresh_110 (by decide) ?_
  exact hk70 _ _ _ _ _ hw (lv_sub hl [1, 0] rfl) hf
set_option maxHeartbeats 4000000 in
set_option maxRecDepth 100000 in
theorem t_X6_refresh_105 (hC : pw_CX G RX6 cX6_refresh 2 none p s m args meth c) {k70 : Int32 → pw_St → Option pw_St} {τ : pw_St} (hk70 : ∀ (x1 : Int32), ∀ (σ : pw_St) (H : Heap) (locs : List Loc) (ls : Array Slot), pw_WH G σ s.heap H locs → lv_has ls 2 [(0, .ref (pw_ad G 3)), (1, .int x1)] → k70 x1 σ = some τ → W p l e rm_X6_refresh s m args below meth c H locs 0 0 (MQ below (pw_Qv G τ) args s 0 0 (pw_gA G)) (F0 m 70 ls [])) {x1 : Int32} {y0 : Int32} {σ : pw_St} {H : Heap} {locs : List Loc} {ls : Array Slot} (hw : pw_WH G σ s.heap H locs) (hl : lv_has ls 2 [(0, .ref (pw_ad G 3)), (1, .int x1)]) (hf : b_X6_refresh_105 k70 x1 y0 σ = some τ) : W p l e rm_X6_refresh s m args below meth c H locs 0 0 (MQ below (pw_Qv G τ) args s 0 0 (pw_gA G)) (F0 m 105 ls [.int y0, .ref (pw_ad G 23)]) := by
  have hx := hC.1
  have hb := hC.2.1
  unfold b_X6_refresh_105 at hf
  refine lv_iconst (v := 0) hx hb dX6_refresh_105 (by decide) ?_
  exact t_X6_refresh_106 hC hk70  hw (lv_sub hl [0, 1] rfl) hf
set_option maxHeartbeats 4000000 in
set_option maxRecDepth 100000 in
theorem t_X6_refresh_70 (hC : pw_CX G RX6 cX6_refresh 2 none p s m args meth c) {k70 : Int32 → pw_St → Option pw_St} {τ : pw_St} (hk70 : ∀ (x1 : Int32), ∀ (σ : pw_St) (H : Heap) (locs : List Loc) (ls : Array Slot), pw_WH G σ s.heap H locs → lv_has ls 2 [(0, .ref (pw_ad G 3)), (1, .int x1)] → k70 x1 σ = some τ → W p l e rm_X6_refresh s m args below meth c H locs 0 0 (MQ below (pw_Qv G τ) args s 0 0 (pw_gA G)) (F0 m 70 ls [])) {x1 : Int32} {σ : pw_St} {H : Heap} {locs : List Loc} {ls : Array Slot} (hw : pw_WH G σ s.heap H locs) (hl : lv_has ls 2 [(0, .ref (pw_ad G 3)), (1, .int x1)]) (hf : b_X6_refresh_70 k70 x1 σ = some τ) : W p l e rm_X6_refresh s m args below meth c H locs 0 0 (MQ below (pw_Qv G τ) args s 0 0 (pw_gA G)) (F0 m 70 ls []) := by
  have hx := hC.1
  have hb := hC.2.1
  unfold b_X6_refresh_70 at hf
  refine lv_iload_n hx hb dX6_refresh_70 rfl (lv_at hl 1 rfl) ?_
  refine lv_sipush (v := 2401) hx hb dX6_refresh_71 (by decide) ?_
  refine lv_icmp_ge (tgt := 113) hx hb dX6_refresh_74 (by decide) (fun hc => ?_) (fun hc => ?_)
  · replace hf := pw_ifp hc hf
    exact t_X6_refresh_113 hC   hw (lv_sub hl [0] rfl) hf
  · replace hf := pw_ifn hc hf
    refine lv_aload_n hx hb dX6_refresh_77 rfl (lv_at hl 0 rfl) ?_
    refine pg_3_2 hC hw mw_156 dX6_refresh_78 ?_
    refine lv_iload_n hx hb dX6_refresh_81 rfl (lv_at hl 1 rfl) ?_
    refine lv_aload_n hx hb dX6_refresh_82 rfl (lv_at hl 0 rfl) ?_
    refine pg_3_0 hC hw mw_151 dX6_refresh_83 ?_
    refine lv_iload_n hx hb dX6_refresh_86 rfl (lv_at hl 1 rfl) ?_
    obtain ⟨r1, σ1, h1, hf⟩ := pw_bi_some hf
    refine pw_ci hw (pw_runV (As := [.int x1]) (rest := [.int x1, .ref (pw_ad G 23)]) hC hw (c_X2_hasCut  h1) mw_455 wm_X2_hasCut ⟨Nat.zero_le _, Nat.zero_le _⟩ ⟨rfl, rfl, Nat.le_of_ble_eq_true rfl, Nat.le_of_ble_eq_true rfl⟩ (by decide) rfl rfl rfl hl.1 rfl (Nat.le_of_ble_eq_true rfl) dX6_refresh_87) (fun H locs hw => ?_)
    refine lv_if_eq (tgt := 105) hx hb dX6_refresh_90 (by decide) (fun hc => ?_) (fun hc => ?_)
    · replace hf := pw_ifp hc hf
      exact t_X6_refresh_105 hC hk70  hw (lv_sub hl [0, 1] rfl) hf
    · replace hf := pw_ifn hc hf
      refine lv_aload_n hx hb dX6_refresh_93 rfl (lv_at hl 0 rfl) ?_
      refine lv_iload_n hx hb dX6_refresh_94 rfl (lv_at hl 1 rfl) ?_
      obtain ⟨r2, σ2, h2, hf⟩ := pw_bi_some hf
      refine pw_ci hw (pw_runV (As := [.int x1]) (rest := [.int x1, .ref (pw_ad G 23)]) hC hw (c_X6_isClosed  h2) mw_456 wm_X6_isClosed ⟨Nat.zero_le _, Nat.zero_le _⟩ ⟨rfl, rfl, Nat.le_of_ble_eq_true rfl, Nat.le_of_ble_eq_true rfl⟩ (by decide) rfl rfl rfl hl.1 rfl (Nat.le_of_ble_eq_true rfl) dX6_refresh_95) (fun H locs hw => ?_)
      refine lv_if_eq (tgt := 105) hx hb dX6_refresh_98 (by decide) (fun hc => ?_) (fun hc => ?_)
      · replace hf := pw_ifp hc hf
        exact t_X6_refresh_105 hC hk70  hw (lv_sub hl [0, 1] rfl) hf
      · replace hf := pw_ifn hc hf
        refine lv_iconst (v := 1) hx hb dX6_refresh_101 (by decide) ?_
        refine lv_goto (tgt := 106) hx hb dX6_refresh_102 (by decide) ?_
        exact t_X6_refresh_106 hC hk70  hw (lv_sub hl [0, 1] rfl) hf
set_option maxHeartbeats 4000000 in
theorem tl_X6_refresh_70 (hC : pw_CX G RX6 cX6_refresh 2 none p s m args meth c) {τ : pw_St} : ∀ (n : Nat) (x1 : Int32) (σ : pw_St) (H : Heap) (locs : List Loc) (ls : Array Slot), pw_WH G σ s.heap H locs → lv_has ls 2 [(0, .ref (pw_ad G 3)), (1, .int x1)] → l_X6_refresh_70  n x1 σ = some τ → W p l e rm_X6_refresh s m args below meth c H locs 0 0 (MQ below (pw_Qv G τ) args s 0 0 (pw_gA G)) (F0 m 70 ls []) := by
  intro n
  induction n with
  | zero => intro x1 σ H locs ls hw hl hf; cases hf
  | succ n ih => intro x1 σ H locs ls hw hl hf; exact t_X6_refresh_70 hC ih  hw hl hf
set_option maxHeartbeats 4000000 in
set_option maxRecDepth 100000 in
theorem t_X6_refresh_33 (hC : pw_CX G RX6 cX6_refresh 2 none p s m args meth c) {k33 : Int32 → pw_St → Option pw_St} {τ : pw_St} (hk33 : ∀ (x1 : Int32), ∀ (σ : pw_St) (H : Heap) (locs : List Loc) (ls : Array Slot), pw_WH G σ s.heap H locs → lv_has ls 2 [(0, .ref (pw_ad G 3)), (1, .int x1)] → k33 x1 σ = some τ → W p l e rm_X6_refresh s m args below meth c H locs 0 0 (MQ below (pw_Qv G τ) args s 0 0 (pw_gA G)) (F0 m 33 ls [])) {x1 : Int32} {σ : pw_St} {H : Heap} {locs : List Loc} {ls : Array Slot} (hw : pw_WH G σ s.heap H locs) (hl : lv_has ls 2 [(0, .ref (pw_ad G 3)), (1, .int x1)]) (hf : b_X6_refresh_33 k33 x1 σ = some τ) : W p l e rm_X6_refresh s m args below meth c H locs 0 0 (MQ below (pw_Qv G τ) args s 0 0 (pw_gA G)) (F0 m 33 ls []) := by
  have hx := hC.1
  have hb := hC.2.1
  unfold b_X6_refresh_33 at hf
  refine lv_iload_n hx hb dX6_refresh_33 rfl (lv_at hl 1 rfl) ?_
  refine lv_iconst (v := 4) hx hb dX6_refresh_34 (by decide) ?_
  refine lv_icmp_ge (tgt := 68) hx hb dX6_refresh_35 (by decide) (fun hc => ?_) (fun hc => ?_)
  · replace hf := pw_ifp hc hf
    refine lv_iconst (v := 0) hx hb dX6_refresh_68 (by decide) ?_
    refine lv_istore_n (lv' := [(1, .int (0 : Int32)), (0, .ref (pw_ad G 3))]) hx hb dX6_refresh_69 rfl hl (by decide) rfl (fun ls hl => ?_)
    exact tl_X6_refresh_70 hC  pw_FU _ _ _ _ _ hw (lv_sub hl [1, 0] rfl) hf
  · replace hf := pw_ifn hc hf
    refine lv_aload_n hx hb dX6_refresh_38 rfl (lv_at hl 0 rfl) ?_
    refine lv_dup hx hb dX6_refresh_39 rfl ?_
    refine pg_3_6 hC hw mw_165 dX6_refresh_40 ?_
    refine lv_aload_n hx hb dX6_refresh_43 rfl (lv_at hl 0 rfl) ?_
    refine pg_3_0 hC hw mw_151 dX6_refresh_44 ?_
    refine pg_1_1 hC hw mw_104 dX6_refresh_47 ?_
    refine lv_iload_n hx hb dX6_refresh_50 rfl (lv_at hl 1 rfl) ?_
    obtain ⟨hin, hf⟩ := pw_gd hf
    refine pw_ild hC hw ca_11 hin dX6_refresh_51 ?_
    refine pw_wget hC hw hC.2.2.2.2.2.1.2.2.2.2.1 dX6_refresh_52 ?_
    refine lv_iload_n hx hb dX6_refresh_55 rfl (lv_at hl 1 rfl) ?_
    obtain ⟨hin, hf⟩ := pw_gd hf
    refine pw_wld hC hw hin dX6_refresh_56 ?_
    refine lv_imul hx hb dX6_refresh_57 ?_
    refine lv_iadd hx hb dX6_refresh_58 ?_
    refine pp_3_6 hC hw mw_165 dX6_refresh_59 (fun H locs hw => ?_)
    obtain ⟨σ1, e1, hf⟩ := pw_lts hf
    replace hw := pw_WHe e1 hw
    refine lv_iinc (v := (x1 + (1 : Int32))) (lv' := [(1, .int (x1 + (1 : Int32))), (0, .ref (pw_ad G 3))]) hx hb dX6_refresh_62 hl (k := 1) rfl rfl (by decide) rfl (fun ls hl => ?_)
    refine lv_goto (tgt := 33) hx hb dX6_refresh_65 (by decide) ?_
    exact hk33 _ _ _ _ _ hw (lv_sub hl [1, 0] rfl) hf
set_option maxHeartbeats 4000000 in
theorem tl_X6_refresh_33 (hC : pw_CX G RX6 cX6_refresh 2 none p s m args meth c) {τ : pw_St} : ∀ (n : Nat) (x1 : Int32) (σ : pw_St) (H : Heap) (locs : List Loc) (ls : Array Slot), pw_WH G σ s.heap H locs → lv_has ls 2 [(0, .ref (pw_ad G 3)), (1, .int x1)] → l_X6_refresh_33  n x1 σ = some τ → W p l e rm_X6_refresh s m args below meth c H locs 0 0 (MQ below (pw_Qv G τ) args s 0 0 (pw_gA G)) (F0 m 33 ls []) := by
  intro n
  induction n with
  | zero => intro x1 σ H locs ls hw hl hf; cases hf
  | succ n ih => intro x1 σ H locs ls hw hl hf; exact t_X6_refresh_33 hC ih  hw hl hf
set_option maxHeartbeats 4000000 in
set_option maxRecDepth 100000 in
theorem c_X6_refresh {l : Launch} {G : pw_Gh} {σ : pw_St} {τ : pw_St} (hf : f_X6_refresh σ = some τ) : Met l yX6_refresh (.code yX6_refresh cX6_refresh 2 none :: pw_BW) rm_X6_refresh (pw_Pc G [.ref (pw_ad G 3)] σ) (pw_Qv G τ) 0 0 (pw_gA G) := by
  refine pw_met (by decide +kernel) (Nat.le_of_ble_eq_true rfl) ?_
  intro p e s m args below meth c ls hC hw hl
  replace hl : lv_has ls 2 [(0, .ref (pw_ad G 3))] := hl
  have hx := hC.1
  have hb := hC.2.1
  unfold f_X6_refresh at hf
  refine lv_aload_n hx hb dX6_refresh_0 rfl (lv_at hl 0 rfl) ?_
  refine pg_3_7 hC hw mw_166 dX6_refresh_1 ?_
  refine lv_aload_n hx hb dX6_refresh_4 rfl (lv_at hl 0 rfl) ?_
  refine pg_3_0 hC hw mw_151 dX6_refresh_5 ?_
  refine pg_1_10 hC hw mw_120 dX6_refresh_8 ?_
  refine lv_icmp_ne (tgt := 15) hx hb dX6_refresh_11 (by decide) (fun hc => ?_) (fun hc => ?_)
  · replace hf := pw_ifn hc hf
    refine lv_aload_n hx hb dX6_refresh_15 rfl (lv_at hl 0 rfl) ?_
    refine lv_aload_n hx hb dX6_refresh_16 rfl (lv_at hl 0 rfl) ?_
    refine pg_3_0 hC hw mw_151 dX6_refresh_17 ?_
    refine pg_1_10 hC hw mw_120 dX6_refresh_20 ?_
    refine pp_3_7 hC hw mw_166 dX6_refresh_23 (fun H locs hw => ?_)
    obtain ⟨σ1, e1, hf⟩ := pw_lts hf
    replace hw := pw_WHe e1 hw
    refine lv_aload_n hx hb dX6_refresh_26 rfl (lv_at hl 0 rfl) ?_
    refine lv_iconst (v := 0) hx hb dX6_refresh_27 (by decide) ?_
    refine pp_3_6 hC hw mw_165 dX6_refresh_28 (fun H locs hw => ?_)
    obtain ⟨σ2, e2, hf⟩ := pw_lts hf
    replace hw := pw_WHe e2 hw
    refine lv_iconst (v := 0) hx hb dX6_refresh_31 (by decide) ?_
    refine lv_istore_n (lv' := [(1, .int (0 : Int32)), (0, .ref (pw_ad G 3))]) hx hb dX6_refresh_32 rfl hl (by decide) rfl (fun ls hl => ?_)
    exact tl_X6_refresh_33 hC  pw_FU _ _ _ _ _ hw (lv_sub hl [1, 0] rfl) hf
  · replace hf := pw_ifp hc hf
    exact pw_vret hC hw hf dX6_refresh_14
-- PerhapsWas$Net howManyOf
def f_X6_howManyOf (x1 : Int32) (σ : pw_St) : Option (Int32 × pw_St) := (if x1 < 0 then (some ((0 : Int32), σ)) else (if x1 ≤ (24 : Int32) then (if x1 = 0 then (if pw_in (0 : Int32) 25 = true then (some ((σ.1 24 (0 : Int32).toNatClampNeg), σ)) else none) else (if pw_in x1 25 = true then (if pw_in (x1 - (1 : Int32)) 25 = true then (some (((σ.1 24 x1.toNatClampNeg) - (σ.1 24 (x1 - (1 : Int32)).toNatClampNeg)), σ)) else none) else none)) else (some ((0 : Int32), σ))))
def rm_X6_howManyOf : Room := { frames := 0, cells := 0, slots := 0, locals := 0 }
set_option maxHeartbeats 4000000 in
set_option maxRecDepth 100000 in
theorem c_X6_howManyOf {l : Launch} {G : pw_Gh} {x1 : Int32} {σ : pw_St} {r : Int32} {τ : pw_St} (hf : f_X6_howManyOf x1 σ = some (r, τ)) : Met l yX6_howManyOf (.code yX6_howManyOf cX6_howManyOf 2 (some .int) :: pw_BW) rm_X6_howManyOf (pw_Pc G [.ref (pw_ad G 3), .int x1] σ) (pw_Qi G r τ) 0 0 (pw_gA G) := by
  refine pw_met (by decide +kernel) (Nat.le_of_ble_eq_true rfl) ?_
  intro p e s m args below meth c ls hC hw hl
  replace hl : lv_has ls 2 [(0, .ref (pw_ad G 3)), (1, .int x1)] := hl
  have hx := hC.1
  have hb := hC.2.1
  unfold f_X6_howManyOf at hf
  refine lv_iload_n hx hb dX6_howManyOf_0 rfl (lv_at hl 1 rfl) ?_
  refine lv_if_lt (tgt := 10) hx hb dX6_howManyOf_1 (by decide) (fun hc => ?_) (fun hc => ?_)
  · replace hf := pw_ifp hc hf
    refine lv_iconst (v := 0) hx hb dX6_howManyOf_10 (by decide) ?_
    exact pw_iret hC hw hf dX6_howManyOf_11
  · replace hf := pw_ifn hc hf
    refine lv_iload_n hx hb dX6_howManyOf_4 rfl (lv_at hl 1 rfl) ?_
    refine lv_bipush (v := 24) hx hb dX6_howManyOf_5 (by decide) ?_
    refine lv_icmp_le (tgt := 12) hx hb dX6_howManyOf_7 (by decide) (fun hc => ?_) (fun hc => ?_)
    · replace hf := pw_ifp hc hf
      refine lv_iload_n hx hb dX6_howManyOf_12 rfl (lv_at hl 1 rfl) ?_
      refine lv_if_ne (tgt := 25) hx hb dX6_howManyOf_13 (by decide) (fun hc => ?_) (fun hc => ?_)
      · replace hf := pw_ifn hc hf
        refine lv_aload_n hx hb dX6_howManyOf_25 rfl (lv_at hl 0 rfl) ?_
        refine pg_3_3 hC hw mw_158 dX6_howManyOf_26 ?_
        refine lv_iload_n hx hb dX6_howManyOf_29 rfl (lv_at hl 1 rfl) ?_
        obtain ⟨hin, hf⟩ := pw_gd hf
        refine pw_ild hC hw ca_24 hin dX6_howManyOf_30 ?_
        refine lv_aload_n hx hb dX6_howManyOf_31 rfl (lv_at hl 0 rfl) ?_
        refine pg_3_3 hC hw mw_158 dX6_howManyOf_32 ?_
        refine lv_iload_n hx hb dX6_howManyOf_35 rfl (lv_at hl 1 rfl) ?_
        refine lv_iconst (v := 1) hx hb dX6_howManyOf_36 (by decide) ?_
        refine lv_isub hx hb dX6_howManyOf_37 ?_
        obtain ⟨hin, hf⟩ := pw_gd hf
        refine pw_ild hC hw ca_24 hin dX6_howManyOf_38 ?_
        refine lv_isub hx hb dX6_howManyOf_39 ?_
        exact pw_iret hC hw hf dX6_howManyOf_40
      · replace hf := pw_ifp hc hf
        refine lv_aload_n hx hb dX6_howManyOf_16 rfl (lv_at hl 0 rfl) ?_
        refine pg_3_3 hC hw mw_158 dX6_howManyOf_17 ?_
        refine lv_iconst (v := 0) hx hb dX6_howManyOf_20 (by decide) ?_
        obtain ⟨hin, hf⟩ := pw_gd hf
        refine pw_ild hC hw ca_24 hin dX6_howManyOf_21 ?_
        refine lv_goto (tgt := 40) hx hb dX6_howManyOf_22 (by decide) ?_
        exact pw_iret hC hw hf dX6_howManyOf_40
    · replace hf := pw_ifn hc hf
      refine lv_iconst (v := 0) hx hb dX6_howManyOf_10 (by decide) ?_
      exact pw_iret hC hw hf dX6_howManyOf_11
-- PerhapsWas$Net firstBehind
def b_X6_firstBehind_50 (x3 : Int32) (σ : pw_St) : Option (Int32 × pw_St) := (if pw_in x3 2401 = true then (some ((σ.1 22 x3.toNatClampNeg), σ)) else none)
def b_X6_firstBehind_22 (k22 : Int32 → Int32 → Int32 → pw_St → Option (Int32 × pw_St)) (x1 : Int32) (x2 : Int32) (x3 : Int32) (σ : pw_St) : Option (Int32 × pw_St) := (if (σ.1 3 5) ≤ x3 then (some ((-1 : Int32), σ)) else (if pw_in x3 2401 = true then (if x1 < (σ.1 22 x3.toNatClampNeg) then (b_X6_firstBehind_50  x3 σ) else (if pw_in x2 25 = true then (if x3 < (σ.1 24 x2.toNatClampNeg) then (k22 x1 x2 (x3 + (1 : Int32)) σ) else (b_X6_firstBehind_50  x3 σ)) else none)) else none))
def l_X6_firstBehind_22 : Nat → Int32 → Int32 → Int32 → pw_St → Option (Int32 × pw_St)
  | 0 => fun _ _ _ _ => none
  | n + 1 => fun x1 x2 x3 σ => b_X6_firstBehind_22  (l_X6_firstBehind_22  n) x1 x2 x3 σ
def f_X6_firstBehind (x1 : Int32) (σ : pw_St) : Option (Int32 × pw_St) := (pw_bi (f_X6_sizeOf x1 σ) fun r1 σ1 => (if r1 = 0 then (l_X6_firstBehind_22  pw_FU x1 r1 (0 : Int32) σ1) else (if pw_in (r1 - (1 : Int32)) 25 = true then (l_X6_firstBehind_22  pw_FU x1 r1 (σ1.1 24 (r1 - (1 : Int32)).toNatClampNeg) σ1) else none)))
def rm_X6_firstBehind : Room := { frames := 1, cells := 0, slots := 0, locals := 23 }
set_option maxHeartbeats 4000000 in
set_option maxRecDepth 100000 in
theorem t_X6_firstBehind_50 (hC : pw_CX G RX6 cX6_firstBehind 4 (some .int) p s m args meth c) {r : Int32} {τ : pw_St} {x3 : Int32} {σ : pw_St} {H : Heap} {locs : List Loc} {ls : Array Slot} (hw : pw_WH G σ s.heap H locs) (hl : lv_has ls 4 [(0, .ref (pw_ad G 3)), (3, .int x3)]) (hf : b_X6_firstBehind_50 x3 σ = some (r, τ)) : W p l e rm_X6_firstBehind s m args below meth c H locs 0 0 (MQ below (pw_Qi G r τ) args s 0 0 (pw_gA G)) (F0 m 50 ls []) := by
  have hx := hC.1
  have hb := hC.2.1
  unfold b_X6_firstBehind_50 at hf
  refine lv_aload_n hx hb dX6_firstBehind_50 rfl (lv_at hl 0 rfl) ?_
  refine pg_3_1 hC hw mw_152 dX6_firstBehind_51 ?_
  refine lv_iload_n hx hb dX6_firstBehind_54 rfl (lv_at hl 1 rfl) ?_
  obtain ⟨hin, hf⟩ := pw_gd hf
  refine pw_ild hC hw ca_22 hin dX6_firstBehind_55 ?_
  exact pw_iret hC hw hf dX6_firstBehind_56
set_option maxHeartbeats 4000000 in
set_option maxRecDepth 100000 in
theorem t_X6_firstBehind_22 (hC : pw_CX G RX6 cX6_firstBehind 4 (some .int) p s m args meth c) {k22 : Int32 → Int32 → Int32 → pw_St → Option (Int32 × pw_St)} {r : Int32} {τ : pw_St} (hk22 : ∀ (x1 : Int32), ∀ (x2 : Int32), ∀ (x3 : Int32), ∀ (σ : pw_St) (H : Heap) (locs : List Loc) (ls : Array Slot), pw_WH G σ s.heap H locs → lv_has ls 4 [(0, .ref (pw_ad G 3)), (1, .int x1), (2, .int x2), (3, .int x3)] → k22 x1 x2 x3 σ = some (r, τ) → W p l e rm_X6_firstBehind s m args below meth c H locs 0 0 (MQ below (pw_Qi G r τ) args s 0 0 (pw_gA G)) (F0 m 22 ls [])) {x1 : Int32} {x2 : Int32} {x3 : Int32} {σ : pw_St} {H : Heap} {locs : List Loc} {ls : Array Slot} (hw : pw_WH G σ s.heap H locs) (hl : lv_has ls 4 [(0, .ref (pw_ad G 3)), (1, .int x1), (2, .int x2), (3, .int x3)]) (hf : b_X6_firstBehind_22 k22 x1 x2 x3 σ = some (r, τ)) : W p l e rm_X6_firstBehind s m args below meth c H locs 0 0 (MQ below (pw_Qi G r τ) args s 0 0 (pw_gA G)) (F0 m 22 ls []) := by
  have hx := hC.1
  have hb := hC.2.1
  unfold b_X6_firstBehind_22 at hf
  refine lv_iload_n hx hb dX6_firstBehind_22 rfl (lv_at hl 3 rfl) ?_
  refine lv_aload_n hx hb dX6_firstBehind_23 rfl (lv_at hl 0 rfl) ?_
  refine pg_3_5 hC hw mw_162 dX6_firstBehind_24 ?_
  refine lv_icmp_ge (tgt := 63) hx hb dX6_firstBehind_27 (by decide) (fun hc => ?_) (fun hc => ?_)
  · replace hf := pw_ifp hc hf
    refine lv_iconst (v := -1) hx hb dX6_firstBehind_63 (by decide) ?_
    exact pw_iret hC hw hf dX6_firstBehind_64
  · replace hf := pw_ifn hc hf
    refine lv_aload_n hx hb dX6_firstBehind_30 rfl (lv_at hl 0 rfl) ?_
    refine pg_3_1 hC hw mw_152 dX6_firstBehind_31 ?_
    refine lv_iload_n hx hb dX6_firstBehind_34 rfl (lv_at hl 3 rfl) ?_
    obtain ⟨hin, hf⟩ := pw_gd hf
    refine pw_ild hC hw ca_22 hin dX6_firstBehind_35 ?_
    refine lv_iload_n hx hb dX6_firstBehind_36 rfl (lv_at hl 1 rfl) ?_
    refine lv_icmp_gt (tgt := 50) hx hb dX6_firstBehind_37 (by decide) (fun hc => ?_) (fun hc => ?_)
    · replace hf := pw_ifp hc hf
      exact t_X6_firstBehind_50 hC   hw (lv_sub hl [0, 3] rfl) hf
    · replace hf := pw_ifn hc hf
      refine lv_iload_n hx hb dX6_firstBehind_40 rfl (lv_at hl 3 rfl) ?_
      refine lv_aload_n hx hb dX6_firstBehind_41 rfl (lv_at hl 0 rfl) ?_
      refine pg_3_3 hC hw mw_158 dX6_firstBehind_42 ?_
      refine lv_iload_n hx hb dX6_firstBehind_45 rfl (lv_at hl 2 rfl) ?_
      obtain ⟨hin, hf⟩ := pw_gd hf
      refine pw_ild hC hw ca_24 hin dX6_firstBehind_46 ?_
      refine lv_icmp_lt (tgt := 57) hx hb dX6_firstBehind_47 (by decide) (fun hc => ?_) (fun hc => ?_)
      · replace hf := pw_ifp hc hf
        refine lv_iinc (v := (x3 + (1 : Int32))) (lv' := [(3, .int (x3 + (1 : Int32))), (0, .ref (pw_ad G 3)), (1, .int x1), (2, .int x2)]) hx hb dX6_firstBehind_57 hl (k := 3) rfl rfl (by decide) rfl (fun ls hl => ?_)
        refine lv_goto (tgt := 22) hx hb dX6_firstBehind_60 (by decide) ?_
        exact hk22 _ _ _ _ _ _ _ hw (lv_sub hl [1, 2, 3, 0] rfl) hf
      · replace hf := pw_ifn hc hf
        exact t_X6_firstBehind_50 hC   hw (lv_sub hl [0, 3] rfl) hf
set_option maxHeartbeats 4000000 in
theorem tl_X6_firstBehind_22 (hC : pw_CX G RX6 cX6_firstBehind 4 (some .int) p s m args meth c) {r : Int32} {τ : pw_St} : ∀ (n : Nat) (x1 : Int32) (x2 : Int32) (x3 : Int32) (σ : pw_St) (H : Heap) (locs : List Loc) (ls : Array Slot), pw_WH G σ s.heap H locs → lv_has ls 4 [(0, .ref (pw_ad G 3)), (1, .int x1), (2, .int x2), (3, .int x3)] → l_X6_firstBehind_22  n x1 x2 x3 σ = some (r, τ) → W p l e rm_X6_firstBehind s m args below meth c H locs 0 0 (MQ below (pw_Qi G r τ) args s 0 0 (pw_gA G)) (F0 m 22 ls []) := by
  intro n
  induction n with
  | zero => intro x1 x2 x3 σ H locs ls hw hl hf; cases hf
  | succ n ih => intro x1 x2 x3 σ H locs ls hw hl hf; exact t_X6_firstBehind_22 hC ih  hw hl hf
set_option maxHeartbeats 4000000 in
set_option maxRecDepth 100000 in
theorem c_X6_firstBehind {l : Launch} {G : pw_Gh} {x1 : Int32} {σ : pw_St} {r : Int32} {τ : pw_St} (hf : f_X6_firstBehind x1 σ = some (r, τ)) : Met l yX6_firstBehind (.code yX6_firstBehind cX6_firstBehind 4 (some .int) :: pw_BW) rm_X6_firstBehind (pw_Pc G [.ref (pw_ad G 3), .int x1] σ) (pw_Qi G r τ) 0 0 (pw_gA G) := by
  refine pw_met (by decide +kernel) (Nat.le_of_ble_eq_true rfl) ?_
  intro p e s m args below meth c ls hC hw hl
  replace hl : lv_has ls 4 [(0, .ref (pw_ad G 3)), (1, .int x1)] := hl
  have hx := hC.1
  have hb := hC.2.1
  unfold f_X6_firstBehind at hf
  refine lv_iload_n hx hb dX6_firstBehind_0 rfl (lv_at hl 1 rfl) ?_
  obtain ⟨r1, σ1, h1, hf⟩ := pw_bi_some hf
  refine pw_ci hw (pw_runS (As := [.int x1]) (rest := []) hC hw (c_X6_sizeOf  h1) mw_468 wm_X6_sizeOf ⟨Nat.zero_le _, Nat.zero_le _⟩ ⟨rfl, rfl, Nat.le_of_ble_eq_true rfl, Nat.le_of_ble_eq_true rfl⟩ rfl hl.1 rfl (Nat.le_of_ble_eq_true rfl) dX6_firstBehind_1) (fun H locs hw => ?_)
  refine lv_istore_n (lv' := [(2, .int r1), (0, .ref (pw_ad G 3)), (1, .int x1)]) hx hb dX6_firstBehind_4 rfl hl (by decide) rfl (fun ls hl => ?_)
  refine lv_iload_n hx hb dX6_firstBehind_5 rfl (lv_at hl 0 rfl) ?_
  refine lv_if_ne (tgt := 13) hx hb dX6_firstBehind_6 (by decide) (fun hc => ?_) (fun hc => ?_)
  · replace hf := pw_ifn hc hf
    refine lv_aload_n hx hb dX6_firstBehind_13 rfl (lv_at hl 1 rfl) ?_
    refine pg_3_3 hC hw mw_158 dX6_firstBehind_14 ?_
    refine lv_iload_n hx hb dX6_firstBehind_17 rfl (lv_at hl 0 rfl) ?_
    refine lv_iconst (v := 1) hx hb dX6_firstBehind_18 (by decide) ?_
    refine lv_isub hx hb dX6_firstBehind_19 ?_
    obtain ⟨hin, hf⟩ := pw_gd hf
    refine pw_ild hC hw ca_24 hin dX6_firstBehind_20 ?_
    refine lv_istore_n (lv' := [(3, .int (σ1.1 24 (r1 - (1 : Int32)).toNatClampNeg)), (2, .int r1), (0, .ref (pw_ad G 3)), (1, .int x1)]) hx hb dX6_firstBehind_21 rfl hl (by decide) rfl (fun ls hl => ?_)
    exact tl_X6_firstBehind_22 hC  pw_FU _ _ _ _ _ _ _ hw (lv_sub hl [2, 3, 1, 0] rfl) hf
  · replace hf := pw_ifp hc hf
    refine lv_iconst (v := 0) hx hb dX6_firstBehind_9 (by decide) ?_
    refine lv_goto (tgt := 21) hx hb dX6_firstBehind_10 (by decide) ?_
    refine lv_istore_n (lv' := [(3, .int (0 : Int32)), (2, .int r1), (0, .ref (pw_ad G 3)), (1, .int x1)]) hx hb dX6_firstBehind_21 rfl hl (by decide) rfl (fun ls hl => ?_)
    exact tl_X6_firstBehind_22 hC  pw_FU _ _ _ _ _ _ _ hw (lv_sub hl [2, 3, 1, 0] rfl) hf
-- PerhapsWas$Net firstOf
def b_X6_firstOf_21 (x2 : Int32) (σ : pw_St) : Option (Int32 × pw_St) := (if pw_in x2 2401 = true then (some ((σ.1 22 x2.toNatClampNeg), σ)) else none)
def b_X6_firstOf_2 (k2 : Int32 → pw_St → Option (Int32 × pw_St)) (x2 : Int32) (σ : pw_St) : Option (Int32 × pw_St) := (if (σ.1 3 5) ≤ x2 then (some ((-1 : Int32), σ)) else (if pw_in x2 2401 = true then (if pw_in (σ.1 22 x2.toNatClampNeg) 2401 = true then (if (σ.1 30 (σ.1 22 x2.toNatClampNeg).toNatClampNeg) = 0 then (k2 (x2 + (1 : Int32)) σ) else (b_X6_firstOf_21  x2 σ)) else none) else none))
def l_X6_firstOf_2 : Nat → Int32 → pw_St → Option (Int32 × pw_St)
  | 0 => fun _ _ => none
  | n + 1 => fun x2 σ => b_X6_firstOf_2  (l_X6_firstOf_2  n) x2 σ
def f_X6_firstOf (σ : pw_St) : Option (Int32 × pw_St) := (l_X6_firstOf_2  pw_FU (0 : Int32) σ)
def rm_X6_firstOf : Room := { frames := 0, cells := 0, slots := 0, locals := 0 }
set_option maxHeartbeats 4000000 in
set_option maxRecDepth 100000 in
theorem t_X6_firstOf_21 (hC : pw_CX G RX6 cX6_firstOf 3 (some .int) p s m args meth c) {r : Int32} {τ : pw_St} {x2 : Int32} {σ : pw_St} {H : Heap} {locs : List Loc} {ls : Array Slot} (hw : pw_WH G σ s.heap H locs) (hl : lv_has ls 3 [(0, .ref (pw_ad G 3)), (2, .int x2)]) (hf : b_X6_firstOf_21 x2 σ = some (r, τ)) : W p l e rm_X6_firstOf s m args below meth c H locs 0 0 (MQ below (pw_Qi G r τ) args s 0 0 (pw_gA G)) (F0 m 21 ls []) := by
  have hx := hC.1
  have hb := hC.2.1
  unfold b_X6_firstOf_21 at hf
  refine lv_aload_n hx hb dX6_firstOf_21 rfl (lv_at hl 0 rfl) ?_
  refine pg_3_1 hC hw mw_152 dX6_firstOf_22 ?_
  refine lv_iload_n hx hb dX6_firstOf_25 rfl (lv_at hl 1 rfl) ?_
  obtain ⟨hin, hf⟩ := pw_gd hf
  refine pw_ild hC hw ca_22 hin dX6_firstOf_26 ?_
  exact pw_iret hC hw hf dX6_firstOf_27
set_option maxHeartbeats 4000000 in
set_option maxRecDepth 100000 in
theorem t_X6_firstOf_2 (hC : pw_CX G RX6 cX6_firstOf 3 (some .int) p s m args meth c) {k2 : Int32 → pw_St → Option (Int32 × pw_St)} {r : Int32} {τ : pw_St} (hk2 : ∀ (x2 : Int32), ∀ (σ : pw_St) (H : Heap) (locs : List Loc) (ls : Array Slot), pw_WH G σ s.heap H locs → lv_has ls 3 [(0, .ref (pw_ad G 3)), (1, .ref (pw_ad G 30)), (2, .int x2)] → k2 x2 σ = some (r, τ) → W p l e rm_X6_firstOf s m args below meth c H locs 0 0 (MQ below (pw_Qi G r τ) args s 0 0 (pw_gA G)) (F0 m 2 ls [])) {x2 : Int32} {σ : pw_St} {H : Heap} {locs : List Loc} {ls : Array Slot} (hw : pw_WH G σ s.heap H locs) (hl : lv_has ls 3 [(0, .ref (pw_ad G 3)), (1, .ref (pw_ad G 30)), (2, .int x2)]) (hf : b_X6_firstOf_2 k2 x2 σ = some (r, τ)) : W p l e rm_X6_firstOf s m args below meth c H locs 0 0 (MQ below (pw_Qi G r τ) args s 0 0 (pw_gA G)) (F0 m 2 ls []) := by
  have hx := hC.1
  have hb := hC.2.1
  unfold b_X6_firstOf_2 at hf
  refine lv_iload_n hx hb dX6_firstOf_2 rfl (lv_at hl 2 rfl) ?_
  refine lv_aload_n hx hb dX6_firstOf_3 rfl (lv_at hl 0 rfl) ?_
  refine pg_3_5 hC hw mw_162 dX6_firstOf_4 ?_
  refine lv_icmp_ge (tgt := 34) hx hb dX6_firstOf_7 (by decide) (fun hc => ?_) (fun hc => ?_)
  · replace hf := pw_ifp hc hf
    refine lv_iconst (v := -1) hx hb dX6_firstOf_34 (by decide) ?_
    exact pw_iret hC hw hf dX6_firstOf_35
  · replace hf := pw_ifn hc hf
    refine lv_aload_n hx hb dX6_firstOf_10 rfl (lv_at hl 1 rfl) ?_
    refine lv_aload_n hx hb dX6_firstOf_11 rfl (lv_at hl 0 rfl) ?_
    refine pg_3_1 hC hw mw_152 dX6_firstOf_12 ?_
    refine lv_iload_n hx hb dX6_firstOf_15 rfl (lv_at hl 2 rfl) ?_
    obtain ⟨hin, hf⟩ := pw_gd hf
    refine pw_ild hC hw ca_22 hin dX6_firstOf_16 ?_
    obtain ⟨hin, hf⟩ := pw_gd hf
    refine pw_zld hC hw ca_30 hin dX6_firstOf_17 ?_
    refine lv_if_eq (tgt := 28) hx hb dX6_firstOf_18 (by decide) (fun hc => ?_) (fun hc => ?_)
    · replace hf := pw_ifp hc hf
      refine lv_iinc (v := (x2 + (1 : Int32))) (lv' := [(2, .int (x2 + (1 : Int32))), (0, .ref (pw_ad G 3)), (1, .ref (pw_ad G 30))]) hx hb dX6_firstOf_28 hl (k := 2) rfl rfl (by decide) rfl (fun ls hl => ?_)
      refine lv_goto (tgt := 2) hx hb dX6_firstOf_31 (by decide) ?_
      exact hk2 _ _ _ _ _ hw (lv_sub hl [1, 2, 0] rfl) hf
    · replace hf := pw_ifn hc hf
      exact t_X6_firstOf_21 hC   hw (lv_sub hl [0, 2] rfl) hf
set_option maxHeartbeats 4000000 in
theorem tl_X6_firstOf_2 (hC : pw_CX G RX6 cX6_firstOf 3 (some .int) p s m args meth c) {r : Int32} {τ : pw_St} : ∀ (n : Nat) (x2 : Int32) (σ : pw_St) (H : Heap) (locs : List Loc) (ls : Array Slot), pw_WH G σ s.heap H locs → lv_has ls 3 [(0, .ref (pw_ad G 3)), (1, .ref (pw_ad G 30)), (2, .int x2)] → l_X6_firstOf_2  n x2 σ = some (r, τ) → W p l e rm_X6_firstOf s m args below meth c H locs 0 0 (MQ below (pw_Qi G r τ) args s 0 0 (pw_gA G)) (F0 m 2 ls []) := by
  intro n
  induction n with
  | zero => intro x2 σ H locs ls hw hl hf; cases hf
  | succ n ih => intro x2 σ H locs ls hw hl hf; exact t_X6_firstOf_2 hC ih  hw hl hf
set_option maxHeartbeats 4000000 in
set_option maxRecDepth 100000 in
theorem c_X6_firstOf {l : Launch} {G : pw_Gh} {σ : pw_St} {r : Int32} {τ : pw_St} (hf : f_X6_firstOf σ = some (r, τ)) : Met l yX6_firstOf (.code yX6_firstOf cX6_firstOf 3 (some .int) :: pw_BW) rm_X6_firstOf (pw_Pc G [.ref (pw_ad G 3), .ref (pw_ad G 30)] σ) (pw_Qi G r τ) 0 0 (pw_gA G) := by
  refine pw_met (by decide +kernel) (Nat.le_of_ble_eq_true rfl) ?_
  intro p e s m args below meth c ls hC hw hl
  replace hl : lv_has ls 3 [(0, .ref (pw_ad G 3)), (1, .ref (pw_ad G 30))] := hl
  have hx := hC.1
  have hb := hC.2.1
  unfold f_X6_firstOf at hf
  refine lv_iconst (v := 0) hx hb dX6_firstOf_0 (by decide) ?_
  refine lv_istore_n (lv' := [(2, .int (0 : Int32)), (0, .ref (pw_ad G 3)), (1, .ref (pw_ad G 30))]) hx hb dX6_firstOf_1 rfl hl (by decide) rfl (fun ls hl => ?_)
  exact tl_X6_firstOf_2 hC  pw_FU _ _ _ _ _ hw (lv_sub hl [1, 2, 0] rfl) hf
-- PerhapsWas$Net lastOf
def b_X6_lastOf_22 (x2 : Int32) (σ : pw_St) : Option (Int32 × pw_St) := (if pw_in x2 2401 = true then (some ((σ.1 22 x2.toNatClampNeg), σ)) else none)
def b_X6_lastOf_7 (k7 : Int32 → pw_St → Option (Int32 × pw_St)) (x2 : Int32) (σ : pw_St) : Option (Int32 × pw_St) := (if x2 < 0 then (some ((-1 : Int32), σ)) else (if pw_in x2 2401 = true then (if pw_in (σ.1 22 x2.toNatClampNeg) 2401 = true then (if (σ.1 30 (σ.1 22 x2.toNatClampNeg).toNatClampNeg) = 0 then (k7 (x2 + (-1 : Int32)) σ) else (b_X6_lastOf_22  x2 σ)) else none) else none))
def l_X6_lastOf_7 : Nat → Int32 → pw_St → Option (Int32 × pw_St)
  | 0 => fun _ _ => none
  | n + 1 => fun x2 σ => b_X6_lastOf_7  (l_X6_lastOf_7  n) x2 σ
def f_X6_lastOf (σ : pw_St) : Option (Int32 × pw_St) := (l_X6_lastOf_7  pw_FU ((σ.1 3 5) - (1 : Int32)) σ)
def rm_X6_lastOf : Room := { frames := 0, cells := 0, slots := 0, locals := 0 }
set_option maxHeartbeats 4000000 in
set_option maxRecDepth 100000 in
theorem t_X6_lastOf_22 (hC : pw_CX G RX6 cX6_lastOf 3 (some .int) p s m args meth c) {r : Int32} {τ : pw_St} {x2 : Int32} {σ : pw_St} {H : Heap} {locs : List Loc} {ls : Array Slot} (hw : pw_WH G σ s.heap H locs) (hl : lv_has ls 3 [(0, .ref (pw_ad G 3)), (2, .int x2)]) (hf : b_X6_lastOf_22 x2 σ = some (r, τ)) : W p l e rm_X6_lastOf s m args below meth c H locs 0 0 (MQ below (pw_Qi G r τ) args s 0 0 (pw_gA G)) (F0 m 22 ls []) := by
  have hx := hC.1
  have hb := hC.2.1
  unfold b_X6_lastOf_22 at hf
  refine lv_aload_n hx hb dX6_lastOf_22 rfl (lv_at hl 0 rfl) ?_
  refine pg_3_1 hC hw mw_152 dX6_lastOf_23 ?_
  refine lv_iload_n hx hb dX6_lastOf_26 rfl (lv_at hl 1 rfl) ?_
  obtain ⟨hin, hf⟩ := pw_gd hf
  refine pw_ild hC hw ca_22 hin dX6_lastOf_27 ?_
  exact pw_iret hC hw hf dX6_lastOf_28
set_option maxHeartbeats 4000000 in
set_option maxRecDepth 100000 in
theorem t_X6_lastOf_7 (hC : pw_CX G RX6 cX6_lastOf 3 (some .int) p s m args meth c) {k7 : Int32 → pw_St → Option (Int32 × pw_St)} {r : Int32} {τ : pw_St} (hk7 : ∀ (x2 : Int32), ∀ (σ : pw_St) (H : Heap) (locs : List Loc) (ls : Array Slot), pw_WH G σ s.heap H locs → lv_has ls 3 [(0, .ref (pw_ad G 3)), (1, .ref (pw_ad G 30)), (2, .int x2)] → k7 x2 σ = some (r, τ) → W p l e rm_X6_lastOf s m args below meth c H locs 0 0 (MQ below (pw_Qi G r τ) args s 0 0 (pw_gA G)) (F0 m 7 ls [])) {x2 : Int32} {σ : pw_St} {H : Heap} {locs : List Loc} {ls : Array Slot} (hw : pw_WH G σ s.heap H locs) (hl : lv_has ls 3 [(0, .ref (pw_ad G 3)), (1, .ref (pw_ad G 30)), (2, .int x2)]) (hf : b_X6_lastOf_7 k7 x2 σ = some (r, τ)) : W p l e rm_X6_lastOf s m args below meth c H locs 0 0 (MQ below (pw_Qi G r τ) args s 0 0 (pw_gA G)) (F0 m 7 ls []) := by
  have hx := hC.1
  have hb := hC.2.1
  unfold b_X6_lastOf_7 at hf
  refine lv_iload_n hx hb dX6_lastOf_7 rfl (lv_at hl 2 rfl) ?_
  refine lv_if_lt (tgt := 35) hx hb dX6_lastOf_8 (by decide) (fun hc => ?_) (fun hc => ?_)
  · replace hf := pw_ifp hc hf
    refine lv_iconst (v := -1) hx hb dX6_lastOf_35 (by decide) ?_
    exact pw_iret hC hw hf dX6_lastOf_36
  · replace hf := pw_ifn hc hf
    refine lv_aload_n hx hb dX6_lastOf_11 rfl (lv_at hl 1 rfl) ?_
    refine lv_aload_n hx hb dX6_lastOf_12 rfl (lv_at hl 0 rfl) ?_
    refine pg_3_1 hC hw mw_152 dX6_lastOf_13 ?_
    refine lv_iload_n hx hb dX6_lastOf_16 rfl (lv_at hl 2 rfl) ?_
    obtain ⟨hin, hf⟩ := pw_gd hf
    refine pw_ild hC hw ca_22 hin dX6_lastOf_17 ?_
    obtain ⟨hin, hf⟩ := pw_gd hf
    refine pw_zld hC hw ca_30 hin dX6_lastOf_18 ?_
    refine lv_if_eq (tgt := 29) hx hb dX6_lastOf_19 (by decide) (fun hc => ?_) (fun hc => ?_)
    · replace hf := pw_ifp hc hf
      refine lv_iinc (v := (x2 + (-1 : Int32))) (lv' := [(2, .int (x2 + (-1 : Int32))), (0, .ref (pw_ad G 3)), (1, .ref (pw_ad G 30))]) hx hb dX6_lastOf_29 hl (k := 2) rfl rfl (by decide) rfl (fun ls hl => ?_)
      refine lv_goto (tgt := 7) hx hb dX6_lastOf_32 (by decide) ?_
      exact hk7 _ _ _ _ _ hw (lv_sub hl [1, 2, 0] rfl) hf
    · replace hf := pw_ifn hc hf
      exact t_X6_lastOf_22 hC   hw (lv_sub hl [0, 2] rfl) hf
set_option maxHeartbeats 4000000 in
theorem tl_X6_lastOf_7 (hC : pw_CX G RX6 cX6_lastOf 3 (some .int) p s m args meth c) {r : Int32} {τ : pw_St} : ∀ (n : Nat) (x2 : Int32) (σ : pw_St) (H : Heap) (locs : List Loc) (ls : Array Slot), pw_WH G σ s.heap H locs → lv_has ls 3 [(0, .ref (pw_ad G 3)), (1, .ref (pw_ad G 30)), (2, .int x2)] → l_X6_lastOf_7  n x2 σ = some (r, τ) → W p l e rm_X6_lastOf s m args below meth c H locs 0 0 (MQ below (pw_Qi G r τ) args s 0 0 (pw_gA G)) (F0 m 7 ls []) := by
  intro n
  induction n with
  | zero => intro x2 σ H locs ls hw hl hf; cases hf
  | succ n ih => intro x2 σ H locs ls hw hl hf; exact t_X6_lastOf_7 hC ih  hw hl hf
set_option maxHeartbeats 4000000 in
set_option maxRecDepth 100000 in
theorem c_X6_lastOf {l : Launch} {G : pw_Gh} {σ : pw_St} {r : Int32} {τ : pw_St} (hf : f_X6_lastOf σ = some (r, τ)) : Met l yX6_lastOf (.code yX6_lastOf cX6_lastOf 3 (some .int) :: pw_BW) rm_X6_lastOf (pw_Pc G [.ref (pw_ad G 3), .ref (pw_ad G 30)] σ) (pw_Qi G r τ) 0 0 (pw_gA G) := by
  refine pw_met (by decide +kernel) (Nat.le_of_ble_eq_true rfl) ?_
  intro p e s m args below meth c ls hC hw hl
  replace hl : lv_has ls 3 [(0, .ref (pw_ad G 3)), (1, .ref (pw_ad G 30))] := hl
  have hx := hC.1
  have hb := hC.2.1
  unfold f_X6_lastOf at hf
  refine lv_aload_n hx hb dX6_lastOf_0 rfl (lv_at hl 0 rfl) ?_
  refine pg_3_5 hC hw mw_162 dX6_lastOf_1 ?_
  refine lv_iconst (v := 1) hx hb dX6_lastOf_4 (by decide) ?_
  refine lv_isub hx hb dX6_lastOf_5 ?_
  refine lv_istore_n (lv' := [(2, .int ((σ.1 3 5) - (1 : Int32))), (0, .ref (pw_ad G 3)), (1, .ref (pw_ad G 30))]) hx hb dX6_lastOf_6 rfl hl (by decide) rfl (fun ls hl => ?_)
  exact tl_X6_lastOf_7 hC  pw_FU _ _ _ _ _ hw (lv_sub hl [1, 2, 0] rfl) hf
-- PerhapsWas$Net howManyIn
def b_X6_howManyIn_4 (k4 : Int32 → Int32 → pw_St → Option (Int32 × pw_St)) (x2 : Int32) (x3 : Int32) (σ : pw_St) : Option (Int32 × pw_St) := (if (σ.1 3 5) ≤ x3 then (some (x2, σ)) else (if pw_in x3 2401 = true then (if pw_in (σ.1 22 x3.toNatClampNeg) 2401 = true then (if (σ.1 30 (σ.1 22 x3.toNatClampNeg).toNatClampNeg) = 0 then (k4 x2 (x3 + (1 : Int32)) σ) else (k4 (x2 + (1 : Int32)) (x3 + (1 : Int32)) σ)) else none) else none))
def l_X6_howManyIn_4 : Nat → Int32 → Int32 → pw_St → Option (Int32 × pw_St)
  | 0 => fun _ _ _ => none
  | n + 1 => fun x2 x3 σ => b_X6_howManyIn_4  (l_X6_howManyIn_4  n) x2 x3 σ
def f_X6_howManyIn (σ : pw_St) : Option (Int32 × pw_St) := (l_X6_howManyIn_4  pw_FU (0 : Int32) (0 : Int32) σ)
def rm_X6_howManyIn : Room := { frames := 0, cells := 0, slots := 0, locals := 0 }
set_option maxHeartbeats 4000000 in
set_option maxRecDepth 100000 in
theorem t_X6_howManyIn_4 (hC : pw_CX G RX6 cX6_howManyIn 4 (some .int) p s m args meth c) {k4 : Int32 → Int32 → pw_St → Option (Int32 × pw_St)} {r : Int32} {τ : pw_St} (hk4 : ∀ (x2 : Int32), ∀ (x3 : Int32), ∀ (σ : pw_St) (H : Heap) (locs : List Loc) (ls : Array Slot), pw_WH G σ s.heap H locs → lv_has ls 4 [(0, .ref (pw_ad G 3)), (1, .ref (pw_ad G 30)), (2, .int x2), (3, .int x3)] → k4 x2 x3 σ = some (r, τ) → W p l e rm_X6_howManyIn s m args below meth c H locs 0 0 (MQ below (pw_Qi G r τ) args s 0 0 (pw_gA G)) (F0 m 4 ls [])) {x2 : Int32} {x3 : Int32} {σ : pw_St} {H : Heap} {locs : List Loc} {ls : Array Slot} (hw : pw_WH G σ s.heap H locs) (hl : lv_has ls 4 [(0, .ref (pw_ad G 3)), (1, .ref (pw_ad G 30)), (2, .int x2), (3, .int x3)]) (hf : b_X6_howManyIn_4 k4 x2 x3 σ = some (r, τ)) : W p l e rm_X6_howManyIn s m args below meth c H locs 0 0 (MQ below (pw_Qi G r τ) args s 0 0 (pw_gA G)) (F0 m 4 ls []) := by
  have hx := hC.1
  have hb := hC.2.1
  unfold b_X6_howManyIn_4 at hf
  refine lv_iload_n hx hb dX6_howManyIn_4 rfl (lv_at hl 3 rfl) ?_
  refine lv_aload_n hx hb dX6_howManyIn_5 rfl (lv_at hl 0 rfl) ?_
  refine pg_3_5 hC hw mw_162 dX6_howManyIn_6 ?_
  refine lv_icmp_ge (tgt := 32) hx hb dX6_howManyIn_9 (by decide) (fun hc => ?_) (fun hc => ?_)
  · replace hf := pw_ifp hc hf
    refine lv_iload_n hx hb dX6_howManyIn_32 rfl (lv_at hl 2 rfl) ?_
    exact pw_iret hC hw hf dX6_howManyIn_33
  · replace hf := pw_ifn hc hf
    refine lv_aload_n hx hb dX6_howManyIn_12 rfl (lv_at hl 1 rfl) ?_
    refine lv_aload_n hx hb dX6_howManyIn_13 rfl (lv_at hl 0 rfl) ?_
    refine pg_3_1 hC hw mw_152 dX6_howManyIn_14 ?_
    refine lv_iload_n hx hb dX6_howManyIn_17 rfl (lv_at hl 3 rfl) ?_
    obtain ⟨hin, hf⟩ := pw_gd hf
    refine pw_ild hC hw ca_22 hin dX6_howManyIn_18 ?_
    obtain ⟨hin, hf⟩ := pw_gd hf
    refine pw_zld hC hw ca_30 hin dX6_howManyIn_19 ?_
    refine lv_if_eq (tgt := 26) hx hb dX6_howManyIn_20 (by decide) (fun hc => ?_) (fun hc => ?_)
    · replace hf := pw_ifp hc hf
      refine lv_iinc (v := (x3 + (1 : Int32))) (lv' := [(3, .int (x3 + (1 : Int32))), (0, .ref (pw_ad G 3)), (1, .ref (pw_ad G 30)), (2, .int x2)]) hx hb dX6_howManyIn_26 hl (k := 3) rfl rfl (by decide) rfl (fun ls hl => ?_)
      refine lv_goto (tgt := 4) hx hb dX6_howManyIn_29 (by decide) ?_
      exact hk4 _ _ _ _ _ _ hw (lv_sub hl [1, 2, 3, 0] rfl) hf
    · replace hf := pw_ifn hc hf
      refine lv_iinc (v := (x2 + (1 : Int32))) (lv' := [(2, .int (x2 + (1 : Int32))), (0, .ref (pw_ad G 3)), (1, .ref (pw_ad G 30)), (3, .int x3)]) hx hb dX6_howManyIn_23 hl (k := 2) rfl rfl (by decide) rfl (fun ls hl => ?_)
      refine lv_iinc (v := (x3 + (1 : Int32))) (lv' := [(3, .int (x3 + (1 : Int32))), (2, .int (x2 + (1 : Int32))), (0, .ref (pw_ad G 3)), (1, .ref (pw_ad G 30))]) hx hb dX6_howManyIn_26 hl (k := 3) rfl rfl (by decide) rfl (fun ls hl => ?_)
      refine lv_goto (tgt := 4) hx hb dX6_howManyIn_29 (by decide) ?_
      exact hk4 _ _ _ _ _ _ hw (lv_sub hl [2, 3, 1, 0] rfl) hf
set_option maxHeartbeats 4000000 in
theorem tl_X6_howManyIn_4 (hC : pw_CX G RX6 cX6_howManyIn 4 (some .int) p s m args meth c) {r : Int32} {τ : pw_St} : ∀ (n : Nat) (x2 : Int32) (x3 : Int32) (σ : pw_St) (H : Heap) (locs : List Loc) (ls : Array Slot), pw_WH G σ s.heap H locs → lv_has ls 4 [(0, .ref (pw_ad G 3)), (1, .ref (pw_ad G 30)), (2, .int x2), (3, .int x3)] → l_X6_howManyIn_4  n x2 x3 σ = some (r, τ) → W p l e rm_X6_howManyIn s m args below meth c H locs 0 0 (MQ below (pw_Qi G r τ) args s 0 0 (pw_gA G)) (F0 m 4 ls []) := by
  intro n
  induction n with
  | zero => intro x2 x3 σ H locs ls hw hl hf; cases hf
  | succ n ih => intro x2 x3 σ H locs ls hw hl hf; exact t_X6_howManyIn_4 hC ih  hw hl hf
set_option maxHeartbeats 4000000 in
set_option maxRecDepth 100000 in
theorem c_X6_howManyIn {l : Launch} {G : pw_Gh} {σ : pw_St} {r : Int32} {τ : pw_St} (hf : f_X6_howManyIn σ = some (r, τ)) : Met l yX6_howManyIn (.code yX6_howManyIn cX6_howManyIn 4 (some .int) :: pw_BW) rm_X6_howManyIn (pw_Pc G [.ref (pw_ad G 3), .ref (pw_ad G 30)] σ) (pw_Qi G r τ) 0 0 (pw_gA G) := by
  refine pw_met (by decide +kernel) (Nat.le_of_ble_eq_true rfl) ?_
  intro p e s m args below meth c ls hC hw hl
  replace hl : lv_has ls 4 [(0, .ref (pw_ad G 3)), (1, .ref (pw_ad G 30))] := hl
  have hx := hC.1
  have hb := hC.2.1
  unfold f_X6_howManyIn at hf
  refine lv_iconst (v := 0) hx hb dX6_howManyIn_0 (by decide) ?_
  refine lv_istore_n (lv' := [(2, .int (0 : Int32)), (0, .ref (pw_ad G 3)), (1, .ref (pw_ad G 30))]) hx hb dX6_howManyIn_1 rfl hl (by decide) rfl (fun ls hl => ?_)
  refine lv_iconst (v := 0) hx hb dX6_howManyIn_2 (by decide) ?_
  refine lv_istore_n (lv' := [(3, .int (0 : Int32)), (2, .int (0 : Int32)), (0, .ref (pw_ad G 3)), (1, .ref (pw_ad G 30))]) hx hb dX6_howManyIn_3 rfl hl (by decide) rfl (fun ls hl => ?_)
  exact tl_X6_howManyIn_4 hC  pw_FU _ _ _ _ _ _ hw (lv_sub hl [2, 3, 1, 0] rfl) hf
-- PerhapsWas$Pile push
def f_X7_push (x1 : Int32) (x2 : Int32) (x3 : Int32) (σ : pw_St) : Option (Int32 × pw_St) := (if pw_in (σ.1 4 1) 6 = true then (pw_lt (pw_sM σ (4 * ((σ.1 4 1).toNatClampNeg + 0) + 54) 3 (0 : Int32)) fun σ2 => (if pw_in (σ2.1 4 1) 6 = true then (pw_bv (f_X1_append ((σ2.1 4 1).toNatClampNeg + 0) x1 x2 x3 σ2) fun σ4 => (pw_lt (pw_sM σ4 4 1 ((σ4.1 4 1) + (1 : Int32))) fun σ5 => (some ((σ5.1 4 1), σ5)))) else none)) else none)
def rm_X7_push : Room := { frames := 1, cells := 0, slots := 0, locals := 23 }
set_option maxHeartbeats 4000000 in
set_option maxRecDepth 100000 in
theorem c_X7_push {l : Launch} {G : pw_Gh} {x1 : Int32} {x2 : Int32} {x3 : Int32} {σ : pw_St} {r : Int32} {τ : pw_St} (hf : f_X7_push x1 x2 x3 σ = some (r, τ)) : Met l yX7_push (.code yX7_push cX7_push 4 (some .int) :: pw_BW) rm_X7_push (pw_Pc G [.ref (pw_ad G 4), .int x1, .int x2, .int x3] σ) (pw_Qi G r τ) 0 0 (pw_gA G) := by
  refine pw_met (by decide +kernel) (Nat.le_of_ble_eq_true rfl) ?_
  intro p e s m args below meth c ls hC hw hl
  replace hl : lv_has ls 4 [(0, .ref (pw_ad G 4)), (1, .int x1), (2, .int x2), (3, .int x3)] := hl
  have hx := hC.1
  have hb := hC.2.1
  unfold f_X7_push at hf
  refine lv_aload_n hx hb dX7_push_0 rfl (lv_at hl 0 rfl) ?_
  refine pg_4_0 hC hw mw_217 dX7_push_1 ?_
  refine lv_aload_n hx hb dX7_push_4 rfl (lv_at hl 0 rfl) ?_
  refine pg_4_1 hC hw mw_219 dX7_push_5 ?_
  obtain ⟨hin, hf⟩ := pw_gd hf
  have hn1 : ((σ.1 4 1).toNatClampNeg + 0) < 14 := pw_fb hin (by decide)
  refine pw_fld hC hw ca_26 hin dX7_push_8 ?_
  refine lv_iconst (v := 0) hx hb dX7_push_9 (by decide) ?_
  refine pp_F_3 hn1 hC hw mw_204 dX7_push_10 (fun H locs hw => ?_)
  obtain ⟨σ2, e2, hf⟩ := pw_lts hf
  replace hw := pw_WHe e2 hw
  refine lv_aload_n hx hb dX7_push_13 rfl (lv_at hl 0 rfl) ?_
  refine pg_4_0 hC hw mw_217 dX7_push_14 ?_
  refine lv_aload_n hx hb dX7_push_17 rfl (lv_at hl 0 rfl) ?_
  refine pg_4_1 hC hw mw_219 dX7_push_18 ?_
  obtain ⟨hin, hf⟩ := pw_gd hf
  have hn3 : ((σ2.1 4 1).toNatClampNeg + 0) < 14 := pw_fb hin (by decide)
  refine pw_fld hC hw ca_26 hin dX7_push_21 ?_
  refine lv_iload_n hx hb dX7_push_22 rfl (lv_at hl 1 rfl) ?_
  refine lv_iload_n hx hb dX7_push_23 rfl (lv_at hl 2 rfl) ?_
  refine lv_iload_n hx hb dX7_push_24 rfl (lv_at hl 3 rfl) ?_
  obtain ⟨σ4, h4, hf⟩ := pw_bv_some hf
  refine pw_cv hw (pw_runV (As := [.int x1, .int x2, .int x3]) (rest := []) hC hw (c_X1_append hn3 h4) mw_552 wm_X1_append ⟨Nat.zero_le _, Nat.zero_le _⟩ ⟨rfl, rfl, Nat.le_of_ble_eq_true rfl, Nat.le_of_ble_eq_true rfl⟩ (by omega) pw_cellF rfl rfl hl.1 rfl (Nat.le_of_ble_eq_true rfl) dX7_push_25) (fun H locs hw => ?_)
  refine lv_aload_n hx hb dX7_push_28 rfl (lv_at hl 0 rfl) ?_
  refine lv_dup hx hb dX7_push_29 rfl ?_
  refine pg_4_1 hC hw mw_219 dX7_push_30 ?_
  refine lv_iconst (v := 1) hx hb dX7_push_33 (by decide) ?_
  refine lv_iadd hx hb dX7_push_34 ?_
  refine pp_4_1 hC hw mw_219 dX7_push_35 (fun H locs hw => ?_)
  obtain ⟨σ5, e5, hf⟩ := pw_lts hf
  replace hw := pw_WHe e5 hw
  refine lv_aload_n hx hb dX7_push_38 rfl (lv_at hl 0 rfl) ?_
  refine pg_4_1 hC hw mw_219 dX7_push_39 ?_
  exact pw_iret hC hw hf dX7_push_42
-- PerhapsWas$Pile partsBehind
def b_X7_partsBehind_4 (k4 : Int32 → Int32 → Int32 → pw_St → Option (Int32 × pw_St)) (x1 : Int32) (x2 : Int32) (x3 : Int32) (σ : pw_St) : Option (Int32 × pw_St) := (pw_bi (f_X1_sidesOf x1 σ) fun r1 σ1 => (if r1 < x3 then (some (x2, σ1)) else (if pw_in ((σ1.1 4 1) - x3) 6 = true then (k4 x1 (x2 + (σ1.1 (4 * (((σ1.1 4 1) - x3).toNatClampNeg + 0) + 54) 3)) (x3 + (1 : Int32)) σ1) else none)))
def l_X7_partsBehind_4 : Nat → Int32 → Int32 → Int32 → pw_St → Option (Int32 × pw_St)
  | 0 => fun _ _ _ _ => none
  | n + 1 => fun x1 x2 x3 σ => b_X7_partsBehind_4  (l_X7_partsBehind_4  n) x1 x2 x3 σ
def f_X7_partsBehind (x1 : Int32) (σ : pw_St) : Option (Int32 × pw_St) := (l_X7_partsBehind_4  pw_FU x1 (1 : Int32) (1 : Int32) σ)
def rm_X7_partsBehind : Room := { frames := 1, cells := 0, slots := 0, locals := 20 }
set_option maxHeartbeats 4000000 in
set_option maxRecDepth 100000 in
theorem t_X7_partsBehind_4 (hC : pw_CX G RX7 cX7_partsBehind 4 (some .int) p s m args meth c) {k4 : Int32 → Int32 → Int32 → pw_St → Option (Int32 × pw_St)} {r : Int32} {τ : pw_St} (hk4 : ∀ (x1 : Int32), ∀ (x2 : Int32), ∀ (x3 : Int32), ∀ (σ : pw_St) (H : Heap) (locs : List Loc) (ls : Array Slot), pw_WH G σ s.heap H locs → lv_has ls 4 [(0, .ref (pw_ad G 4)), (1, .int x1), (2, .int x2), (3, .int x3)] → k4 x1 x2 x3 σ = some (r, τ) → W p l e rm_X7_partsBehind s m args below meth c H locs 0 0 (MQ below (pw_Qi G r τ) args s 0 0 (pw_gA G)) (F0 m 4 ls [])) {x1 : Int32} {x2 : Int32} {x3 : Int32} {σ : pw_St} {H : Heap} {locs : List Loc} {ls : Array Slot} (hw : pw_WH G σ s.heap H locs) (hl : lv_has ls 4 [(0, .ref (pw_ad G 4)), (1, .int x1), (2, .int x2), (3, .int x3)]) (hf : b_X7_partsBehind_4 k4 x1 x2 x3 σ = some (r, τ)) : W p l e rm_X7_partsBehind s m args below meth c H locs 0 0 (MQ below (pw_Qi G r τ) args s 0 0 (pw_gA G)) (F0 m 4 ls []) := by
  have hx := hC.1
  have hb := hC.2.1
  unfold b_X7_partsBehind_4 at hf
  refine lv_iload_n hx hb dX7_partsBehind_4 rfl (lv_at hl 3 rfl) ?_
  refine lv_iload_n hx hb dX7_partsBehind_5 rfl (lv_at hl 1 rfl) ?_
  obtain ⟨r1, σ1, h1, hf⟩ := pw_bi_some hf
  refine pw_ci hw (pw_runS (As := [.int x1]) (rest := [.int x3]) hC hw (c_X1_sidesOf  h1) mw_574 wm_X1_sidesOf ⟨Nat.zero_le _, Nat.zero_le _⟩ ⟨rfl, rfl, Nat.le_of_ble_eq_true rfl, Nat.le_of_ble_eq_true rfl⟩ rfl hl.1 rfl (Nat.le_of_ble_eq_true rfl) dX7_partsBehind_6) (fun H locs hw => ?_)
  refine lv_icmp_gt (tgt := 35) hx hb dX7_partsBehind_9 (by decide) (fun hc => ?_) (fun hc => ?_)
  · replace hf := pw_ifp hc hf
    refine lv_iload_n hx hb dX7_partsBehind_35 rfl (lv_at hl 2 rfl) ?_
    exact pw_iret hC hw hf dX7_partsBehind_36
  · replace hf := pw_ifn hc hf
    refine lv_iload_n hx hb dX7_partsBehind_12 rfl (lv_at hl 2 rfl) ?_
    refine lv_aload_n hx hb dX7_partsBehind_13 rfl (lv_at hl 0 rfl) ?_
    refine pg_4_0 hC hw mw_217 dX7_partsBehind_14 ?_
    refine lv_aload_n hx hb dX7_partsBehind_17 rfl (lv_at hl 0 rfl) ?_
    refine pg_4_1 hC hw mw_219 dX7_partsBehind_18 ?_
    refine lv_iload_n hx hb dX7_partsBehind_21 rfl (lv_at hl 3 rfl) ?_
    refine lv_isub hx hb dX7_partsBehind_22 ?_
    obtain ⟨hin, hf⟩ := pw_gd hf
    have hn2 : (((σ1.1 4 1) - x3).toNatClampNeg + 0) < 14 := pw_fb hin (by decide)
    refine pw_fld hC hw ca_26 hin dX7_partsBehind_23 ?_
    refine pg_F_3 hn2 hC hw mw_204 dX7_partsBehind_24 ?_
    refine lv_iadd hx hb dX7_partsBehind_27 ?_
    refine lv_istore_n (lv' := [(2, .int (x2 + (σ1.1 (4 * (((σ1.1 4 1) - x3).toNatClampNeg + 0) + 54) 3))), (0, .ref (pw_ad G 4)), (1, .int x1), (3, .int x3)]) hx hb dX7_partsBehind_28 rfl hl (by decide) rfl (fun ls hl => ?_)
    refine lv_iinc (v := (x3 + (1 : Int32))) (lv' := [(3, .int (x3 + (1 : Int32))), (2, .int (x2 + (σ1.1 (4 * (((σ1.1 4 1) - x3).toNatClampNeg + 0) + 54) 3))), (0, .ref (pw_ad G 4)), (1, .int x1)]) hx hb dX7_partsBehind_29 hl (k := 3) rfl rfl (by decide) rfl (fun ls hl => ?_)
    refine lv_goto (tgt := 4) hx hb dX7_partsBehind_32 (by decide) ?_
    exact hk4 _ _ _ _ _ _ _ hw (lv_sub hl [2, 3, 1, 0] rfl) hf
set_option maxHeartbeats 4000000 in
theorem tl_X7_partsBehind_4 (hC : pw_CX G RX7 cX7_partsBehind 4 (some .int) p s m args meth c) {r : Int32} {τ : pw_St} : ∀ (n : Nat) (x1 : Int32) (x2 : Int32) (x3 : Int32) (σ : pw_St) (H : Heap) (locs : List Loc) (ls : Array Slot), pw_WH G σ s.heap H locs → lv_has ls 4 [(0, .ref (pw_ad G 4)), (1, .int x1), (2, .int x2), (3, .int x3)] → l_X7_partsBehind_4  n x1 x2 x3 σ = some (r, τ) → W p l e rm_X7_partsBehind s m args below meth c H locs 0 0 (MQ below (pw_Qi G r τ) args s 0 0 (pw_gA G)) (F0 m 4 ls []) := by
  intro n
  induction n with
  | zero => intro x1 x2 x3 σ H locs ls hw hl hf; cases hf
  | succ n ih => intro x1 x2 x3 σ H locs ls hw hl hf; exact t_X7_partsBehind_4 hC ih  hw hl hf
set_option maxHeartbeats 4000000 in
set_option maxRecDepth 100000 in
theorem c_X7_partsBehind {l : Launch} {G : pw_Gh} {x1 : Int32} {σ : pw_St} {r : Int32} {τ : pw_St} (hf : f_X7_partsBehind x1 σ = some (r, τ)) : Met l yX7_partsBehind (.code yX7_partsBehind cX7_partsBehind 4 (some .int) :: pw_BW) rm_X7_partsBehind (pw_Pc G [.ref (pw_ad G 4), .int x1] σ) (pw_Qi G r τ) 0 0 (pw_gA G) := by
  refine pw_met (by decide +kernel) (Nat.le_of_ble_eq_true rfl) ?_
  intro p e s m args below meth c ls hC hw hl
  replace hl : lv_has ls 4 [(0, .ref (pw_ad G 4)), (1, .int x1)] := hl
  have hx := hC.1
  have hb := hC.2.1
  unfold f_X7_partsBehind at hf
  refine lv_iconst (v := 1) hx hb dX7_partsBehind_0 (by decide) ?_
  refine lv_istore_n (lv' := [(2, .int (1 : Int32)), (0, .ref (pw_ad G 4)), (1, .int x1)]) hx hb dX7_partsBehind_1 rfl hl (by decide) rfl (fun ls hl => ?_)
  refine lv_iconst (v := 1) hx hb dX7_partsBehind_2 (by decide) ?_
  refine lv_istore_n (lv' := [(3, .int (1 : Int32)), (2, .int (1 : Int32)), (0, .ref (pw_ad G 4)), (1, .int x1)]) hx hb dX7_partsBehind_3 rfl hl (by decide) rfl (fun ls hl => ?_)
  exact tl_X7_partsBehind_4 hC  pw_FU _ _ _ _ _ _ _ hw (lv_sub hl [2, 3, 1, 0] rfl) hf
-- PerhapsWas$Pile unite
def b_X7_unite_41 (x1 : Int32) (σ : pw_St) : Option (Int32 × pw_St) := (if pw_in ((σ.1 4 1) - (1 : Int32)) 6 = true then (pw_bv (f_X1_append (((σ.1 4 1) - (1 : Int32)).toNatClampNeg + 0) x1 (0 : Int32) (0 : Int32) σ) fun σ2 => (some ((σ2.1 4 1), σ2))) else none)
def f_X7_unite (x1 : Int32) (σ : pw_St) : Option (Int32 × pw_St) := (pw_bi (f_X1_sidesOf x1 σ) fun r1 σ1 => (if r1 = (2 : Int32) then (pw_lt (pw_sM σ1 4 1 ((σ1.1 4 1) - (1 : Int32))) fun σ2 => (if pw_in ((σ2.1 4 1) - (1 : Int32)) 6 = true then (if pw_in (σ2.1 4 1) 6 = true then (pw_bv (f_X1_appendAll (((σ2.1 4 1) - (1 : Int32)).toNatClampNeg + 0) ((σ2.1 4 1).toNatClampNeg + 0) σ2) fun σ5 => (b_X7_unite_41  x1 σ5)) else none) else none)) else (b_X7_unite_41  x1 σ1)))
def rm_X7_unite : Room := { frames := 2, cells := 0, slots := 0, locals := 45 }
set_option maxHeartbeats 4000000 in
set_option maxRecDepth 100000 in
theorem t_X7_unite_41 (hC : pw_CX G RX7 cX7_unite 2 (some .int) p s m args meth c) {r : Int32} {τ : pw_St} {x1 : Int32} {σ : pw_St} {H : Heap} {locs : List Loc} {ls : Array Slot} (hw : pw_WH G σ s.heap H locs) (hl : lv_has ls 2 [(0, .ref (pw_ad G 4)), (1, .int x1)]) (hf : b_X7_unite_41 x1 σ = some (r, τ)) : W p l e rm_X7_unite s m args below meth c H locs 0 0 (MQ below (pw_Qi G r τ) args s 0 0 (pw_gA G)) (F0 m 41 ls []) := by
  have hx := hC.1
  have hb := hC.2.1
  unfold b_X7_unite_41 at hf
  refine lv_aload_n hx hb dX7_unite_41 rfl (lv_at hl 0 rfl) ?_
  refine pg_4_0 hC hw mw_217 dX7_unite_42 ?_
  refine lv_aload_n hx hb dX7_unite_45 rfl (lv_at hl 0 rfl) ?_
  refine pg_4_1 hC hw mw_219 dX7_unite_46 ?_
  refine lv_iconst (v := 1) hx hb dX7_unite_49 (by decide) ?_
  refine lv_isub hx hb dX7_unite_50 ?_
  obtain ⟨hin, hf⟩ := pw_gd hf
  have hn1 : (((σ.1 4 1) - (1 : Int32)).toNatClampNeg + 0) < 14 := pw_fb hin (by decide)
  refine pw_fld hC hw ca_26 hin dX7_unite_51 ?_
  refine lv_iload_n hx hb dX7_unite_52 rfl (lv_at hl 1 rfl) ?_
  refine lv_iconst (v := 0) hx hb dX7_unite_53 (by decide) ?_
  refine lv_iconst (v := 0) hx hb dX7_unite_54 (by decide) ?_
  obtain ⟨σ2, h2, hf⟩ := pw_bv_some hf
  refine pw_cv hw (pw_runV (As := [.int x1, .int (0 : Int32), .int (0 : Int32)]) (rest := []) hC hw (c_X1_append hn1 h2) mw_552 wm_X1_append ⟨Nat.zero_le _, Nat.zero_le _⟩ ⟨rfl, rfl, Nat.le_of_ble_eq_true rfl, Nat.le_of_ble_eq_true rfl⟩ (by omega) pw_cellF rfl rfl hl.1 rfl (Nat.le_of_ble_eq_true rfl) dX7_unite_55) (fun H locs hw => ?_)
  refine lv_aload_n hx hb dX7_unite_58 rfl (lv_at hl 0 rfl) ?_
  refine pg_4_1 hC hw mw_219 dX7_unite_59 ?_
  exact pw_iret hC hw hf dX7_unite_62
set_option maxHeartbeats 4000000 in
set_option maxRecDepth 100000 in
theorem c_X7_unite {l : Launch} {G : pw_Gh} {x1 : Int32} {σ : pw_St} {r : Int32} {τ : pw_St} (hf : f_X7_unite x1 σ = some (r, τ)) : Met l yX7_unite (.code yX7_unite cX7_unite 2 (some .int) :: pw_BW) rm_X7_unite (pw_Pc G [.ref (pw_ad G 4), .int x1] σ) (pw_Qi G r τ) 0 0 (pw_gA G) := by
  refine pw_met (by decide +kernel) (Nat.le_of_ble_eq_true rfl) ?_
  intro p e s m args below meth c ls hC hw hl
  replace hl : lv_has ls 2 [(0, .ref (pw_ad G 4)), (1, .int x1)] := hl
  have hx := hC.1
  have hb := hC.2.1
  unfold f_X7_unite at hf
  refine lv_iload_n hx hb dX7_unite_0 rfl (lv_at hl 1 rfl) ?_
  obtain ⟨r1, σ1, h1, hf⟩ := pw_bi_some hf
  refine pw_ci hw (pw_runS (As := [.int x1]) (rest := []) hC hw (c_X1_sidesOf  h1) mw_574 wm_X1_sidesOf ⟨Nat.zero_le _, Nat.zero_le _⟩ ⟨rfl, rfl, Nat.le_of_ble_eq_true rfl, Nat.le_of_ble_eq_true rfl⟩ rfl hl.1 rfl (Nat.le_of_ble_eq_true rfl) dX7_unite_1) (fun H locs hw => ?_)
  refine lv_iconst (v := 2) hx hb dX7_unite_4 (by decide) ?_
  refine lv_icmp_ne (tgt := 41) hx hb dX7_unite_5 (by decide) (fun hc => ?_) (fun hc => ?_)
  · replace hf := pw_ifn hc hf
    exact t_X7_unite_41 hC   hw (lv_sub hl [0, 1] rfl) hf
  · replace hf := pw_ifp hc hf
    refine lv_aload_n hx hb dX7_unite_8 rfl (lv_at hl 0 rfl) ?_
    refine lv_dup hx hb dX7_unite_9 rfl ?_
    refine pg_4_1 hC hw mw_219 dX7_unite_10 ?_
    refine lv_iconst (v := 1) hx hb dX7_unite_13 (by decide) ?_
    refine lv_isub hx hb dX7_unite_14 ?_
    refine pp_4_1 hC hw mw_219 dX7_unite_15 (fun H locs hw => ?_)
    obtain ⟨σ2, e2, hf⟩ := pw_lts hf
    replace hw := pw_WHe e2 hw
    refine lv_aload_n hx hb dX7_unite_18 rfl (lv_at hl 0 rfl) ?_
    refine pg_4_0 hC hw mw_217 dX7_unite_19 ?_
    refine lv_aload_n hx hb dX7_unite_22 rfl (lv_at hl 0 rfl) ?_
    refine pg_4_1 hC hw mw_219 dX7_unite_23 ?_
    refine lv_iconst (v := 1) hx hb dX7_unite_26 (by decide) ?_
    refine lv_isub hx hb dX7_unite_27 ?_
    obtain ⟨hin, hf⟩ := pw_gd hf
    have hn3 : (((σ2.1 4 1) - (1 : Int32)).toNatClampNeg + 0) < 14 := pw_fb hin (by decide)
    refine pw_fld hC hw ca_26 hin dX7_unite_28 ?_
    refine lv_aload_n hx hb dX7_unite_29 rfl (lv_at hl 0 rfl) ?_
    refine pg_4_0 hC hw mw_217 dX7_unite_30 ?_
    refine lv_aload_n hx hb dX7_unite_33 rfl (lv_at hl 0 rfl) ?_
    refine pg_4_1 hC hw mw_219 dX7_unite_34 ?_
    obtain ⟨hin, hf⟩ := pw_gd hf
    have hn4 : ((σ2.1 4 1).toNatClampNeg + 0) < 14 := pw_fb hin (by decide)
    refine pw_fld hC hw ca_26 hin dX7_unite_37 ?_
    obtain ⟨σ5, h5, hf⟩ := pw_bv_some hf
    refine pw_cv hw (pw_runV (As := [.ref (pw_ad G (4 * ((σ2.1 4 1).toNatClampNeg + 0) + 54))]) (rest := []) hC hw (c_X1_appendAll hn3 hn4 h5) mw_579 wm_X1_appendAll ⟨Nat.zero_le _, Nat.zero_le _⟩ ⟨rfl, rfl, Nat.le_of_ble_eq_true rfl, Nat.le_of_ble_eq_true rfl⟩ (by omega) pw_cellF rfl rfl hl.1 rfl (Nat.le_of_ble_eq_true rfl) dX7_unite_38) (fun H locs hw => ?_)
    exact t_X7_unite_41 hC   hw (lv_sub hl [0, 1] rfl) hf
-- PerhapsWas$Row append
def f_X8_append (x1 : Int32) (σ : pw_St) : Option (Int32 × pw_St) := (if pw_in (σ.1 9 1) 24 = true then (pw_lt (pw_sM σ 33 (σ.1 9 1).toNatClampNeg x1) fun σ1 => (pw_lt (pw_sM σ1 9 1 ((σ1.1 9 1) + (1 : Int32))) fun σ2 => (some ((σ2.1 9 1), σ2)))) else none)
def rm_X8_append : Room := { frames := 0, cells := 0, slots := 0, locals := 0 }
set_option maxHeartbeats 4000000 in
set_option maxRecDepth 100000 in
theorem c_X8_append {l : Launch} {G : pw_Gh} {x1 : Int32} {σ : pw_St} {r : Int32} {τ : pw_St} (hf : f_X8_append x1 σ = some (r, τ)) : Met l yX8_append (.code yX8_append cX8_append 2 (some .int) :: pw_BW) rm_X8_append (pw_Pc G [.ref (pw_ad G 9), .int x1] σ) (pw_Qi G r τ) 0 0 (pw_gA G) := by
  refine pw_met (by decide +kernel) (Nat.le_of_ble_eq_true rfl) ?_
  intro p e s m args below meth c ls hC hw hl
  replace hl : lv_has ls 2 [(0, .ref (pw_ad G 9)), (1, .int x1)] := hl
  have hx := hC.1
  have hb := hC.2.1
  unfold f_X8_append at hf
  refine lv_aload_n hx hb dX8_append_0 rfl (lv_at hl 0 rfl) ?_
  refine pg_9_0 hC hw mw_293 dX8_append_1 ?_
  refine lv_aload_n hx hb dX8_append_4 rfl (lv_at hl 0 rfl) ?_
  refine pg_9_1 hC hw mw_294 dX8_append_5 ?_
  refine lv_iload_n hx hb dX8_append_8 rfl (lv_at hl 1 rfl) ?_
  obtain ⟨hin, hf⟩ := pw_gd hf
  refine pw_ist hC hw ca_33 hin dX8_append_9 (fun H locs hw => ?_)
  obtain ⟨σ1, e1, hf⟩ := pw_lts hf
  replace hw := pw_WHe e1 hw
  refine lv_aload_n hx hb dX8_append_10 rfl (lv_at hl 0 rfl) ?_
  refine lv_dup hx hb dX8_append_11 rfl ?_
  refine pg_9_1 hC hw mw_294 dX8_append_12 ?_
  refine lv_iconst (v := 1) hx hb dX8_append_15 (by decide) ?_
  refine lv_iadd hx hb dX8_append_16 ?_
  refine pp_9_1 hC hw mw_294 dX8_append_17 (fun H locs hw => ?_)
  obtain ⟨σ2, e2, hf⟩ := pw_lts hf
  replace hw := pw_WHe e2 hw
  refine lv_aload_n hx hb dX8_append_20 rfl (lv_at hl 0 rfl) ?_
  refine pg_9_1 hC hw mw_294 dX8_append_21 ?_
  exact pw_iret hC hw hf dX8_append_24
-- PerhapsWas$Row rightPlaces
def b_X8_rightPlaces_4 (k4 : Int32 → Int32 → pw_St → Option (Int32 × pw_St)) (x2 : Int32) (x3 : Int32) (σ : pw_St) : Option (Int32 × pw_St) := (if (σ.1 9 1) ≤ x3 then (some ((σ.1 9 1), σ)) else (if pw_in x3 24 = true then (pw_bi (f_X6_up x2 (σ.1 33 x3.toNatClampNeg) σ) fun r1 σ1 => (if r1 = (-1 : Int32) then (some (x3, σ1)) else (k4 r1 (x3 + (1 : Int32)) σ1))) else none))
def l_X8_rightPlaces_4 : Nat → Int32 → Int32 → pw_St → Option (Int32 × pw_St)
  | 0 => fun _ _ _ => none
  | n + 1 => fun x2 x3 σ => b_X8_rightPlaces_4  (l_X8_rightPlaces_4  n) x2 x3 σ
def f_X8_rightPlaces (σ : pw_St) : Option (Int32 × pw_St) := (l_X8_rightPlaces_4  pw_FU (0 : Int32) (0 : Int32) σ)
def rm_X8_rightPlaces : Room := { frames := 2, cells := 0, slots := 0, locals := 46 }
set_option maxHeartbeats 4000000 in
set_option maxRecDepth 100000 in
theorem t_X8_rightPlaces_4 (hC : pw_CX G RX8 cX8_rightPlaces 4 (some .int) p s m args meth c) {k4 : Int32 → Int32 → pw_St → Option (Int32 × pw_St)} {r : Int32} {τ : pw_St} (hk4 : ∀ (x2 : Int32), ∀ (x3 : Int32), ∀ (σ : pw_St) (H : Heap) (locs : List Loc) (ls : Array Slot), pw_WH G σ s.heap H locs → lv_has ls 4 [(0, .ref (pw_ad G 9)), (1, .ref (pw_ad G 3)), (2, .int x2), (3, .int x3)] → k4 x2 x3 σ = some (r, τ) → W p l e rm_X8_rightPlaces s m args below meth c H locs 0 0 (MQ below (pw_Qi G r τ) args s 0 0 (pw_gA G)) (F0 m 4 ls [])) {x2 : Int32} {x3 : Int32} {σ : pw_St} {H : Heap} {locs : List Loc} {ls : Array Slot} (hw : pw_WH G σ s.heap H locs) (hl : lv_has ls 4 [(0, .ref (pw_ad G 9)), (1, .ref (pw_ad G 3)), (2, .int x2), (3, .int x3)]) (hf : b_X8_rightPlaces_4 k4 x2 x3 σ = some (r, τ)) : W p l e rm_X8_rightPlaces s m args below meth c H locs 0 0 (MQ below (pw_Qi G r τ) args s 0 0 (pw_gA G)) (F0 m 4 ls []) := by
  have hx := hC.1
  have hb := hC.2.1
  unfold b_X8_rightPlaces_4 at hf
  refine lv_iload_n hx hb dX8_rightPlaces_4 rfl (lv_at hl 3 rfl) ?_
  refine lv_aload_n hx hb dX8_rightPlaces_5 rfl (lv_at hl 0 rfl) ?_
  refine pg_9_1 hC hw mw_294 dX8_rightPlaces_6 ?_
  refine lv_icmp_ge (tgt := 37) hx hb dX8_rightPlaces_9 (by decide) (fun hc => ?_) (fun hc => ?_)
  · replace hf := pw_ifp hc hf
    refine lv_aload_n hx hb dX8_rightPlaces_37 rfl (lv_at hl 0 rfl) ?_
    refine pg_9_1 hC hw mw_294 dX8_rightPlaces_38 ?_
    exact pw_iret hC hw hf dX8_rightPlaces_41
  · replace hf := pw_ifn hc hf
    refine lv_aload_n hx hb dX8_rightPlaces_12 rfl (lv_at hl 1 rfl) ?_
    refine lv_iload_n hx hb dX8_rightPlaces_13 rfl (lv_at hl 2 rfl) ?_
    refine lv_aload_n hx hb dX8_rightPlaces_14 rfl (lv_at hl 0 rfl) ?_
    refine pg_9_0 hC hw mw_293 dX8_rightPlaces_15 ?_
    refine lv_iload_n hx hb dX8_rightPlaces_18 rfl (lv_at hl 3 rfl) ?_
    obtain ⟨hin, hf⟩ := pw_gd hf
    refine pw_ild hC hw ca_33 hin dX8_rightPlaces_19 ?_
    obtain ⟨r1, σ1, h1, hf⟩ := pw_bi_some hf
    refine pw_ci hw (pw_runV (As := [.int x2, .int (σ.1 33 x3.toNatClampNeg)]) (rest := []) hC hw (c_X6_up  h1) mw_725 wm_X6_up ⟨Nat.zero_le _, Nat.zero_le _⟩ ⟨rfl, rfl, Nat.le_of_ble_eq_true rfl, Nat.le_of_ble_eq_true rfl⟩ (by decide) rfl rfl rfl hl.1 rfl (Nat.le_of_ble_eq_true rfl) dX8_rightPlaces_20) (fun H locs hw => ?_)
    refine lv_istore_n (lv' := [(2, .int r1), (0, .ref (pw_ad G 9)), (1, .ref (pw_ad G 3)), (3, .int x3)]) hx hb dX8_rightPlaces_23 rfl hl (by decide) rfl (fun ls hl => ?_)
    refine lv_iload_n hx hb dX8_rightPlaces_24 rfl (lv_at hl 0 rfl) ?_
    refine lv_iconst (v := -1) hx hb dX8_rightPlaces_25 (by decide) ?_
    refine lv_icmp_ne (tgt := 31) hx hb dX8_rightPlaces_26 (by decide) (fun hc => ?_) (fun hc => ?_)
    · replace hf := pw_ifn hc hf
      refine lv_iinc (v := (x3 + (1 : Int32))) (lv' := [(3, .int (x3 + (1 : Int32))), (2, .int r1), (0, .ref (pw_ad G 9)), (1, .ref (pw_ad G 3))]) hx hb dX8_rightPlaces_31 hl (k := 3) rfl rfl (by decide) rfl (fun ls hl => ?_)
      refine lv_goto (tgt := 4) hx hb dX8_rightPlaces_34 (by decide) ?_
      exact hk4 _ _ _ _ _ _ hw (lv_sub hl [2, 3, 1, 0] rfl) hf
    · replace hf := pw_ifp hc hf
      refine lv_iload_n hx hb dX8_rightPlaces_29 rfl (lv_at hl 3 rfl) ?_
      exact pw_iret hC hw hf dX8_rightPlaces_30
set_option maxHeartbeats 4000000 in
theorem tl_X8_rightPlaces_4 (hC : pw_CX G RX8 cX8_rightPlaces 4 (some .int) p s m args meth c) {r : Int32} {τ : pw_St} : ∀ (n : Nat) (x2 : Int32) (x3 : Int32) (σ : pw_St) (H : Heap) (locs : List Loc) (ls : Array Slot), pw_WH G σ s.heap H locs → lv_has ls 4 [(0, .ref (pw_ad G 9)), (1, .ref (pw_ad G 3)), (2, .int x2), (3, .int x3)] → l_X8_rightPlaces_4  n x2 x3 σ = some (r, τ) → W p l e rm_X8_rightPlaces s m args below meth c H locs 0 0 (MQ below (pw_Qi G r τ) args s 0 0 (pw_gA G)) (F0 m 4 ls []) := by
  intro n
  induction n with
  | zero => intro x2 x3 σ H locs ls hw hl hf; cases hf
  | succ n ih => intro x2 x3 σ H locs ls hw hl hf; exact t_X8_rightPlaces_4 hC ih  hw hl hf
set_option maxHeartbeats 4000000 in
set_option maxRecDepth 100000 in
theorem c_X8_rightPlaces {l : Launch} {G : pw_Gh} {σ : pw_St} {r : Int32} {τ : pw_St} (hf : f_X8_rightPlaces σ = some (r, τ)) : Met l yX8_rightPlaces (.code yX8_rightPlaces cX8_rightPlaces 4 (some .int) :: pw_BW) rm_X8_rightPlaces (pw_Pc G [.ref (pw_ad G 9), .ref (pw_ad G 3)] σ) (pw_Qi G r τ) 0 0 (pw_gA G) := by
  refine pw_met (by decide +kernel) (Nat.le_of_ble_eq_true rfl) ?_
  intro p e s m args below meth c ls hC hw hl
  replace hl : lv_has ls 4 [(0, .ref (pw_ad G 9)), (1, .ref (pw_ad G 3))] := hl
  have hx := hC.1
  have hb := hC.2.1
  unfold f_X8_rightPlaces at hf
  refine lv_iconst (v := 0) hx hb dX8_rightPlaces_0 (by decide) ?_
  refine lv_istore_n (lv' := [(2, .int (0 : Int32)), (0, .ref (pw_ad G 9)), (1, .ref (pw_ad G 3))]) hx hb dX8_rightPlaces_1 rfl hl (by decide) rfl (fun ls hl => ?_)
  refine lv_iconst (v := 0) hx hb dX8_rightPlaces_2 (by decide) ?_
  refine lv_istore_n (lv' := [(3, .int (0 : Int32)), (2, .int (0 : Int32)), (0, .ref (pw_ad G 9)), (1, .ref (pw_ad G 3))]) hx hb dX8_rightPlaces_3 rfl hl (by decide) rfl (fun ls hl => ?_)
  exact tl_X8_rightPlaces_4 hC  pw_FU _ _ _ _ _ _ hw (lv_sub hl [2, 3, 1, 0] rfl) hf
-- PerhapsWas$Row firstAt
def b_X8_firstAt_46 (n2 : Nat) (x3 : Int32) (σ : pw_St) : Option (Int32 × pw_St) := (pw_bi (f_X5_worth n2 x3 σ) fun r1 σ1 => (if r1 = 0 then (some ((-1 : Int32), σ1)) else (some ((σ1.1 9 1), σ1))))
def b_X8_firstAt_5 (k5 : Nat → Int32 → Int32 → pw_St → Option (Int32 × pw_St)) (n2 : Nat) (x3 : Int32) (x4 : Int32) (σ : pw_St) : Option (Int32 × pw_St) := (if (σ.1 9 1) ≤ x4 then (b_X8_firstAt_46  n2 x3 σ) else (pw_bi (f_X5_worth n2 x3 σ) fun r1 σ1 => (if r1 = 0 then (if pw_in x4 24 = true then (if pw_in (σ1.1 33 x4.toNatClampNeg) 4 = true then (k5 n2 (x3 + (pw_wt (σ1.1 33 x4.toNatClampNeg).toNatClampNeg)) (x4 + (1 : Int32)) σ1) else none) else none) else (some (x4, σ1)))))
def l_X8_firstAt_5 : Nat → Nat → Int32 → Int32 → pw_St → Option (Int32 × pw_St)
  | 0 => fun _ _ _ _ => none
  | n + 1 => fun n2 x3 x4 σ => b_X8_firstAt_5  (l_X8_firstAt_5  n) n2 x3 x4 σ
def f_X8_firstAt (n2 : Nat) (σ : pw_St) : Option (Int32 × pw_St) := (l_X8_firstAt_5  pw_FU n2 (0 : Int32) (0 : Int32) σ)
def rm_X8_firstAt : Room := { frames := 3, cells := 0, slots := 0, locals := 77 }
set_option maxHeartbeats 4000000 in
set_option maxRecDepth 100000 in
theorem t_X8_firstAt_46 (hC : pw_CX G RX8 cX8_firstAt 5 (some .int) p s m args meth c) {r : Int32} {τ : pw_St} {n2 : Nat} {x3 : Int32} (hbn2 : n2 < 14) {σ : pw_St} {H : Heap} {locs : List Loc} {ls : Array Slot} (hw : pw_WH G σ s.heap H locs) (hl : lv_has ls 5 [(0, .ref (pw_ad G 9)), (1, .ref (pw_ad G 6)), (2, .ref (pw_ad G (4 * n2 + 54))), (3, .int x3)]) (hf : b_X8_firstAt_46 n2 x3 σ = some (r, τ)) : W p l e rm_X8_firstAt s m args below meth c H locs 0 0 (MQ below (pw_Qi G r τ) args s 0 0 (pw_gA G)) (F0 m 46 ls []) := by
  have hx := hC.1
  have hb := hC.2.1
  unfold b_X8_firstAt_46 at hf
  refine lv_aload_n hx hb dX8_firstAt_46 rfl (lv_at hl 1 rfl) ?_
  refine lv_aload_n hx hb dX8_firstAt_47 rfl (lv_at hl 2 rfl) ?_
  refine lv_iload_n hx hb dX8_firstAt_48 rfl (lv_at hl 3 rfl) ?_
  obtain ⟨r1, σ1, h1, hf⟩ := pw_bi_some hf
  refine pw_ci hw (pw_runV (As := [.ref (pw_ad G (4 * n2 + 54)), .int x3]) (rest := []) hC hw (c_X5_worth hbn2 h1) mw_734 wm_X5_worth ⟨Nat.zero_le _, Nat.zero_le _⟩ ⟨rfl, rfl, Nat.le_of_ble_eq_true rfl, Nat.le_of_ble_eq_true rfl⟩ (by decide) rfl rfl rfl hl.1 rfl (Nat.le_of_ble_eq_true rfl) dX8_firstAt_49) (fun H locs hw => ?_)
  refine lv_if_eq (tgt := 62) hx hb dX8_firstAt_52 (by decide) (fun hc => ?_) (fun hc => ?_)
  · replace hf := pw_ifp hc hf
    refine lv_iconst (v := -1) hx hb dX8_firstAt_62 (by decide) ?_
    exact pw_iret hC hw hf dX8_firstAt_63
  · replace hf := pw_ifn hc hf
    refine lv_aload_n hx hb dX8_firstAt_55 rfl (lv_at hl 0 rfl) ?_
    refine pg_9_1 hC hw mw_294 dX8_firstAt_56 ?_
    refine lv_goto (tgt := 63) hx hb dX8_firstAt_59 (by decide) ?_
    exact pw_iret hC hw hf dX8_firstAt_63
set_option maxHeartbeats 4000000 in
set_option maxRecDepth 100000 in
theorem t_X8_firstAt_5 (hC : pw_CX G RX8 cX8_firstAt 5 (some .int) p s m args meth c) {k5 : Nat → Int32 → Int32 → pw_St → Option (Int32 × pw_St)} {r : Int32} {τ : pw_St} (hk5 : ∀ (n2 : Nat), ∀ (x3 : Int32), ∀ (x4 : Int32), ∀ (σ : pw_St) (H : Heap) (locs : List Loc) (ls : Array Slot), n2 < 14 → pw_WH G σ s.heap H locs → lv_has ls 5 [(0, .ref (pw_ad G 9)), (1, .ref (pw_ad G 6)), (2, .ref (pw_ad G (4 * n2 + 54))), (3, .int x3), (4, .int x4)] → k5 n2 x3 x4 σ = some (r, τ) → W p l e rm_X8_firstAt s m args below meth c H locs 0 0 (MQ below (pw_Qi G r τ) args s 0 0 (pw_gA G)) (F0 m 5 ls [])) {n2 : Nat} {x3 : Int32} {x4 : Int32} (hbn2 : n2 < 14) {σ : pw_St} {H : Heap} {locs : List Loc} {ls : Array Slot} (hw : pw_WH G σ s.heap H locs) (hl : lv_has ls 5 [(0, .ref (pw_ad G 9)), (1, .ref (pw_ad G 6)), (2, .ref (pw_ad G (4 * n2 + 54))), (3, .int x3), (4, .int x4)]) (hf : b_X8_firstAt_5 k5 n2 x3 x4 σ = some (r, τ)) : W p l e rm_X8_firstAt s m args below meth c H locs 0 0 (MQ below (pw_Qi G r τ) args s 0 0 (pw_gA G)) (F0 m 5 ls []) := by
  have hx := hC.1
  have hb := hC.2.1
  unfold b_X8_firstAt_5 at hf
  refine lv_iload hx hb dX8_firstAt_5 (lv_at hl 4 rfl) ?_
  refine lv_aload_n hx hb dX8_firstAt_7 rfl (lv_at hl 0 rfl) ?_
  refine pg_9_1 hC hw mw_294 dX8_firstAt_8 ?_
  refine lv_icmp_ge (tgt := 46) hx hb dX8_firstAt_11 (by decide) (fun hc => ?_) (fun hc => ?_)
  · replace hf := pw_ifp hc hf
    exact t_X8_firstAt_46 hC  hbn2 hw (lv_sub hl [0, 1, 2, 3] rfl) hf
  · replace hf := pw_ifn hc hf
    refine lv_aload_n hx hb dX8_firstAt_14 rfl (lv_at hl 1 rfl) ?_
    refine lv_aload_n hx hb dX8_firstAt_15 rfl (lv_at hl 2 rfl) ?_
    refine lv_iload_n hx hb dX8_firstAt_16 rfl (lv_at hl 3 rfl) ?_
    obtain ⟨r1, σ1, h1, hf⟩ := pw_bi_some hf
    refine pw_ci hw (pw_runV (As := [.ref (pw_ad G (4 * n2 + 54)), .int x3]) (rest := []) hC hw (c_X5_worth hbn2 h1) mw_734 wm_X5_worth ⟨Nat.zero_le _, Nat.zero_le _⟩ ⟨rfl, rfl, Nat.le_of_ble_eq_true rfl, Nat.le_of_ble_eq_true rfl⟩ (by decide) rfl rfl rfl hl.1 rfl (Nat.le_of_ble_eq_true rfl) dX8_firstAt_17) (fun H locs hw => ?_)
    refine lv_if_eq (tgt := 26) hx hb dX8_firstAt_20 (by decide) (fun hc => ?_) (fun hc => ?_)
    · replace hf := pw_ifp hc hf
      refine lv_iload_n hx hb dX8_firstAt_26 rfl (lv_at hl 3 rfl) ?_
      refine pw_wget hC hw hC.2.2.2.2.2.1.2.2.2.2.2.1 dX8_firstAt_27 ?_
      refine lv_aload_n hx hb dX8_firstAt_30 rfl (lv_at hl 0 rfl) ?_
      refine pg_9_0 hC hw mw_293 dX8_firstAt_31 ?_
      refine lv_iload hx hb dX8_firstAt_34 (lv_at hl 4 rfl) ?_
      obtain ⟨hin, hf⟩ := pw_gd hf
      refine pw_ild hC hw ca_33 hin dX8_firstAt_36 ?_
      obtain ⟨hin, hf⟩ := pw_gd hf
      refine pw_wld hC hw hin dX8_firstAt_37 ?_
      refine lv_iadd hx hb dX8_firstAt_38 ?_
      refine lv_istore_n (lv' := [(3, .int (x3 + (pw_wt (σ1.1 33 x4.toNatClampNeg).toNatClampNeg))), (0, .ref (pw_ad G 9)), (1, .ref (pw_ad G 6)), (2, .ref (pw_ad G (4 * n2 + 54))), (4, .int x4)]) hx hb dX8_firstAt_39 rfl hl (by decide) rfl (fun ls hl => ?_)
      refine lv_iinc (v := (x4 + (1 : Int32))) (lv' := [(4, .int (x4 + (1 : Int32))), (3, .int (x3 + (pw_wt (σ1.1 33 x4.toNatClampNeg).toNatClampNeg))), (0, .ref (pw_ad G 9)), (1, .ref (pw_ad G 6)), (2, .ref (pw_ad G (4 * n2 + 54)))]) hx hb dX8_firstAt_40 hl (k := 4) rfl rfl (by decide) rfl (fun ls hl => ?_)
      refine lv_goto (tgt := 5) hx hb dX8_firstAt_43 (by decide) ?_
      exact hk5 _ _ _ _ _ _ _ hbn2 hw (lv_sub hl [2, 3, 4, 1, 0] rfl) hf
    · replace hf := pw_ifn hc hf
      refine lv_iload hx hb dX8_firstAt_23 (lv_at hl 4 rfl) ?_
      exact pw_iret hC hw hf dX8_firstAt_25
set_option maxHeartbeats 4000000 in
theorem tl_X8_firstAt_5 (hC : pw_CX G RX8 cX8_firstAt 5 (some .int) p s m args meth c) {r : Int32} {τ : pw_St} : ∀ (n : Nat) (n2 : Nat) (x3 : Int32) (x4 : Int32) (σ : pw_St) (H : Heap) (locs : List Loc) (ls : Array Slot), n2 < 14 → pw_WH G σ s.heap H locs → lv_has ls 5 [(0, .ref (pw_ad G 9)), (1, .ref (pw_ad G 6)), (2, .ref (pw_ad G (4 * n2 + 54))), (3, .int x3), (4, .int x4)] → l_X8_firstAt_5  n n2 x3 x4 σ = some (r, τ) → W p l e rm_X8_firstAt s m args below meth c H locs 0 0 (MQ below (pw_Qi G r τ) args s 0 0 (pw_gA G)) (F0 m 5 ls []) := by
  intro n
  induction n with
  | zero => intro n2 x3 x4 σ H locs ls hbn2 hw hl hf; cases hf
  | succ n ih => intro n2 x3 x4 σ H locs ls hbn2 hw hl hf; exact t_X8_firstAt_5 hC ih hbn2 hw hl hf
set_option maxHeartbeats 4000000 in
set_option maxRecDepth 100000 in
theorem c_X8_firstAt {l : Launch} {G : pw_Gh} {n2 : Nat} (hbn2 : n2 < 14) {σ : pw_St} {r : Int32} {τ : pw_St} (hf : f_X8_firstAt n2 σ = some (r, τ)) : Met l yX8_firstAt (.code yX8_firstAt cX8_firstAt 5 (some .int) :: pw_BW) rm_X8_firstAt (pw_Pc G [.ref (pw_ad G 9), .ref (pw_ad G 6), .ref (pw_ad G (4 * n2 + 54))] σ) (pw_Qi G r τ) 0 0 (pw_gA G) := by
  refine pw_met (by decide +kernel) (Nat.le_of_ble_eq_true rfl) ?_
  intro p e s m args below meth c ls hC hw hl
  replace hl : lv_has ls 5 [(0, .ref (pw_ad G 9)), (1, .ref (pw_ad G 6)), (2, .ref (pw_ad G (4 * n2 + 54)))] := hl
  have hx := hC.1
  have hb := hC.2.1
  unfold f_X8_firstAt at hf
  refine lv_iconst (v := 0) hx hb dX8_firstAt_0 (by decide) ?_
  refine lv_istore_n (lv' := [(3, .int (0 : Int32)), (0, .ref (pw_ad G 9)), (1, .ref (pw_ad G 6)), (2, .ref (pw_ad G (4 * n2 + 54)))]) hx hb dX8_firstAt_1 rfl hl (by decide) rfl (fun ls hl => ?_)
  refine lv_iconst (v := 0) hx hb dX8_firstAt_2 (by decide) ?_
  refine lv_istore (lv' := [(4, .int (0 : Int32)), (3, .int (0 : Int32)), (0, .ref (pw_ad G 9)), (1, .ref (pw_ad G 6)), (2, .ref (pw_ad G (4 * n2 + 54)))]) hx hb dX8_firstAt_3 hl (by decide) rfl (fun ls hl => ?_)
  exact tl_X8_firstAt_5 hC  pw_FU _ _ _ _ _ _ _ hbn2 hw (lv_sub hl [2, 3, 4, 1, 0] rfl) hf
-- PerhapsWas$Ways over
def f_X9_over (x2 : Int32) (x3 : Int32) (σ : pw_St) : Option (Int64 × pw_St) := (pw_bi (f_X6_up x2 x3 σ) fun r1 σ1 => (if r1 = (-1 : Int32) then (some ((0 : Int64), σ1)) else (if pw_in r1 2401 = true then (some ((σ1.2 32 r1.toNatClampNeg), σ1)) else none)))
def rm_X9_over : Room := { frames := 2, cells := 0, slots := 0, locals := 46 }
set_option maxHeartbeats 4000000 in
set_option maxRecDepth 100000 in
theorem c_X9_over {l : Launch} {G : pw_Gh} {x2 : Int32} {x3 : Int32} {σ : pw_St} {r : Int64} {τ : pw_St} (hf : f_X9_over x2 x3 σ = some (r, τ)) : Met l yX9_over (.code yX9_over cX9_over 5 (some .long) :: pw_BW) rm_X9_over (pw_Pc G [.ref (pw_ad G 8), .ref (pw_ad G 3), .int x2, .int x3] σ) (pw_Ql G r τ) 0 0 (pw_gA G) := by
  refine pw_met (by decide +kernel) (Nat.le_of_ble_eq_true rfl) ?_
  intro p e s m args below meth c ls hC hw hl
  replace hl : lv_has ls 5 [(0, .ref (pw_ad G 8)), (1, .ref (pw_ad G 3)), (2, .int x2), (3, .int x3)] := hl
  have hx := hC.1
  have hb := hC.2.1
  unfold f_X9_over at hf
  refine lv_aload_n hx hb dX9_over_0 rfl (lv_at hl 1 rfl) ?_
  refine lv_iload_n hx hb dX9_over_1 rfl (lv_at hl 2 rfl) ?_
  refine lv_iload_n hx hb dX9_over_2 rfl (lv_at hl 3 rfl) ?_
  obtain ⟨r1, σ1, h1, hf⟩ := pw_bi_some hf
  refine pw_ci hw (pw_runV (As := [.int x2, .int x3]) (rest := []) hC hw (c_X6_up  h1) mw_530 wm_X6_up ⟨Nat.zero_le _, Nat.zero_le _⟩ ⟨rfl, rfl, Nat.le_of_ble_eq_true rfl, Nat.le_of_ble_eq_true rfl⟩ (by decide) rfl rfl rfl hl.1 rfl (Nat.le_of_ble_eq_true rfl) dX9_over_3) (fun H locs hw => ?_)
  refine lv_istore (lv' := [(4, .int r1), (0, .ref (pw_ad G 8)), (1, .ref (pw_ad G 3)), (2, .int x2), (3, .int x3)]) hx hb dX9_over_6 hl (by decide) rfl (fun ls hl => ?_)
  refine lv_iload hx hb dX9_over_8 (lv_at hl 0 rfl) ?_
  refine lv_iconst (v := -1) hx hb dX9_over_10 (by decide) ?_
  refine lv_icmp_ne (tgt := 18) hx hb dX9_over_11 (by decide) (fun hc => ?_) (fun hc => ?_)
  · replace hf := pw_ifn hc hf
    refine lv_aload_n hx hb dX9_over_18 rfl (lv_at hl 1 rfl) ?_
    refine pg_8_0 hC hw mw_282 dX9_over_19 ?_
    refine lv_iload hx hb dX9_over_22 (lv_at hl 0 rfl) ?_
    obtain ⟨hin, hf⟩ := pw_gd hf
    refine pw_lld hC hw ca_32 hin dX9_over_24 ?_
    exact pw_lret hC hw hf dX9_over_25
  · replace hf := pw_ifp hc hf
    refine lv_lconst (v := 0) hx hb dX9_over_14 (by decide) ?_
    refine lv_goto (tgt := 25) hx hb dX9_over_15 (by decide) ?_
    exact pw_lret hC hw hf dX9_over_25
-- PerhapsWas$Ways sumOver
def b_X9_sumOver_5 (k5 : Int32 → Int64 → Int32 → pw_St → Option (Int64 × pw_St)) (x2 : Int32) (x3 : Int64) (x5 : Int32) (σ : pw_St) : Option (Int64 × pw_St) := (if (4 : Int32) ≤ x5 then (some (x3, σ)) else (pw_bl (f_X9_over x2 x5 σ) fun r1 σ1 => (k5 x2 (x3 + r1) (x5 + (1 : Int32)) σ1)))
def l_X9_sumOver_5 : Nat → Int32 → Int64 → Int32 → pw_St → Option (Int64 × pw_St)
  | 0 => fun _ _ _ _ => none
  | n + 1 => fun x2 x3 x5 σ => b_X9_sumOver_5  (l_X9_sumOver_5  n) x2 x3 x5 σ
def f_X9_sumOver (x2 : Int32) (σ : pw_St) : Option (Int64 × pw_St) := (l_X9_sumOver_5  pw_FU x2 (0 : Int64) (0 : Int32) σ)
def rm_X9_sumOver : Room := { frames := 3, cells := 0, slots := 0, locals := 70 }
set_option maxHeartbeats 4000000 in
set_option maxRecDepth 100000 in
theorem t_X9_sumOver_5 (hC : pw_CX G RX9 cX9_sumOver 6 (some .long) p s m args meth c) {k5 : Int32 → Int64 → Int32 → pw_St → Option (Int64 × pw_St)} {r : Int64} {τ : pw_St} (hk5 : ∀ (x2 : Int32), ∀ (x3 : Int64), ∀ (x5 : Int32), ∀ (σ : pw_St) (H : Heap) (locs : List Loc) (ls : Array Slot), pw_WH G σ s.heap H locs → lv_has ls 6 [(0, .ref (pw_ad G 8)), (1, .ref (pw_ad G 3)), (2, .int x2), (3, .long x3), (5, .int x5)] → k5 x2 x3 x5 σ = some (r, τ) → W p l e rm_X9_sumOver s m args below meth c H locs 0 0 (MQ below (pw_Ql G r τ) args s 0 0 (pw_gA G)) (F0 m 5 ls [])) {x2 : Int32} {x3 : Int64} {x5 : Int32} {σ : pw_St} {H : Heap} {locs : List Loc} {ls : Array Slot} (hw : pw_WH G σ s.heap H locs) (hl : lv_has ls 6 [(0, .ref (pw_ad G 8)), (1, .ref (pw_ad G 3)), (2, .int x2), (3, .long x3), (5, .int x5)]) (hf : b_X9_sumOver_5 k5 x2 x3 x5 σ = some (r, τ)) : W p l e rm_X9_sumOver s m args below meth c H locs 0 0 (MQ below (pw_Ql G r τ) args s 0 0 (pw_gA G)) (F0 m 5 ls []) := by
  have hx := hC.1
  have hb := hC.2.1
  unfold b_X9_sumOver_5 at hf
  refine lv_iload hx hb dX9_sumOver_5 (lv_at hl 4 rfl) ?_
  refine lv_iconst (v := 4) hx hb dX9_sumOver_7 (by decide) ?_
  refine lv_icmp_ge (tgt := 28) hx hb dX9_sumOver_8 (by decide) (fun hc => ?_) (fun hc => ?_)
  · replace hf := pw_ifp hc hf
    refine lv_lload_n hx hb dX9_sumOver_28 rfl (lv_at hl 3 rfl) ?_
    exact pw_lret hC hw hf dX9_sumOver_29
  · replace hf := pw_ifn hc hf
    refine lv_lload_n hx hb dX9_sumOver_11 rfl (lv_at hl 3 rfl) ?_
    refine lv_aload_n hx hb dX9_sumOver_12 rfl (lv_at hl 0 rfl) ?_
    refine lv_aload_n hx hb dX9_sumOver_13 rfl (lv_at hl 1 rfl) ?_
    refine lv_iload_n hx hb dX9_sumOver_14 rfl (lv_at hl 2 rfl) ?_
    refine lv_iload hx hb dX9_sumOver_15 (lv_at hl 4 rfl) ?_
    obtain ⟨r1, σ1, h1, hf⟩ := pw_bl_some hf
    refine pw_cl hw (pw_runV (As := [.ref (pw_ad G 3), .int x2, .int x5]) (rest := [.long x3]) hC hw (c_X9_over  h1) mw_526 wm_X9_over ⟨Nat.zero_le _, Nat.zero_le _⟩ ⟨rfl, rfl, Nat.le_of_ble_eq_true rfl, Nat.le_of_ble_eq_true rfl⟩ (by decide) rfl rfl rfl hl.1 rfl (Nat.le_of_ble_eq_true rfl) dX9_sumOver_17) (fun H locs hw => ?_)
    refine lv_ladd hx hb dX9_sumOver_20 ?_
    refine lv_lstore_n (lv' := [(3, .long (x3 + r1)), (0, .ref (pw_ad G 8)), (1, .ref (pw_ad G 3)), (2, .int x2), (5, .int x5)]) hx hb dX9_sumOver_21 rfl hl (by decide) rfl (fun ls hl => ?_)
    refine lv_iinc (v := (x5 + (1 : Int32))) (lv' := [(5, .int (x5 + (1 : Int32))), (3, .long (x3 + r1)), (0, .ref (pw_ad G 8)), (1, .ref (pw_ad G 3)), (2, .int x2)]) hx hb dX9_sumOver_22 hl (k := 4) rfl rfl (by decide) rfl (fun ls hl => ?_)
    refine lv_goto (tgt := 5) hx hb dX9_sumOver_25 (by decide) ?_
    exact hk5 _ _ _ _ _ _ _ hw (lv_sub hl [2, 3, 4, 1, 0] rfl) hf
set_option maxHeartbeats 4000000 in
theorem tl_X9_sumOver_5 (hC : pw_CX G RX9 cX9_sumOver 6 (some .long) p s m args meth c) {r : Int64} {τ : pw_St} : ∀ (n : Nat) (x2 : Int32) (x3 : Int64) (x5 : Int32) (σ : pw_St) (H : Heap) (locs : List Loc) (ls : Array Slot), pw_WH G σ s.heap H locs → lv_has ls 6 [(0, .ref (pw_ad G 8)), (1, .ref (pw_ad G 3)), (2, .int x2), (3, .long x3), (5, .int x5)] → l_X9_sumOver_5  n x2 x3 x5 σ = some (r, τ) → W p l e rm_X9_sumOver s m args below meth c H locs 0 0 (MQ below (pw_Ql G r τ) args s 0 0 (pw_gA G)) (F0 m 5 ls []) := by
  intro n
  induction n with
  | zero => intro x2 x3 x5 σ H locs ls hw hl hf; cases hf
  | succ n ih => intro x2 x3 x5 σ H locs ls hw hl hf; exact t_X9_sumOver_5 hC ih  hw hl hf
set_option maxHeartbeats 4000000 in
set_option maxRecDepth 100000 in
theorem c_X9_sumOver {l : Launch} {G : pw_Gh} {x2 : Int32} {σ : pw_St} {r : Int64} {τ : pw_St} (hf : f_X9_sumOver x2 σ = some (r, τ)) : Met l yX9_sumOver (.code yX9_sumOver cX9_sumOver 6 (some .long) :: pw_BW) rm_X9_sumOver (pw_Pc G [.ref (pw_ad G 8), .ref (pw_ad G 3), .int x2] σ) (pw_Ql G r τ) 0 0 (pw_gA G) := by
  refine pw_met (by decide +kernel) (Nat.le_of_ble_eq_true rfl) ?_
  intro p e s m args below meth c ls hC hw hl
  replace hl : lv_has ls 6 [(0, .ref (pw_ad G 8)), (1, .ref (pw_ad G 3)), (2, .int x2)] := hl
  have hx := hC.1
  have hb := hC.2.1
  unfold f_X9_sumOver at hf
  refine lv_lconst (v := 0) hx hb dX9_sumOver_0 (by decide) ?_
  refine lv_lstore_n (lv' := [(3, .long (0 : Int64)), (0, .ref (pw_ad G 8)), (1, .ref (pw_ad G 3)), (2, .int x2)]) hx hb dX9_sumOver_1 rfl hl (by decide) rfl (fun ls hl => ?_)
  refine lv_iconst (v := 0) hx hb dX9_sumOver_2 (by decide) ?_
  refine lv_istore (lv' := [(5, .int (0 : Int32)), (3, .long (0 : Int64)), (0, .ref (pw_ad G 8)), (1, .ref (pw_ad G 3)), (2, .int x2)]) hx hb dX9_sumOver_3 hl (by decide) rfl (fun ls hl => ?_)
  exact tl_X9_sumOver_5 hC  pw_FU _ _ _ _ _ _ _ hw (lv_sub hl [2, 3, 4, 1, 0] rfl) hf
-- PerhapsWas$Ways fill
def b_X9_fill_63 (σ : pw_St) : Option (Int64 × pw_St) := (if pw_in (0 : Int32) 2401 = true then (some ((σ.2 32 (0 : Int32).toNatClampNeg), σ)) else none)
def b_X9_fill_56 (k7 : Int32 → pw_St → Option (Int64 × pw_St)) (x3 : Int32) (y0 : Int64) (y1 : Int32) (σ : pw_St) : Option (Int64 × pw_St) := (if pw_in y1 2401 = true then (pw_lt (pw_sL σ 32 y1.toNatClampNeg y0) fun σ1 => (k7 (x3 + (-1 : Int32)) σ1)) else none)
def b_X9_fill_7 (k7 : Int32 → pw_St → Option (Int64 × pw_St)) (x3 : Int32) (σ : pw_St) : Option (Int64 × pw_St) := (if x3 < 0 then (b_X9_fill_63  σ) else (if pw_in x3 2401 = true then (if pw_in (σ.1 22 x3.toNatClampNeg) 2401 = true then (if (σ.1 30 (σ.1 22 x3.toNatClampNeg).toNatClampNeg) = 0 then (if (σ.1 22 x3.toNatClampNeg) = (σ.1 3 6) then (b_X9_fill_56 k7 x3 (1 : Int64) (σ.1 22 x3.toNatClampNeg) σ) else (pw_bl (f_X9_sumOver (σ.1 22 x3.toNatClampNeg) σ) fun r1 σ1 => (b_X9_fill_56 k7 x3 r1 (σ.1 22 x3.toNatClampNeg) σ1))) else (b_X9_fill_56 k7 x3 (0 : Int64) (σ.1 22 x3.toNatClampNeg) σ)) else none) else none))
def l_X9_fill_7 : Nat → Int32 → pw_St → Option (Int64 × pw_St)
  | 0 => fun _ _ => none
  | n + 1 => fun x3 σ => b_X9_fill_7  (l_X9_fill_7  n) x3 σ
def f_X9_fill (σ : pw_St) : Option (Int64 × pw_St) := (l_X9_fill_7  pw_FU ((σ.1 3 5) - (1 : Int32)) σ)
def rm_X9_fill : Room := { frames := 4, cells := 0, slots := 0, locals := 95 }
set_option maxHeartbeats 4000000 in
set_option maxRecDepth 100000 in
theorem t_X9_fill_63 (hC : pw_CX G RX9 cX9_fill 5 (some .long) p s m args meth c) {r : Int64} {τ : pw_St} {σ : pw_St} {H : Heap} {locs : List Loc} {ls : Array Slot} (hw : pw_WH G σ s.heap H locs) (hl : lv_has ls 5 [(0, .ref (pw_ad G 8))]) (hf : b_X9_fill_63 σ = some (r, τ)) : W p l e rm_X9_fill s m args below meth c H locs 0 0 (MQ below (pw_Ql G r τ) args s 0 0 (pw_gA G)) (F0 m 63 ls []) := by
  have hx := hC.1
  have hb := hC.2.1
  unfold b_X9_fill_63 at hf
  refine lv_aload_n hx hb dX9_fill_63 rfl (lv_at hl 0 rfl) ?_
  refine pg_8_0 hC hw mw_282 dX9_fill_64 ?_
  refine lv_iconst (v := 0) hx hb dX9_fill_67 (by decide) ?_
  obtain ⟨hin, hf⟩ := pw_gd hf
  refine pw_lld hC hw ca_32 hin dX9_fill_68 ?_
  exact pw_lret hC hw hf dX9_fill_69
set_option maxHeartbeats 4000000 in
set_option maxRecDepth 100000 in
theorem t_X9_fill_56 (hC : pw_CX G RX9 cX9_fill 5 (some .long) p s m args meth c) {k7 : Int32 → pw_St → Option (Int64 × pw_St)} {r : Int64} {τ : pw_St} (hk7 : ∀ (x3 : Int32), ∀ (σ : pw_St) (H : Heap) (locs : List Loc) (ls : Array Slot), pw_WH G σ s.heap H locs → lv_has ls 5 [(0, .ref (pw_ad G 8)), (1, .ref (pw_ad G 3)), (2, .ref (pw_ad G 30)), (3, .int x3)] → k7 x3 σ = some (r, τ) → W p l e rm_X9_fill s m args below meth c H locs 0 0 (MQ below (pw_Ql G r τ) args s 0 0 (pw_gA G)) (F0 m 7 ls [])) {x3 : Int32} {y0 : Int64} {y1 : Int32} {σ : pw_St} {H : Heap} {locs : List Loc} {ls : Array Slot} (hw : pw_WH G σ s.heap H locs) (hl : lv_has ls 5 [(0, .ref (pw_ad G 8)), (1, .ref (pw_ad G 3)), (2, .ref (pw_ad G 30)), (3, .int x3)]) (hf : b_X9_fill_56 k7 x3 y0 y1 σ = some (r, τ)) : W p l e rm_X9_fill s m args below meth c H locs 0 0 (MQ below (pw_Ql G r τ) args s 0 0 (pw_gA G)) (F0 m 56 ls [.long y0, .int y1, .ref (pw_ad G 32)]) := by
  have hx := hC.1
  have hb := hC.2.1
  unfold b_X9_fill_56 at hf
  obtain ⟨hin, hf⟩ := pw_gd hf
  refine pw_lst hC hw ca_32 hin dX9_fill_56 (fun H locs hw => ?_)
  obtain ⟨σ1, e1, hf⟩ := pw_lts hf
  replace hw := pw_WHe e1 hw
  refine lv_iinc (v := (x3 + (-1 : Int32))) (lv' := [(3, .int (x3 + (-1 : Int32))), (0, .ref (pw_ad G 8)), (1, .ref (pw_ad G 3)), (2, .ref (pw_ad G 30))]) hx hb dX9_fill_57 hl (k := 3) rfl rfl (by decide) rfl (fun ls hl => ?_)
  refine lv_goto (tgt := 7) hx hb dX9_fill_60 (by decide) ?_
  exact hk7 _ _ _ _ _ hw (lv_sub hl [1, 2, 3, 0] rfl) hf
set_option maxHeartbeats 4000000 in
set_option maxRecDepth 100000 in
theorem t_X9_fill_7 (hC : pw_CX G RX9 cX9_fill 5 (some .long) p s m args meth c) {k7 : Int32 → pw_St → Option (Int64 × pw_St)} {r : Int64} {τ : pw_St} (hk7 : ∀ (x3 : Int32), ∀ (σ : pw_St) (H : Heap) (locs : List Loc) (ls : Array Slot), pw_WH G σ s.heap H locs → lv_has ls 5 [(0, .ref (pw_ad G 8)), (1, .ref (pw_ad G 3)), (2, .ref (pw_ad G 30)), (3, .int x3)] → k7 x3 σ = some (r, τ) → W p l e rm_X9_fill s m args below meth c H locs 0 0 (MQ below (pw_Ql G r τ) args s 0 0 (pw_gA G)) (F0 m 7 ls [])) {x3 : Int32} {σ : pw_St} {H : Heap} {locs : List Loc} {ls : Array Slot} (hw : pw_WH G σ s.heap H locs) (hl : lv_has ls 5 [(0, .ref (pw_ad G 8)), (1, .ref (pw_ad G 3)), (2, .ref (pw_ad G 30)), (3, .int x3)]) (hf : b_X9_fill_7 k7 x3 σ = some (r, τ)) : W p l e rm_X9_fill s m args below meth c H locs 0 0 (MQ below (pw_Ql G r τ) args s 0 0 (pw_gA G)) (F0 m 7 ls []) := by
  have hx := hC.1
  have hb := hC.2.1
  unfold b_X9_fill_7 at hf
  refine lv_iload_n hx hb dX9_fill_7 rfl (lv_at hl 3 rfl) ?_
  refine lv_if_lt (tgt := 63) hx hb dX9_fill_8 (by decide) (fun hc => ?_) (fun hc => ?_)
  · replace hf := pw_ifp hc hf
    exact t_X9_fill_63 hC   hw (lv_sub hl [0] rfl) hf
  · replace hf := pw_ifn hc hf
    refine lv_aload_n hx hb dX9_fill_11 rfl (lv_at hl 1 rfl) ?_
    refine pg_3_1 hC hw mw_153 dX9_fill_12 ?_
    refine lv_iload_n hx hb dX9_fill_15 rfl (lv_at hl 3 rfl) ?_
    obtain ⟨hin, hf⟩ := pw_gd hf
    refine pw_ild hC hw ca_22 hin dX9_fill_16 ?_
    refine lv_istore (lv' := [(4, .int (σ.1 22 x3.toNatClampNeg)), (0, .ref (pw_ad G 8)), (1, .ref (pw_ad G 3)), (2, .ref (pw_ad G 30)), (3, .int x3)]) hx hb dX9_fill_17 hl (by decide) rfl (fun ls hl => ?_)
    refine lv_aload_n hx hb dX9_fill_19 rfl (lv_at hl 1 rfl) ?_
    refine pg_8_0 hC hw mw_282 dX9_fill_20 ?_
    refine lv_iload hx hb dX9_fill_23 (lv_at hl 0 rfl) ?_
    refine lv_aload_n hx hb dX9_fill_25 rfl (lv_at hl 3 rfl) ?_
    refine lv_iload hx hb dX9_fill_26 (lv_at hl 0 rfl) ?_
    obtain ⟨hin, hf⟩ := pw_gd hf
    refine pw_zld hC hw ca_30 hin dX9_fill_28 ?_
    refine lv_if_eq (tgt := 36) hx hb dX9_fill_29 (by decide) (fun hc => ?_) (fun hc => ?_)
    · replace hf := pw_ifp hc hf
      refine lv_iload hx hb dX9_fill_36 (lv_at hl 0 rfl) ?_
      refine lv_aload_n hx hb dX9_fill_38 rfl (lv_at hl 2 rfl) ?_
      refine pg_3_6 hC hw mw_164 dX9_fill_39 ?_
      refine lv_icmp_ne (tgt := 49) hx hb dX9_fill_42 (by decide) (fun hc => ?_) (fun hc => ?_)
      · replace hf := pw_ifn hc hf
        refine lv_aload_n hx hb dX9_fill_49 rfl (lv_at hl 1 rfl) ?_
        refine lv_aload_n hx hb dX9_fill_50 rfl (lv_at hl 2 rfl) ?_
        refine lv_iload hx hb dX9_fill_51 (lv_at hl 0 rfl) ?_
        obtain ⟨r1, σ1, h1, hf⟩ := pw_bl_some hf
        refine pw_cl hw (pw_runV (As := [.ref (pw_ad G 3), .int (σ.1 22 x3.toNatClampNeg)]) (rest := [.int (σ.1 22 x3.toNatClampNeg), .ref (pw_ad G 32)]) hC hw (c_X9_sumOver  h1) mw_522 wm_X9_sumOver ⟨Nat.zero_le _, Nat.zero_le _⟩ ⟨rfl, rfl, Nat.le_of_ble_eq_true rfl, Nat.le_of_ble_eq_true rfl⟩ (by decide) rfl rfl rfl hl.1 rfl (Nat.le_of_ble_eq_true rfl) dX9_fill_53) (fun H locs hw => ?_)
        exact t_X9_fill_56 hC hk7  hw (lv_sub hl [1, 2, 3, 4] rfl) hf
      · replace hf := pw_ifp hc hf
        refine lv_lconst (v := 1) hx hb dX9_fill_45 (by decide) ?_
        refine lv_goto (tgt := 56) hx hb dX9_fill_46 (by decide) ?_
        exact t_X9_fill_56 hC hk7  hw (lv_sub hl [1, 2, 3, 4] rfl) hf
    · replace hf := pw_ifn hc hf
      refine lv_lconst (v := 0) hx hb dX9_fill_32 (by decide) ?_
      refine lv_goto (tgt := 56) hx hb dX9_fill_33 (by decide) ?_
      exact t_X9_fill_56 hC hk7  hw (lv_sub hl [1, 2, 3, 4] rfl) hf
set_option maxHeartbeats 4000000 in
theorem tl_X9_fill_7 (hC : pw_CX G RX9 cX9_fill 5 (some .long) p s m args meth c) {r : Int64} {τ : pw_St} : ∀ (n : Nat) (x3 : Int32) (σ : pw_St) (H : Heap) (locs : List Loc) (ls : Array Slot), pw_WH G σ s.heap H locs → lv_has ls 5 [(0, .ref (pw_ad G 8)), (1, .ref (pw_ad G 3)), (2, .ref (pw_ad G 30)), (3, .int x3)] → l_X9_fill_7  n x3 σ = some (r, τ) → W p l e rm_X9_fill s m args below meth c H locs 0 0 (MQ below (pw_Ql G r τ) args s 0 0 (pw_gA G)) (F0 m 7 ls []) := by
  intro n
  induction n with
  | zero => intro x3 σ H locs ls hw hl hf; cases hf
  | succ n ih => intro x3 σ H locs ls hw hl hf; exact t_X9_fill_7 hC ih  hw hl hf
set_option maxHeartbeats 4000000 in
set_option maxRecDepth 100000 in
theorem c_X9_fill {l : Launch} {G : pw_Gh} {σ : pw_St} {r : Int64} {τ : pw_St} (hf : f_X9_fill σ = some (r, τ)) : Met l yX9_fill (.code yX9_fill cX9_fill 5 (some .long) :: pw_BW) rm_X9_fill (pw_Pc G [.ref (pw_ad G 8), .ref (pw_ad G 3), .ref (pw_ad G 30)] σ) (pw_Ql G r τ) 0 0 (pw_gA G) := by
  refine pw_met (by decide +kernel) (Nat.le_of_ble_eq_true rfl) ?_
  intro p e s m args below meth c ls hC hw hl
  replace hl : lv_has ls 5 [(0, .ref (pw_ad G 8)), (1, .ref (pw_ad G 3)), (2, .ref (pw_ad G 30))] := hl
  have hx := hC.1
  have hb := hC.2.1
  unfold f_X9_fill at hf
  refine lv_aload_n hx hb dX9_fill_0 rfl (lv_at hl 1 rfl) ?_
  refine pg_3_5 hC hw mw_160 dX9_fill_1 ?_
  refine lv_iconst (v := 1) hx hb dX9_fill_4 (by decide) ?_
  refine lv_isub hx hb dX9_fill_5 ?_
  refine lv_istore_n (lv' := [(3, .int ((σ.1 3 5) - (1 : Int32))), (0, .ref (pw_ad G 8)), (1, .ref (pw_ad G 3)), (2, .ref (pw_ad G 30))]) hx hb dX9_fill_6 rfl hl (by decide) rfl (fun ls hl => ?_)
  exact tl_X9_fill_7 hC  pw_FU _ _ _ _ _ hw (lv_sub hl [1, 2, 3, 0] rfl) hf
end PM
