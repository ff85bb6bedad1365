section PM
variable {p : Program} {l : Launch} {e : Env} {s : State} {m : MethodId} {args : Array Value} {below : List Frame} {meth : Method} {c : Code} {G : pw_Gh}
-- PerhapsWas$Net up
def f_X6_up (x1 : Int32) (x2 : Int32) (σ : pw_St) : Option (Int32 × pw_St) := (pw_bi (f_X6_shareOf x1 x2 σ) fun r1 σ1 => (if pw_in x2 4 = true then (if r1 < (σ1.1 11 x2.toNatClampNeg) then (if pw_in x2 4 = true then (if pw_in (x1 + (pw_wt x2.toNatClampNeg)) 2401 = true then (if (σ1.1 23 (x1 + (pw_wt x2.toNatClampNeg)).toNatClampNeg) = 0 then (some ((-1 : Int32), σ1)) else (some ((x1 + (pw_wt x2.toNatClampNeg)), σ1))) else none) else none) else (some ((-1 : Int32), σ1))) else none))
def rm_X6_up : Room := { frames := 1, cells := 0, slots := 0, locals := 23 }
set_option maxHeartbeats 4000000 in
set_option maxRecDepth 100000 in
theorem c_X6_up {l : Launch} {G : pw_Gh} {x1 : Int32} {x2 : Int32} {σ : pw_St} {r : Int32} {τ : pw_St} (hf : f_X6_up x1 x2 σ = some (r, τ)) : Met l yX6_up (.code yX6_up cX6_up 4 (some .int) :: pw_BW) rm_X6_up (pw_Pc G [.ref (pw_ad G 3), .int x1, .int x2] σ) (pw_Qi G r τ) 0 0 (pw_gA G) := by
  refine pw_met (by decide +kernel) (Nat.le_of_ble_eq_true rfl) ?_
  intro p e s m args below meth c ls hC hw hl
  replace hl : lv_has ls 4 [(0, .ref (pw_ad G 3)), (1, .int x1), (2, .int x2)] := hl
  have hx := hC.1
  have hb := hC.2.1
  unfold f_X6_up at hf
  refine lv_iload_n hx hb dX6_up_0 rfl (lv_at hl 1 rfl) ?_
  refine lv_iload_n hx hb dX6_up_1 rfl (lv_at hl 2 rfl) ?_
  obtain ⟨r1, σ1, h1, hf⟩ := pw_bi_some hf
  refine pw_ci hw (pw_runS (As := [.int x1, .int x2]) (rest := []) hC hw (c_X6_shareOf  h1) mw_494 wm_X6_shareOf ⟨Nat.zero_le _, Nat.zero_le _⟩ ⟨rfl, rfl, Nat.le_of_ble_eq_true rfl, Nat.le_of_ble_eq_true rfl⟩ rfl hl.1 rfl (Nat.le_of_ble_eq_true rfl) dX6_up_2) (fun H locs hw => ?_)
  refine lv_aload_n hx hb dX6_up_5 rfl (lv_at hl 0 rfl) ?_
  refine pg_3_0 hC hw mw_151 dX6_up_6 ?_
  refine pg_1_1 hC hw mw_104 dX6_up_9 ?_
  refine lv_iload_n hx hb dX6_up_12 rfl (lv_at hl 2 rfl) ?_
  obtain ⟨hin, hf⟩ := pw_gd hf
  refine pw_ild hC hw ca_11 hin dX6_up_13 ?_
  refine lv_icmp_lt (tgt := 19) hx hb dX6_up_14 (by decide) (fun hc => ?_) (fun hc => ?_)
  · replace hf := pw_ifp hc hf
    refine lv_iload_n hx hb dX6_up_19 rfl (lv_at hl 1 rfl) ?_
    refine pw_wget hC hw hC.2.2.2.2.2.1.2.2.2.2.1 dX6_up_20 ?_
    refine lv_iload_n hx hb dX6_up_23 rfl (lv_at hl 2 rfl) ?_
    obtain ⟨hin, hf⟩ := pw_gd hf
    refine pw_wld hC hw hin dX6_up_24 ?_
    refine lv_iadd hx hb dX6_up_25 ?_
    refine lv_istore_n (lv' := [(3, .int (x1 + (pw_wt x2.toNatClampNeg))), (0, .ref (pw_ad G 3)), (1, .int x1), (2, .int x2)]) hx hb dX6_up_26 rfl hl (by decide) rfl (fun ls hl => ?_)
    refine lv_aload_n hx hb dX6_up_27 rfl (lv_at hl 1 rfl) ?_
    refine pg_3_2 hC hw mw_156 dX6_up_28 ?_
    refine lv_iload_n hx hb dX6_up_31 rfl (lv_at hl 0 rfl) ?_
    obtain ⟨hin, hf⟩ := pw_gd hf
    refine pw_zld hC hw ca_23 hin dX6_up_32 ?_
    refine lv_if_eq (tgt := 40) hx hb dX6_up_33 (by decide) (fun hc => ?_) (fun hc => ?_)
    · replace hf := pw_ifp hc hf
      refine lv_iconst (v := -1) hx hb dX6_up_40 (by decide) ?_
      exact pw_iret hC hw hf dX6_up_41
    · replace hf := pw_ifn hc hf
      refine lv_iload_n hx hb dX6_up_36 rfl (lv_at hl 0 rfl) ?_
      refine lv_goto (tgt := 41) hx hb dX6_up_37 (by decide) ?_
      exact pw_iret hC hw hf dX6_up_41
  · replace hf := pw_ifn hc hf
    refine lv_iconst (v := -1) hx hb dX6_up_17 (by decide) ?_
    exact pw_iret hC hw hf dX6_up_18
-- PerhapsWas$Marks areKept
def b_X4_areKept_20 (k2 : Int32 → pw_St → Option (Int32 × pw_St)) (k20 : Int32 → Int32 → Int32 → pw_St → Option (Int32 × pw_St)) (x2 : Int32) (x3 : Int32) (x4 : Int32) (σ : pw_St) : Option (Int32 × pw_St) := (if (4 : Int32) ≤ x4 then (k2 (x2 + (1 : Int32)) σ) else (if pw_in x3 2401 = true then (if (σ.1 30 x3.toNatClampNeg) = 0 then (k2 (x2 + (1 : Int32)) σ) else (pw_bi (f_X6_up x3 x4 σ) fun r1 σ1 => (if r1 = (-1 : Int32) then (k20 x2 x3 (x4 + (1 : Int32)) σ1) else (if pw_in r1 2401 = true then (if (σ1.1 30 r1.toNatClampNeg) = 0 then (if pw_isb (0 : Int32) = true then some ((0 : Int32), σ1) else none) else (k20 x2 x3 (x4 + (1 : Int32)) σ1)) else none)))) else none))
def l_X4_areKept_20 (k2 : Int32 → pw_St → Option (Int32 × pw_St)) : Nat → Int32 → Int32 → Int32 → pw_St → Option (Int32 × pw_St)
  | 0 => fun _ _ _ _ => none
  | n + 1 => fun x2 x3 x4 σ => b_X4_areKept_20 k2 (l_X4_areKept_20 k2 n) x2 x3 x4 σ
def b_X4_areKept_2 (k2 : Int32 → pw_St → Option (Int32 × pw_St)) (x2 : Int32) (σ : pw_St) : Option (Int32 × pw_St) := (if (σ.1 3 5) ≤ x2 then (if pw_isb (1 : Int32) = true then some ((1 : Int32), σ) else none) else (if pw_in x2 2401 = true then (l_X4_areKept_20 k2 pw_FU x2 (σ.1 22 x2.toNatClampNeg) (0 : Int32) σ) else none))
def l_X4_areKept_2 : Nat → Int32 → pw_St → Option (Int32 × pw_St)
  | 0 => fun _ _ => none
  | n + 1 => fun x2 σ => b_X4_areKept_2  (l_X4_areKept_2  n) x2 σ
def f_X4_areKept (σ : pw_St) : Option (Int32 × pw_St) := (l_X4_areKept_2  pw_FU (0 : Int32) σ)
def rm_X4_areKept : Room := { frames := 2, cells := 0, slots := 0, locals := 46 }
set_option maxHeartbeats 4000000 in
set_option maxRecDepth 100000 in
theorem t_X4_areKept_20 (hC : pw_CX G RX4 cX4_areKept 6 (some .boolean) p s m args meth c) {k2 : Int32 → pw_St → Option (Int32 × pw_St)} {k20 : Int32 → Int32 → Int32 → pw_St → Option (Int32 × pw_St)} {r : Int32} {τ : pw_St} (hk2 : ∀ (x2 : Int32), ∀ (σ : pw_St) (H : Heap) (locs : List Loc) (ls : Array Slot), pw_WH G σ s.heap H locs → lv_has ls 6 [(0, .ref (pw_ad G 7)), (1, .ref (pw_ad G 3)), (2, .int x2)] → k2 x2 σ = some (r, τ) → W p l e rm_X4_areKept s m args below meth c H locs 0 0 (MQ below (pw_Qi G r τ) args s 0 0 (pw_gA G)) (F0 m 2 ls [])) (hk20 : ∀ (x2 : Int32), ∀ (x3 : Int32), ∀ (x4 : Int32), ∀ (σ : pw_St) (H : Heap) (locs : List Loc) (ls : Array Slot), pw_WH G σ s.heap H locs → lv_has ls 6 [(0, .ref (pw_ad G 7)), (1, .ref (pw_ad G 3)), (2, .int x2), (3, .int x3), (4, .int x4)] → k20 x2 x3 x4 σ = some (r, τ) → W p l e rm_X4_areKept s m args below meth c H locs 0 0 (MQ below (pw_Qi G r τ) args s 0 0 (pw_gA G)) (F0 m 20 ls [])) {x2 : Int32} {x3 : Int32} {x4 : Int32} {σ : pw_St} {H : Heap} {locs : List Loc} {ls : Array Slot} (hw : pw_WH G σ s.heap H locs) (hl : lv_has ls 6 [(0, .ref (pw_ad G 7)), (1, .ref (pw_ad G 3)), (2, .int x2), (3, .int x3), (4, .int x4)]) (hf : b_X4_areKept_20 k2 k20 x2 x3 x4 σ = some (r, τ)) : W p l e rm_X4_areKept s m args below meth c H locs 0 0 (MQ below (pw_Qi G r τ) args s 0 0 (pw_gA G)) (F0 m 20 ls []) := by
  have hx := hC.1
  have hb := hC.2.1
  unfold b_X4_areKept_20 at hf
  refine lv_iload hx hb dX4_areKept_20 (lv_at hl 4 rfl) ?_
  refine lv_iconst (v := 4) hx hb dX4_areKept_22 (by decide) ?_
  refine lv_icmp_ge (tgt := 68) hx hb dX4_areKept_23 (by decide) (fun hc => ?_) (fun hc => ?_)
  · replace hf := pw_ifp hc hf
    refine lv_iinc (v := (x2 + (1 : Int32))) (lv' := [(2, .int (x2 + (1 : Int32))), (0, .ref (pw_ad G 7)), (1, .ref (pw_ad G 3)), (3, .int x3), (4, .int x4)]) hx hb dX4_areKept_68 hl (k := 2) rfl rfl (by decide) rfl (fun ls hl => ?_)
    refine lv_goto (tgt := 2) hx hb dX4_areKept_71 (by decide) ?_
    exact hk2 _ _ _ _ _ hw (lv_sub hl [1, 2, 0] rfl) hf
  · replace hf := pw_ifn hc hf
    refine lv_aload_n hx hb dX4_areKept_26 rfl (lv_at hl 0 rfl) ?_
    refine pg_7_1 hC hw mw_266 dX4_areKept_27 ?_
    refine lv_iload_n hx hb dX4_areKept_30 rfl (lv_at hl 3 rfl) ?_
    obtain ⟨hin, hf⟩ := pw_gd hf
    refine pw_zld hC hw ca_30 hin dX4_areKept_31 ?_
    refine lv_if_eq (tgt := 68) hx hb dX4_areKept_32 (by decide) (fun hc => ?_) (fun hc => ?_)
    · replace hf := pw_ifp hc hf
      refine lv_iinc (v := (x2 + (1 : Int32))) (lv' := [(2, .int (x2 + (1 : Int32))), (0, .ref (pw_ad G 7)), (1, .ref (pw_ad G 3)), (3, .int x3), (4, .int x4)]) hx hb dX4_areKept_68 hl (k := 2) rfl rfl (by decide) rfl (fun ls hl => ?_)
      refine lv_goto (tgt := 2) hx hb dX4_areKept_71 (by decide) ?_
      exact hk2 _ _ _ _ _ hw (lv_sub hl [1, 2, 0] rfl) hf
    · replace hf := pw_ifn hc hf
      refine lv_aload_n hx hb dX4_areKept_35 rfl (lv_at hl 1 rfl) ?_
      refine lv_iload_n hx hb dX4_areKept_36 rfl (lv_at hl 3 rfl) ?_
      refine lv_iload hx hb dX4_areKept_37 (lv_at hl 4 rfl) ?_
      obtain ⟨r1, σ1, h1, hf⟩ := pw_bi_some hf
      refine pw_ci hw (pw_runV (As := [.int x3, .int x4]) (rest := []) hC hw (c_X6_up  h1) mw_682 wm_X6_up ⟨Nat.zero_le _, Nat.zero_le _⟩ ⟨rfl, rfl, Nat.le_of_ble_eq_true rfl, Nat.le_of_ble_eq_true rfl⟩ (by decide) rfl rfl rfl hl.1 rfl (Nat.le_of_ble_eq_true rfl) dX4_areKept_39) (fun H locs hw => ?_)
      refine lv_istore (lv' := [(5, .int r1), (0, .ref (pw_ad G 7)), (1, .ref (pw_ad G 3)), (2, .int x2), (3, .int x3), (4, .int x4)]) hx hb dX4_areKept_42 hl (by decide) rfl (fun ls hl => ?_)
      refine lv_iload hx hb dX4_areKept_44 (lv_at hl 0 rfl) ?_
      refine lv_iconst (v := -1) hx hb dX4_areKept_46 (by decide) ?_
      refine lv_icmp_eq (tgt := 62) hx hb dX4_areKept_47 (by decide) (fun hc => ?_) (fun hc => ?_)
      · replace hf := pw_ifp hc hf
        refine lv_iinc (v := (x4 + (1 : Int32))) (lv' := [(4, .int (x4 + (1 : Int32))), (5, .int r1), (0, .ref (pw_ad G 7)), (1, .ref (pw_ad G 3)), (2, .int x2), (3, .int x3)]) hx hb dX4_areKept_62 hl (k := 5) rfl rfl (by decide) rfl (fun ls hl => ?_)
        refine lv_goto (tgt := 20) hx hb dX4_areKept_65 (by decide) ?_
        exact hk20 _ _ _ _ _ _ _ hw (lv_sub hl [2, 3, 4, 5, 0] rfl) hf
      · replace hf := pw_ifn hc hf
        refine lv_aload_n hx hb dX4_areKept_50 rfl (lv_at hl 1 rfl) ?_
        refine pg_7_1 hC hw mw_266 dX4_areKept_51 ?_
        refine lv_iload hx hb dX4_areKept_54 (lv_at hl 0 rfl) ?_
        obtain ⟨hin, hf⟩ := pw_gd hf
        refine pw_zld hC hw ca_30 hin dX4_areKept_56 ?_
        refine lv_if_ne (tgt := 62) hx hb dX4_areKept_57 (by decide) (fun hc => ?_) (fun hc => ?_)
        · replace hf := pw_ifn hc hf
          refine lv_iinc (v := (x4 + (1 : Int32))) (lv' := [(4, .int (x4 + (1 : Int32))), (5, .int r1), (0, .ref (pw_ad G 7)), (1, .ref (pw_ad G 3)), (2, .int x2), (3, .int x3)]) hx hb dX4_areKept_62 hl (k := 5) rfl rfl (by decide) rfl (fun ls hl => ?_)
          refine lv_goto (tgt := 20) hx hb dX4_areKept_65 (by decide) ?_
          exact hk20 _ _ _ _ _ _ _ hw (lv_sub hl [2, 3, 4, 5, 0] rfl) hf
        · replace hf := pw_ifp hc hf
          refine lv_iconst (v := 0) hx hb dX4_areKept_60 (by decide) ?_
          exact pw_zret hC hw hf dX4_areKept_61
set_option maxHeartbeats 4000000 in
theorem tl_X4_areKept_20 (hC : pw_CX G RX4 cX4_areKept 6 (some .boolean) p s m args meth c) {k2 : Int32 → pw_St → Option (Int32 × pw_St)} {r : Int32} {τ : pw_St} (hk2 : ∀ (x2 : Int32), ∀ (σ : pw_St) (H : Heap) (locs : List Loc) (ls : Array Slot), pw_WH G σ s.heap H locs → lv_has ls 6 [(0, .ref (pw_ad G 7)), (1, .ref (pw_ad G 3)), (2, .int x2)] → k2 x2 σ = some (r, τ) → W p l e rm_X4_areKept s m args below meth c H locs 0 0 (MQ below (pw_Qi G r τ) args s 0 0 (pw_gA G)) (F0 m 2 ls [])) : ∀ (n : Nat) (x2 : Int32) (x3 : Int32) (x4 : Int32) (σ : pw_St) (H : Heap) (locs : List Loc) (ls : Array Slot), pw_WH G σ s.heap H locs → lv_has ls 6 [(0, .ref (pw_ad G 7)), (1, .ref (pw_ad G 3)), (2, .int x2), (3, .int x3), (4, .int x4)] → l_X4_areKept_20 k2 n x2 x3 x4 σ = some (r, τ) → W p l e rm_X4_areKept s m args below meth c H locs 0 0 (MQ below (pw_Qi G r τ) args s 0 0 (pw_gA G)) (F0 m 20 ls []) := by
  intro n
  induction n with
  | zero => intro x2 x3 x4 σ H locs ls hw hl hf; cases hf
  | succ n ih => intro x2 x3 x4 σ H locs ls hw hl hf; exact t_X4_areKept_20 hC hk2 ih  hw hl hf
set_option maxHeartbeats 4000000 in
set_option maxRecDepth 100000 in
theorem t_X4_areKept_2 (hC : pw_CX G RX4 cX4_areKept 6 (some .boolean) p s m args meth c) {k2 : Int32 → pw_St → Option (Int32 × pw_St)} {r : Int32} {τ : pw_St} (hk2 : ∀ (x2 : Int32), ∀ (σ : pw_St) (H : Heap) (locs : List Loc) (ls : Array Slot), pw_WH G σ s.heap H locs → lv_has ls 6 [(0, .ref (pw_ad G 7)), (1, .ref (pw_ad G 3)), (2, .int x2)] → k2 x2 σ = some (r, τ) → W p l e rm_X4_areKept s m args below meth c H locs 0 0 (MQ below (pw_Qi G r τ) args s 0 0 (pw_gA G)) (F0 m 2 ls [])) {x2 : Int32} {σ : pw_St} {H : Heap} {locs : List Loc} {ls : Array Slot} (hw : pw_WH G σ s.heap H locs) (hl : lv_has ls 6 [(0, .ref (pw_ad G 7)), (1, .ref (pw_ad G 3)), (2, .int x2)]) (hf : b_X4_areKept_2 k2 x2 σ = some (r, τ)) : W p l e rm_X4_areKept s m args below meth c H locs 0 0 (MQ below (pw_Qi G r τ) args s 0 0 (pw_gA G)) (F0 m 2 ls []) := by
  have hx := hC.1
  have hb := hC.2.1
  unfold b_X4_areKept_2 at hf
  refine lv_iload_n hx hb dX4_areKept_2 rfl (lv_at hl 2 rfl) ?_
  refine lv_aload_n hx hb dX4_areKept_3 rfl (lv_at hl 1 rfl) ?_
  refine pg_3_5 hC hw mw_161 dX4_areKept_4 ?_
  refine lv_icmp_ge (tgt := 74) hx hb dX4_areKept_7 (by decide) (fun hc => ?_) (fun hc => ?_)
  · replace hf := pw_ifp hc hf
    refine lv_iconst (v := 1) hx hb dX4_areKept_74 (by decide) ?_
    exact pw_zret hC hw hf dX4_areKept_75
  · replace hf := pw_ifn hc hf
    refine lv_aload_n hx hb dX4_areKept_10 rfl (lv_at hl 1 rfl) ?_
    refine pg_3_1 hC hw mw_154 dX4_areKept_11 ?_
    refine lv_iload_n hx hb dX4_areKept_14 rfl (lv_at hl 2 rfl) ?_
    obtain ⟨hin, hf⟩ := pw_gd hf
    refine pw_ild hC hw ca_22 hin dX4_areKept_15 ?_
    refine lv_istore_n (lv' := [(3, .int (σ.1 22 x2.toNatClampNeg)), (0, .ref (pw_ad G 7)), (1, .ref (pw_ad G 3)), (2, .int x2)]) hx hb dX4_areKept_16 rfl hl (by decide) rfl (fun ls hl => ?_)
    refine lv_iconst (v := 0) hx hb dX4_areKept_17 (by decide) ?_
    refine lv_istore (lv' := [(4, .int (0 : Int32)), (3, .int (σ.1 22 x2.toNatClampNeg)), (0, .ref (pw_ad G 7)), (1, .ref (pw_ad G 3)), (2, .int x2)]) hx hb dX4_areKept_18 hl (by decide) rfl (fun ls hl => ?_)
    exact tl_X4_areKept_20 hC hk2 pw_FU _ _ _ _ _ _ _ hw (lv_sub hl [2, 3, 4, 1, 0] rfl) hf
set_option maxHeartbeats 4000000 in
theorem tl_X4_areKept_2 (hC : pw_CX G RX4 cX4_areKept 6 (some .boolean) p s m args meth c) {r : Int32} {τ : pw_St} : ∀ (n : Nat) (x2 : Int32) (σ : pw_St) (H : Heap) (locs : List Loc) (ls : Array Slot), pw_WH G σ s.heap H locs → lv_has ls 6 [(0, .ref (pw_ad G 7)), (1, .ref (pw_ad G 3)), (2, .int x2)] → l_X4_areKept_2  n x2 σ = some (r, τ) → W p l e rm_X4_areKept s m args below meth c H locs 0 0 (MQ below (pw_Qi G r τ) args s 0 0 (pw_gA G)) (F0 m 2 ls []) := by
  intro n
  induction n with
  | zero => intro x2 σ H locs ls hw hl hf; cases hf
  | succ n ih => intro x2 σ H locs ls hw hl hf; exact t_X4_areKept_2 hC ih  hw hl hf
set_option maxHeartbeats 4000000 in
set_option maxRecDepth 100000 in
theorem c_X4_areKept {l : Launch} {G : pw_Gh} {σ : pw_St} {r : Int32} {τ : pw_St} (hf : f_X4_areKept σ = some (r, τ)) : Met l yX4_areKept (.code yX4_areKept cX4_areKept 6 (some .boolean) :: pw_BW) rm_X4_areKept (pw_Pc G [.ref (pw_ad G 7), .ref (pw_ad G 3)] σ) (pw_Qi G r τ) 0 0 (pw_gA G) := by
  refine pw_met (by decide +kernel) (Nat.le_of_ble_eq_true rfl) ?_
  intro p e s m args below meth c ls hC hw hl
  replace hl : lv_has ls 6 [(0, .ref (pw_ad G 7)), (1, .ref (pw_ad G 3))] := hl
  have hx := hC.1
  have hb := hC.2.1
  unfold f_X4_areKept at hf
  refine lv_iconst (v := 0) hx hb dX4_areKept_0 (by decide) ?_
  refine lv_istore_n (lv' := [(2, .int (0 : Int32)), (0, .ref (pw_ad G 7)), (1, .ref (pw_ad G 3))]) hx hb dX4_areKept_1 rfl hl (by decide) rfl (fun ls hl => ?_)
  exact tl_X4_areKept_2 hC  pw_FU _ _ _ _ _ hw (lv_sub hl [1, 2, 0] rfl) hf
-- PerhapsWas$Net down
def f_X6_down (x1 : Int32) (x2 : Int32) (σ : pw_St) : Option (Int32 × pw_St) := (pw_bi (f_X6_shareOf x1 x2 σ) fun r1 σ1 => (if r1 = 0 then (some ((-1 : Int32), σ1)) else (if pw_in x2 4 = true then (if pw_in (x1 - (pw_wt x2.toNatClampNeg)) 2401 = true then (if (σ1.1 23 (x1 - (pw_wt x2.toNatClampNeg)).toNatClampNeg) = 0 then (some ((-1 : Int32), σ1)) else (some ((x1 - (pw_wt x2.toNatClampNeg)), σ1))) else none) else none)))
def rm_X6_down : Room := { frames := 1, cells := 0, slots := 0, locals := 23 }
set_option maxHeartbeats 4000000 in
set_option maxRecDepth 100000 in
theorem c_X6_down {l : Launch} {G : pw_Gh} {x1 : Int32} {x2 : Int32} {σ : pw_St} {r : Int32} {τ : pw_St} (hf : f_X6_down x1 x2 σ = some (r, τ)) : Met l yX6_down (.code yX6_down cX6_down 4 (some .int) :: pw_BW) rm_X6_down (pw_Pc G [.ref (pw_ad G 3), .int x1, .int x2] σ) (pw_Qi G r τ) 0 0 (pw_gA G) := by
  refine pw_met (by decide +kernel) (Nat.le_of_ble_eq_true rfl) ?_
  intro p e s m args below meth c ls hC hw hl
  replace hl : lv_has ls 4 [(0, .ref (pw_ad G 3)), (1, .int x1), (2, .int x2)] := hl
  have hx := hC.1
  have hb := hC.2.1
  unfold f_X6_down at hf
  refine lv_iload_n hx hb dX6_down_0 rfl (lv_at hl 1 rfl) ?_
  refine lv_iload_n hx hb dX6_down_1 rfl (lv_at hl 2 rfl) ?_
  obtain ⟨r1, σ1, h1, hf⟩ := pw_bi_some hf
  refine pw_ci hw (pw_runS (As := [.int x1, .int x2]) (rest := []) hC hw (c_X6_shareOf  h1) mw_494 wm_X6_shareOf ⟨Nat.zero_le _, Nat.zero_le _⟩ ⟨rfl, rfl, Nat.le_of_ble_eq_true rfl, Nat.le_of_ble_eq_true rfl⟩ rfl hl.1 rfl (Nat.le_of_ble_eq_true rfl) dX6_down_2) (fun H locs hw => ?_)
  refine lv_if_ne (tgt := 10) hx hb dX6_down_5 (by decide) (fun hc => ?_) (fun hc => ?_)
  · replace hf := pw_ifn hc hf
    refine lv_iload_n hx hb dX6_down_10 rfl (lv_at hl 1 rfl) ?_
    refine pw_wget hC hw hC.2.2.2.2.2.1.2.2.2.2.1 dX6_down_11 ?_
    refine lv_iload_n hx hb dX6_down_14 rfl (lv_at hl 2 rfl) ?_
    obtain ⟨hin, hf⟩ := pw_gd hf
    refine pw_wld hC hw hin dX6_down_15 ?_
    refine lv_isub hx hb dX6_down_16 ?_
    refine lv_istore_n (lv' := [(3, .int (x1 - (pw_wt x2.toNatClampNeg))), (0, .ref (pw_ad G 3)), (1, .int x1), (2, .int x2)]) hx hb dX6_down_17 rfl hl (by decide) rfl (fun ls hl => ?_)
    refine lv_aload_n hx hb dX6_down_18 rfl (lv_at hl 1 rfl) ?_
    refine pg_3_2 hC hw mw_156 dX6_down_19 ?_
    refine lv_iload_n hx hb dX6_down_22 rfl (lv_at hl 0 rfl) ?_
    obtain ⟨hin, hf⟩ := pw_gd hf
    refine pw_zld hC hw ca_23 hin dX6_down_23 ?_
    refine lv_if_eq (tgt := 31) hx hb dX6_down_24 (by decide) (fun hc => ?_) (fun hc => ?_)
    · replace hf := pw_ifp hc hf
      refine lv_iconst (v := -1) hx hb dX6_down_31 (by decide) ?_
      exact pw_iret hC hw hf dX6_down_32
    · replace hf := pw_ifn hc hf
      refine lv_iload_n hx hb dX6_down_27 rfl (lv_at hl 0 rfl) ?_
      refine lv_goto (tgt := 32) hx hb dX6_down_28 (by decide) ?_
      exact pw_iret hC hw hf dX6_down_32
  · replace hf := pw_ifp hc hf
    refine lv_iconst (v := -1) hx hb dX6_down_8 (by decide) ?_
    exact pw_iret hC hw hf dX6_down_9
-- PerhapsWas$Net combine
def b_X6_combine_49 (k5 : Int32 → Int32 → Int32 → Int32 → Int32 → pw_St → Option (Int32 × pw_St)) (x0 : Int32) (x1 : Int32) (x2 : Int32) (x4 : Int32) (y0 : Int32) (y1 : Int32) (σ : pw_St) : Option (Int32 × pw_St) := (if pw_in x4 4 = true then (k5 x0 x1 x2 (y1 + (y0 * (pw_wt x4.toNatClampNeg))) (x4 + (1 : Int32)) σ) else none)
def b_X6_combine_5 (k5 : Int32 → Int32 → Int32 → Int32 → Int32 → pw_St → Option (Int32 × pw_St)) (x0 : Int32) (x1 : Int32) (x2 : Int32) (x3 : Int32) (x4 : Int32) (σ : pw_St) : Option (Int32 × pw_St) := (if (4 : Int32) ≤ x4 then (some (x3, σ)) else (pw_bi (f_X6_shareOf x0 x4 σ) fun r1 σ1 => (pw_bi (f_X6_shareOf x1 x4 σ1) fun r2 σ2 => (if x2 = 0 then (b_X6_combine_49 k5 x0 x1 x2 x4 (if r1 < r2 then r2 else r1) x3 σ2) else (b_X6_combine_49 k5 x0 x1 x2 x4 (if r2 < r1 then r2 else r1) x3 σ2)))))
def l_X6_combine_5 : Nat → Int32 → Int32 → Int32 → Int32 → Int32 → pw_St → Option (Int32 × pw_St)
  | 0 => fun _ _ _ _ _ _ => none
  | n + 1 => fun x0 x1 x2 x3 x4 σ => b_X6_combine_5  (l_X6_combine_5  n) x0 x1 x2 x3 x4 σ
def f_X6_combine (x0 : Int32) (x1 : Int32) (x2 : Int32) (σ : pw_St) : Option (Int32 × pw_St) := (l_X6_combine_5  pw_FU x0 x1 x2 (0 : Int32) (0 : Int32) σ)
def rm_X6_combine : Room := { frames := 1, cells := 0, slots := 0, locals := 23 }
set_option maxHeartbeats 4000000 in
set_option maxRecDepth 100000 in
theorem t_X6_combine_49 (hC : pw_CX G RX6 cX6_combine 7 (some .int) p s m args meth c) {k5 : Int32 → Int32 → Int32 → Int32 → Int32 → pw_St → Option (Int32 × pw_St)} {r : Int32} {τ : pw_St} (hk5 : ∀ (x0 : Int32), ∀ (x1 : Int32), ∀ (x2 : Int32), ∀ (x3 : Int32), ∀ (x4 : Int32), ∀ (σ : pw_St) (H : Heap) (locs : List Loc) (ls : Array Slot), pw_WH G σ s.heap H locs → lv_has ls 7 [(0, .int x0), (1, .int x1), (2, .int x2), (3, .int x3), (4, .int x4)] → k5 x0 x1 x2 x3 x4 σ = some (r, τ) → W p l e rm_X6_combine s m args below meth c H locs 0 0 (MQ below (pw_Qi G r τ) args s 0 0 (pw_gA G)) (F0 m 5 ls [])) {x0 : Int32} {x1 : Int32} {x2 : Int32} {x4 : Int32} {y0 : Int32} {y1 : Int32} {σ : pw_St} {H : Heap} {locs : List Loc} {ls : Array Slot} (hw : pw_WH G σ s.heap H locs) (hl : lv_has ls 7 [(0, .int x0), (1, .int x1), (2, .int x2), (4, .int x4)]) (hf : b_X6_combine_49 k5 x0 x1 x2 x4 y0 y1 σ = some (r, τ)) : W p l e rm_X6_combine s m args below meth c H locs 0 0 (MQ below (pw_Qi G r τ) args s 0 0 (pw_gA G)) (F0 m 49 ls [.int y0, .int y1]) := by
  have hx := hC.1
  have hb := hC.2.1
  unfold b_X6_combine_49 at hf
  refine pw_wget hC hw hC.2.2.2.2.2.1.2.2.2.2.1 dX6_combine_49 ?_
  refine lv_iload hx hb dX6_combine_52 (lv_at hl 3 rfl) ?_
  obtain ⟨hin, hf⟩ := pw_gd hf
  refine pw_wld hC hw hin dX6_combine_54 ?_
  refine lv_imul hx hb dX6_combine_55 ?_
  refine lv_iadd hx hb dX6_combine_56 ?_
  refine lv_istore_n (lv' := [(3, .int (y1 + (y0 * (pw_wt x4.toNatClampNeg)))), (0, .int x0), (1, .int x1), (2, .int x2), (4, .int x4)]) hx hb dX6_combine_57 rfl hl (by decide) rfl (fun ls hl => ?_)
  refine lv_iinc (v := (x4 + (1 : Int32))) (lv' := [(4, .int (x4 + (1 : Int32))), (3, .int (y1 + (y0 * (pw_wt x4.toNatClampNeg)))), (0, .int x0), (1, .int x1), (2, .int x2)]) hx hb dX6_combine_58 hl (k := 4) rfl rfl (by decide) rfl (fun ls hl => ?_)
  refine lv_goto (tgt := 5) hx hb dX6_combine_61 (by decide) ?_
  exact hk5 _ _ _ _ _ _ _ _ _ hw (lv_sub hl [2, 3, 4, 1, 0] rfl) hf
set_option maxHeartbeats 4000000 in
set_option maxRecDepth 100000 in
theorem t_X6_combine_5 (hC : pw_CX G RX6 cX6_combine 7 (some .int) p s m args meth c) {k5 : Int32 → Int32 → Int32 → Int32 → Int32 → pw_St → Option (Int32 × pw_St)} {r : Int32} {τ : pw_St} (hk5 : ∀ (x0 : Int32), ∀ (x1 : Int32), ∀ (x2 : Int32), ∀ (x3 : Int32), ∀ (x4 : Int32), ∀ (σ : pw_St) (H : Heap) (locs : List Loc) (ls : Array Slot), pw_WH G σ s.heap H locs → lv_has ls 7 [(0, .int x0), (1, .int x1), (2, .int x2), (3, .int x3), (4, .int x4)] → k5 x0 x1 x2 x3 x4 σ = some (r, τ) → W p l e rm_X6_combine s m args below meth c H locs 0 0 (MQ below (pw_Qi G r τ) args s 0 0 (pw_gA G)) (F0 m 5 ls [])) {x0 : Int32} {x1 : Int32} {x2 : Int32} {x3 : Int32} {x4 : Int32} {σ : pw_St} {H : Heap} {locs : List Loc} {ls : Array Slot} (hw : pw_WH G σ s.heap H locs) (hl : lv_has ls 7 [(0, .int x0), (1, .int x1), (2, .int x2), (3, .int x3), (4, .int x4)]) (hf : b_X6_combine_5 k5 x0 x1 x2 x3 x4 σ = some (r, τ)) : W p l e rm_X6_combine s m args below meth c H locs 0 0 (MQ below (pw_Qi G r τ) args s 0 0 (pw_gA G)) (F0 m 5 ls []) := by
  have hx := hC.1
  have hb := hC.2.1
  unfold b_X6_combine_5 at hf
  refine lv_iload hx hb dX6_combine_5 (lv_at hl 4 rfl) ?_
  refine lv_iconst (v := 4) hx hb dX6_combine_7 (by decide) ?_
  refine lv_icmp_ge (tgt := 64) hx hb dX6_combine_8 (by decide) (fun hc => ?_) (fun hc => ?_)
  · replace hf := pw_ifp hc hf
    refine lv_iload_n hx hb dX6_combine_64 rfl (lv_at hl 3 rfl) ?_
    exact pw_iret hC hw hf dX6_combine_65
  · replace hf := pw_ifn hc hf
    refine lv_iload_n hx hb dX6_combine_11 rfl (lv_at hl 0 rfl) ?_
    refine lv_iload hx hb dX6_combine_12 (lv_at hl 4 rfl) ?_
    obtain ⟨r1, σ1, h1, hf⟩ := pw_bi_some hf
    refine pw_ci hw (pw_runS (As := [.int x0, .int x4]) (rest := []) hC hw (c_X6_shareOf  h1) mw_494 wm_X6_shareOf ⟨Nat.zero_le _, Nat.zero_le _⟩ ⟨rfl, rfl, Nat.le_of_ble_eq_true rfl, Nat.le_of_ble_eq_true rfl⟩ rfl hl.1 rfl (Nat.le_of_ble_eq_true rfl) dX6_combine_14) (fun H locs hw => ?_)
    refine lv_istore (lv' := [(5, .int r1), (0, .int x0), (1, .int x1), (2, .int x2), (3, .int x3), (4, .int x4)]) hx hb dX6_combine_17 hl (by decide) rfl (fun ls hl => ?_)
    refine lv_iload_n hx hb dX6_combine_19 rfl (lv_at hl 2 rfl) ?_
    refine lv_iload hx hb dX6_combine_20 (lv_at hl 5 rfl) ?_
    obtain ⟨r2, σ2, h2, hf⟩ := pw_bi_some hf
    refine pw_ci hw (pw_runS (As := [.int x1, .int x4]) (rest := []) hC hw (c_X6_shareOf  h2) mw_494 wm_X6_shareOf ⟨Nat.zero_le _, Nat.zero_le _⟩ ⟨rfl, rfl, Nat.le_of_ble_eq_true rfl, Nat.le_of_ble_eq_true rfl⟩ rfl hl.1 rfl (Nat.le_of_ble_eq_true rfl) dX6_combine_22) (fun H locs hw => ?_)
    refine lv_istore (lv' := [(6, .int r2), (5, .int r1), (0, .int x0), (1, .int x1), (2, .int x2), (3, .int x3), (4, .int x4)]) hx hb dX6_combine_25 hl (by decide) rfl (fun ls hl => ?_)
    refine lv_iload_n hx hb dX6_combine_27 rfl (lv_at hl 5 rfl) ?_
    refine lv_iload_n hx hb dX6_combine_28 rfl (lv_at hl 4 rfl) ?_
    refine lv_if_eq (tgt := 42) hx hb dX6_combine_29 (by decide) (fun hc => ?_) (fun hc => ?_)
    · replace hf := pw_ifp hc hf
      refine lv_iload hx hb dX6_combine_42 (lv_at hl 1 rfl) ?_
      refine lv_iload hx hb dX6_combine_44 (lv_at hl 0 rfl) ?_
      refine va_mmax hx hb (hC.2.2.1.trans hl.1.symm) hC.2.2.2.1 (hC.2.2.2.2.1 _ mw_500) (hC.2.2.2.2.1 _ mw_396) (hC.2.2.2.2.1 _ mw_46) (hC.2.2.2.2.1 _ mw_397) (Nat.le_of_ble_eq_true rfl) (Nat.le_of_ble_eq_true rfl) (Nat.zero_le _) (Nat.zero_le _) dX6_combine_46 ?_
      exact t_X6_combine_49 hC hk5  hw (lv_sub hl [2, 3, 4, 6] rfl) hf
    · replace hf := pw_ifn hc hf
      refine lv_iload hx hb dX6_combine_32 (lv_at hl 1 rfl) ?_
      refine lv_iload hx hb dX6_combine_34 (lv_at hl 0 rfl) ?_
      refine va_mmin hx hb (hC.2.2.1.trans hl.1.symm) hC.2.2.2.1 (hC.2.2.2.2.1 _ mw_497) (hC.2.2.2.2.1 _ mw_498) (hC.2.2.2.2.1 _ mw_46) (hC.2.2.2.2.1 _ mw_499) (Nat.le_of_ble_eq_true rfl) (Nat.le_of_ble_eq_true rfl) (Nat.zero_le _) (Nat.zero_le _) dX6_combine_36 ?_
      refine lv_goto (tgt := 49) hx hb dX6_combine_39 (by decide) ?_
      exact t_X6_combine_49 hC hk5  hw (lv_sub hl [2, 3, 4, 6] rfl) hf
set_option maxHeartbeats 4000000 in
theorem tl_X6_combine_5 (hC : pw_CX G RX6 cX6_combine 7 (some .int) p s m args meth c) {r : Int32} {τ : pw_St} : ∀ (n : Nat) (x0 : Int32) (x1 : Int32) (x2 : Int32) (x3 : Int32) (x4 : Int32) (σ : pw_St) (H : Heap) (locs : List Loc) (ls : Array Slot), pw_WH G σ s.heap H locs → lv_has ls 7 [(0, .int x0), (1, .int x1), (2, .int x2), (3, .int x3), (4, .int x4)] → l_X6_combine_5  n x0 x1 x2 x3 x4 σ = some (r, τ) → W p l e rm_X6_combine s m args below meth c H locs 0 0 (MQ below (pw_Qi G r τ) args s 0 0 (pw_gA G)) (F0 m 5 ls []) := by
  intro n
  induction n with
  | zero => intro x0 x1 x2 x3 x4 σ H locs ls hw hl hf; cases hf
  | succ n ih => intro x0 x1 x2 x3 x4 σ H locs ls hw hl hf; exact t_X6_combine_5 hC ih  hw hl hf
set_option maxHeartbeats 4000000 in
set_option maxRecDepth 100000 in
theorem c_X6_combine {l : Launch} {G : pw_Gh} {x0 : Int32} {x1 : Int32} {x2 : Int32} {σ : pw_St} {r : Int32} {τ : pw_St} (hf : f_X6_combine x0 x1 x2 σ = some (r, τ)) : Met l yX6_combine (.code yX6_combine cX6_combine 7 (some .int) :: pw_BW) rm_X6_combine (pw_Pc G [.int x0, .int x1, .int x2] σ) (pw_Qi G r τ) 0 0 (pw_gA G) := by
  refine pw_met (by decide +kernel) (Nat.le_of_ble_eq_true rfl) ?_
  intro p e s m args below meth c ls hC hw hl
  replace hl : lv_has ls 7 [(0, .int x0), (1, .int x1), (2, .int x2)] := hl
  have hx := hC.1
  have hb := hC.2.1
  unfold f_X6_combine at hf
  refine lv_iconst (v := 0) hx hb dX6_combine_0 (by decide) ?_
  refine lv_istore_n (lv' := [(3, .int (0 : Int32)), (0, .int x0), (1, .int x1), (2, .int x2)]) hx hb dX6_combine_1 rfl hl (by decide) rfl (fun ls hl => ?_)
  refine lv_iconst (v := 0) hx hb dX6_combine_2 (by decide) ?_
  refine lv_istore (lv' := [(4, .int (0 : Int32)), (3, .int (0 : Int32)), (0, .int x0), (1, .int x1), (2, .int x2)]) hx hb dX6_combine_3 hl (by decide) rfl (fun ls hl => ?_)
  exact tl_X6_combine_5 hC  pw_FU _ _ _ _ _ _ _ _ _ hw (lv_sub hl [2, 3, 4, 1, 0] rfl) hf
-- PerhapsWas$Marks nearestBeyond
def b_X4_nearestBeyond_52 (k6 : Int32 → Int32 → Int32 → Int32 → pw_St → Option (Int32 × pw_St)) (x2 : Int32) (x3 : Int32) (x4 : Int32) (x5 : Int32) (y0 : Int32) (σ : pw_St) : Option (Int32 × pw_St) := (if y0 = (-1 : Int32) then (k6 x2 x3 x4 (x5 + (1 : Int32)) σ) else (if x4 = (-1 : Int32) then (k6 x2 x3 y0 (x5 + (1 : Int32)) σ) else (pw_bi (f_X6_combine x4 y0 x3 σ) fun r1 σ1 => (k6 x2 x3 r1 (x5 + (1 : Int32)) σ1))))
def b_X4_nearestBeyond_33 (k6 : Int32 → Int32 → Int32 → Int32 → pw_St → Option (Int32 × pw_St)) (x2 : Int32) (x3 : Int32) (x4 : Int32) (x5 : Int32) (y0 : Int32) (σ : pw_St) : Option (Int32 × pw_St) := (if y0 = (-1 : Int32) then (b_X4_nearestBeyond_52 k6 x2 x3 x4 x5 (-1 : Int32) σ) else (if pw_in y0 2401 = true then (b_X4_nearestBeyond_52 k6 x2 x3 x4 x5 (σ.1 31 y0.toNatClampNeg) σ) else none))
def b_X4_nearestBeyond_6 (k6 : Int32 → Int32 → Int32 → Int32 → pw_St → Option (Int32 × pw_St)) (x2 : Int32) (x3 : Int32) (x4 : Int32) (x5 : Int32) (σ : pw_St) : Option (Int32 × pw_St) := (if (4 : Int32) ≤ x5 then (some (x4, σ)) else (if x3 = 0 then (pw_bi (f_X6_down x2 x5 σ) fun r1 σ1 => (b_X4_nearestBeyond_33 k6 x2 x3 x4 x5 r1 σ1)) else (pw_bi (f_X6_up x2 x5 σ) fun r2 σ2 => (b_X4_nearestBeyond_33 k6 x2 x3 x4 x5 r2 σ2))))
def l_X4_nearestBeyond_6 : Nat → Int32 → Int32 → Int32 → Int32 → pw_St → Option (Int32 × pw_St)
  | 0 => fun _ _ _ _ _ => none
  | n + 1 => fun x2 x3 x4 x5 σ => b_X4_nearestBeyond_6  (l_X4_nearestBeyond_6  n) x2 x3 x4 x5 σ
def f_X4_nearestBeyond (x2 : Int32) (x3 : Int32) (σ : pw_St) : Option (Int32 × pw_St) := (l_X4_nearestBeyond_6  pw_FU x2 x3 (-1 : Int32) (0 : Int32) σ)
def rm_X4_nearestBeyond : Room := { frames := 2, cells := 0, slots := 0, locals := 49 }
set_option maxHeartbeats 4000000 in
set_option maxRecDepth 100000 in
theorem t_X4_nearestBeyond_52 (hC : pw_CX G RX4 cX4_nearestBeyond 8 (some .int) p s m args meth c) {k6 : Int32 → Int32 → Int32 → Int32 → pw_St → Option (Int32 × pw_St)} {r : Int32} {τ : pw_St} (hk6 : ∀ (x2 : Int32), ∀ (x3 : Int32), ∀ (x4 : Int32), ∀ (x5 : Int32), ∀ (σ : pw_St) (H : Heap) (locs : List Loc) (ls : Array Slot), pw_WH G σ s.heap H locs → lv_has ls 8 [(0, .ref (pw_ad G 7)), (1, .ref (pw_ad G 3)), (2, .int x2), (3, .int x3), (4, .int x4), (5, .int x5)] → k6 x2 x3 x4 x5 σ = some (r, τ) → W p l e rm_X4_nearestBeyond s m args below meth c H locs 0 0 (MQ below (pw_Qi G r τ) args s 0 0 (pw_gA G)) (F0 m 6 ls [])) {x2 : Int32} {x3 : Int32} {x4 : Int32} {x5 : Int32} {y0 : Int32} {σ : pw_St} {H : Heap} {locs : List Loc} {ls : Array Slot} (hw : pw_WH G σ s.heap H locs) (hl : lv_has ls 8 [(0, .ref (pw_ad G 7)), (1, .ref (pw_ad G 3)), (2, .int x2), (3, .int x3), (4, .int x4), (5, .int x5)]) (hf : b_X4_nearestBeyond_52 k6 x2 x3 x4 x5 y0 σ = some (r, τ)) : W p l e rm_X4_nearestBeyond s m args below meth c H locs 0 0 (MQ below (pw_Qi G r τ) args s 0 0 (pw_gA G)) (F0 m 52 ls [.int y0]) := by
  have hx := hC.1
  have hb := hC.2.1
  unfold b_X4_nearestBeyond_52 at hf
  refine lv_istore (lv' := [(7, .int y0), (0, .ref (pw_ad G 7)), (1, .ref (pw_ad G 3)), (2, .int x2), (3, .int x3), (4, .int x4), (5, .int x5)]) hx hb dX4_nearestBeyond_52 hl (by decide) rfl (fun ls hl => ?_)
  refine lv_iload hx hb dX4_nearestBeyond_54 (lv_at hl 0 rfl) ?_
  refine lv_iconst (v := -1) hx hb dX4_nearestBeyond_56 (by decide) ?_
  refine lv_icmp_eq (tgt := 81) hx hb dX4_nearestBeyond_57 (by decide) (fun hc => ?_) (fun hc => ?_)
  · replace hf := pw_ifp hc hf
    refine lv_iinc (v := (x5 + (1 : Int32))) (lv' := [(5, .int (x5 + (1 : Int32))), (7, .int y0), (0, .ref (pw_ad G 7)), (1, .ref (pw_ad G 3)), (2, .int x2), (3, .int x3), (4, .int x4)]) hx hb dX4_nearestBeyond_81 hl (k := 6) rfl rfl (by decide) rfl (fun ls hl => ?_)
    refine lv_goto (tgt := 6) hx hb dX4_nearestBeyond_84 (by decide) ?_
    exact hk6 _ _ _ _ _ _ _ _ hw (lv_sub hl [2, 3, 4, 5, 6, 0] rfl) hf
  · replace hf := pw_ifn hc hf
    refine lv_iload hx hb dX4_nearestBeyond_60 (lv_at hl 5 rfl) ?_
    refine lv_iconst (v := -1) hx hb dX4_nearestBeyond_62 (by decide) ?_
    refine lv_icmp_ne (tgt := 71) hx hb dX4_nearestBeyond_63 (by decide) (fun hc => ?_) (fun hc => ?_)
    · replace hf := pw_ifn hc hf
      refine lv_iload hx hb dX4_nearestBeyond_71 (lv_at hl 5 rfl) ?_
      refine lv_iload hx hb dX4_nearestBeyond_73 (lv_at hl 0 rfl) ?_
      refine lv_iload_n hx hb dX4_nearestBeyond_75 rfl (lv_at hl 4 rfl) ?_
      obtain ⟨r1, σ1, h1, hf⟩ := pw_bi_some hf
      refine pw_ci hw (pw_runS (As := [.int x4, .int y0, .int x3]) (rest := []) hC hw (c_X6_combine  h1) mw_695 wm_X6_combine ⟨Nat.zero_le _, Nat.zero_le _⟩ ⟨rfl, rfl, Nat.le_of_ble_eq_true rfl, Nat.le_of_ble_eq_true rfl⟩ rfl hl.1 rfl (Nat.le_of_ble_eq_true rfl) dX4_nearestBeyond_76) (fun H locs hw => ?_)
      refine lv_istore (lv' := [(4, .int r1), (7, .int y0), (0, .ref (pw_ad G 7)), (1, .ref (pw_ad G 3)), (2, .int x2), (3, .int x3), (5, .int x5)]) hx hb dX4_nearestBeyond_79 hl (by decide) rfl (fun ls hl => ?_)
      refine lv_iinc (v := (x5 + (1 : Int32))) (lv' := [(5, .int (x5 + (1 : Int32))), (4, .int r1), (7, .int y0), (0, .ref (pw_ad G 7)), (1, .ref (pw_ad G 3)), (2, .int x2), (3, .int x3)]) hx hb dX4_nearestBeyond_81 hl (k := 6) rfl rfl (by decide) rfl (fun ls hl => ?_)
      refine lv_goto (tgt := 6) hx hb dX4_nearestBeyond_84 (by decide) ?_
      exact hk6 _ _ _ _ _ _ _ _ hw (lv_sub hl [3, 4, 5, 6, 1, 0] rfl) hf
    · replace hf := pw_ifp hc hf
      refine lv_iload hx hb dX4_nearestBeyond_66 (lv_at hl 0 rfl) ?_
      refine lv_goto (tgt := 79) hx hb dX4_nearestBeyond_68 (by decide) ?_
      refine lv_istore (lv' := [(4, .int y0), (7, .int y0), (0, .ref (pw_ad G 7)), (1, .ref (pw_ad G 3)), (2, .int x2), (3, .int x3), (5, .int x5)]) hx hb dX4_nearestBeyond_79 hl (by decide) rfl (fun ls hl => ?_)
      refine lv_iinc (v := (x5 + (1 : Int32))) (lv' := [(5, .int (x5 + (1 : Int32))), (4, .int y0), (7, .int y0), (0, .ref (pw_ad G 7)), (1, .ref (pw_ad G 3)), (2, .int x2), (3, .int x3)]) hx hb dX4_nearestBeyond_81 hl (k := 6) rfl rfl (by decide) rfl (fun ls hl => ?_)
      refine lv_goto (tgt := 6) hx hb dX4_nearestBeyond_84 (by decide) ?_
      exact hk6 _ _ _ _ _ _ _ _ hw (lv_sub hl [3, 4, 5, 6, 1, 0] rfl) hf
set_option maxHeartbeats 4000000 in
set_option maxRecDepth 100000 in
theorem t_X4_nearestBeyond_33 (hC : pw_CX G RX4 cX4_nearestBeyond 8 (some .int) p s m args meth c) {k6 : Int32 → Int32 → Int32 → Int32 → pw_St → Option (Int32 × pw_St)} {r : Int32} {τ : pw_St} (hk6 : ∀ (x2 : Int32), ∀ (x3 : Int32), ∀ (x4 : Int32), ∀ (x5 : Int32), ∀ (σ : pw_St) (H : Heap) (locs : List Loc) (ls : Array Slot), pw_WH G σ s.heap H locs → lv_has ls 8 [(0, .ref (pw_ad G 7)), (1, .ref (pw_ad G 3)), (2, .int x2), (3, .int x3), (4, .int x4), (5, .int x5)] → k6 x2 x3 x4 x5 σ = some (r, τ) → W p l e rm_X4_nearestBeyond s m args below meth c H locs 0 0 (MQ below (pw_Qi G r τ) args s 0 0 (pw_gA G)) (F0 m 6 ls [])) {x2 : Int32} {x3 : Int32} {x4 : Int32} {x5 : Int32} {y0 : Int32} {σ : pw_St} {H : Heap} {locs : List Loc} {ls : Array Slot} (hw : pw_WH G σ s.heap H locs) (hl : lv_has ls 8 [(0, .ref (pw_ad G 7)), (1, .ref (pw_ad G 3)), (2, .int x2), (3, .int x3), (4, .int x4), (5, .int x5)]) (hf : b_X4_nearestBeyond_33 k6 x2 x3 x4 x5 y0 σ = some (r, τ)) : W p l e rm_X4_nearestBeyond s m args below meth c H locs 0 0 (MQ below (pw_Qi G r τ) args s 0 0 (pw_gA G)) (F0 m 33 ls [.int y0]) := by
  have hx := hC.1
  have hb := hC.2.1
  unfold b_X4_nearestBeyond_33 at hf
  refine lv_istore (lv' := [(6, .int y0), (0, .ref (pw_ad G 7)), (1, .ref (pw_ad G 3)), (2, .int x2), (3, .int x3), (4, .int x4), (5, .int x5)]) hx hb dX4_nearestBeyond_33 hl (by decide) rfl (fun ls hl => ?_)
  refine lv_iload hx hb dX4_nearestBeyond_35 (lv_at hl 0 rfl) ?_
  refine lv_iconst (v := -1) hx hb dX4_nearestBeyond_37 (by decide) ?_
  refine lv_icmp_ne (tgt := 45) hx hb dX4_nearestBeyond_38 (by decide) (fun hc => ?_) (fun hc => ?_)
  · replace hf := pw_ifn hc hf
    refine lv_aload_n hx hb dX4_nearestBeyond_45 rfl (lv_at hl 1 rfl) ?_
    refine pg_7_2 hC hw mw_268 dX4_nearestBeyond_46 ?_
    refine lv_iload hx hb dX4_nearestBeyond_49 (lv_at hl 0 rfl) ?_
    obtain ⟨hin, hf⟩ := pw_gd hf
    refine pw_ild hC hw ca_31 hin dX4_nearestBeyond_51 ?_
    exact t_X4_nearestBeyond_52 hC hk6  hw (lv_sub hl [1, 2, 3, 4, 5, 6] rfl) hf
  · replace hf := pw_ifp hc hf
    refine lv_iconst (v := -1) hx hb dX4_nearestBeyond_41 (by decide) ?_
    refine lv_goto (tgt := 52) hx hb dX4_nearestBeyond_42 (by decide) ?_
    exact t_X4_nearestBeyond_52 hC hk6  hw (lv_sub hl [1, 2, 3, 4, 5, 6] rfl) hf
set_option maxHeartbeats 4000000 in
set_option maxRecDepth 100000 in
theorem t_X4_nearestBeyond_6 (hC : pw_CX G RX4 cX4_nearestBeyond 8 (some .int) p s m args meth c) {k6 : Int32 → Int32 → Int32 → Int32 → pw_St → Option (Int32 × pw_St)} {r : Int32} {τ : pw_St} (hk6 : ∀ (x2 : Int32), ∀ (x3 : Int32), ∀ (x4 : Int32), ∀ (x5 : Int32), ∀ (σ : pw_St) (H : Heap) (locs : List Loc) (ls : Array Slot), pw_WH G σ s.heap H locs → lv_has ls 8 [(0, .ref (pw_ad G 7)), (1, .ref (pw_ad G 3)), (2, .int x2), (3, .int x3), (4, .int x4), (5, .int x5)] → k6 x2 x3 x4 x5 σ = some (r, τ) → W p l e rm_X4_nearestBeyond s m args below meth c H locs 0 0 (MQ below (pw_Qi G r τ) args s 0 0 (pw_gA G)) (F0 m 6 ls [])) {x2 : Int32} {x3 : Int32} {x4 : Int32} {x5 : Int32} {σ : pw_St} {H : Heap} {locs : List Loc} {ls : Array Slot} (hw : pw_WH G σ s.heap H locs) (hl : lv_has ls 8 [(0, .ref (pw_ad G 7)), (1, .ref (pw_ad G 3)), (2, .int x2), (3, .int x3), (4, .int x4), (5, .int x5)]) (hf : b_X4_nearestBeyond_6 k6 x2 x3 x4 x5 σ = some (r, τ)) : W p l e rm_X4_nearestBeyond s m args below meth c H locs 0 0 (MQ below (pw_Qi G r τ) args s 0 0 (pw_gA G)) (F0 m 6 ls []) := by
  have hx := hC.1
  have hb := hC.2.1
  unfold b_X4_nearestBeyond_6 at hf
  refine lv_iload hx hb dX4_nearestBeyond_6 (lv_at hl 5 rfl) ?_
  refine lv_iconst (v := 4) hx hb dX4_nearestBeyond_8 (by decide) ?_
  refine lv_icmp_ge (tgt := 87) hx hb dX4_nearestBeyond_9 (by decide) (fun hc => ?_) (fun hc => ?_)
  · replace hf := pw_ifp hc hf
    refine lv_iload hx hb dX4_nearestBeyond_87 (lv_at hl 4 rfl) ?_
    exact pw_iret hC hw hf dX4_nearestBeyond_89
  · replace hf := pw_ifn hc hf
    refine lv_iload_n hx hb dX4_nearestBeyond_12 rfl (lv_at hl 3 rfl) ?_
    refine lv_if_eq (tgt := 26) hx hb dX4_nearestBeyond_13 (by decide) (fun hc => ?_) (fun hc => ?_)
    · replace hf := pw_ifp hc hf
      refine lv_aload_n hx hb dX4_nearestBeyond_26 rfl (lv_at hl 1 rfl) ?_
      refine lv_iload_n hx hb dX4_nearestBeyond_27 rfl (lv_at hl 2 rfl) ?_
      refine lv_iload hx hb dX4_nearestBeyond_28 (lv_at hl 5 rfl) ?_
      obtain ⟨r1, σ1, h1, hf⟩ := pw_bi_some hf
      refine pw_ci hw (pw_runV (As := [.int x2, .int x5]) (rest := []) hC hw (c_X6_down  h1) mw_691 wm_X6_down ⟨Nat.zero_le _, Nat.zero_le _⟩ ⟨rfl, rfl, Nat.le_of_ble_eq_true rfl, Nat.le_of_ble_eq_true rfl⟩ (by decide) rfl rfl rfl hl.1 rfl (Nat.le_of_ble_eq_true rfl) dX4_nearestBeyond_30) (fun H locs hw => ?_)
      exact t_X4_nearestBeyond_33 hC hk6  hw (lv_sub hl [0, 1, 2, 3, 4, 5] rfl) hf
    · replace hf := pw_ifn hc hf
      refine lv_aload_n hx hb dX4_nearestBeyond_16 rfl (lv_at hl 1 rfl) ?_
      refine lv_iload_n hx hb dX4_nearestBeyond_17 rfl (lv_at hl 2 rfl) ?_
      refine lv_iload hx hb dX4_nearestBeyond_18 (lv_at hl 5 rfl) ?_
      obtain ⟨r2, σ2, h2, hf⟩ := pw_bi_some hf
      refine pw_ci hw (pw_runV (As := [.int x2, .int x5]) (rest := []) hC hw (c_X6_up  h2) mw_682 wm_X6_up ⟨Nat.zero_le _, Nat.zero_le _⟩ ⟨rfl, rfl, Nat.le_of_ble_eq_true rfl, Nat.le_of_ble_eq_true rfl⟩ (by decide) rfl rfl rfl hl.1 rfl (Nat.le_of_ble_eq_true rfl) dX4_nearestBeyond_20) (fun H locs hw => ?_)
      refine lv_goto (tgt := 33) hx hb dX4_nearestBeyond_23 (by decide) ?_
      exact t_X4_nearestBeyond_33 hC hk6  hw (lv_sub hl [0, 1, 2, 3, 4, 5] rfl) hf
set_option maxHeartbeats 4000000 in
theorem tl_X4_nearestBeyond_6 (hC : pw_CX G RX4 cX4_nearestBeyond 8 (some .int) p s m args meth c) {r : Int32} {τ : pw_St} : ∀ (n : Nat) (x2 : Int32) (x3 : Int32) (x4 : Int32) (x5 : Int32) (σ : pw_St) (H : Heap) (locs : List Loc) (ls : Array Slot), pw_WH G σ s.heap H locs → lv_has ls 8 [(0, .ref (pw_ad G 7)), (1, .ref (pw_ad G 3)), (2, .int x2), (3, .int x3), (4, .int x4), (5, .int x5)] → l_X4_nearestBeyond_6  n x2 x3 x4 x5 σ = some (r, τ) → W p l e rm_X4_nearestBeyond s m args below meth c H locs 0 0 (MQ below (pw_Qi G r τ) args s 0 0 (pw_gA G)) (F0 m 6 ls []) := by
  intro n
  induction n with
  | zero => intro x2 x3 x4 x5 σ H locs ls hw hl hf; cases hf
  | succ n ih => intro x2 x3 x4 x5 σ H locs ls hw hl hf; exact t_X4_nearestBeyond_6 hC ih  hw hl hf
set_option maxHeartbeats 4000000 in
set_option maxRecDepth 100000 in
theorem c_X4_nearestBeyond {l : Launch} {G : pw_Gh} {x2 : Int32} {x3 : Int32} {σ : pw_St} {r : Int32} {τ : pw_St} (hf : f_X4_nearestBeyond x2 x3 σ = some (r, τ)) : Met l yX4_nearestBeyond (.code yX4_nearestBeyond cX4_nearestBeyond 8 (some .int) :: pw_BW) rm_X4_nearestBeyond (pw_Pc G [.ref (pw_ad G 7), .ref (pw_ad G 3), .int x2, .int x3] σ) (pw_Qi G r τ) 0 0 (pw_gA G) := by
  refine pw_met (by decide +kernel) (Nat.le_of_ble_eq_true rfl) ?_
  intro p e s m args below meth c ls hC hw hl
  replace hl : lv_has ls 8 [(0, .ref (pw_ad G 7)), (1, .ref (pw_ad G 3)), (2, .int x2), (3, .int x3)] := hl
  have hx := hC.1
  have hb := hC.2.1
  unfold f_X4_nearestBeyond at hf
  refine lv_iconst (v := -1) hx hb dX4_nearestBeyond_0 (by decide) ?_
  refine lv_istore (lv' := [(4, .int (-1 : Int32)), (0, .ref (pw_ad G 7)), (1, .ref (pw_ad G 3)), (2, .int x2), (3, .int x3)]) hx hb dX4_nearestBeyond_1 hl (by decide) rfl (fun ls hl => ?_)
  refine lv_iconst (v := 0) hx hb dX4_nearestBeyond_3 (by decide) ?_
  refine lv_istore (lv' := [(5, .int (0 : Int32)), (4, .int (-1 : Int32)), (0, .ref (pw_ad G 7)), (1, .ref (pw_ad G 3)), (2, .int x2), (3, .int x3)]) hx hb dX4_nearestBeyond_4 hl (by decide) rfl (fun ls hl => ?_)
  exact tl_X4_nearestBeyond_6 hC  pw_FU _ _ _ _ _ _ _ _ hw (lv_sub hl [2, 3, 4, 5, 1, 0] rfl) hf
-- PerhapsWas$Marks areMet
def b_X4_areMet_43 (k7 : Int32 → pw_St → Option (Int32 × pw_St)) (x2 : Int32) (x3 : Int32) (y0 : Int32) (y1 : Int32) (σ : pw_St) : Option (Int32 × pw_St) := (if pw_in y1 2401 = true then (pw_lt (pw_sM σ 31 y1.toNatClampNeg y0) fun σ1 => (if pw_in x3 2401 = true then (if (σ1.1 31 x3.toNatClampNeg) = x3 then (if pw_in x3 2401 = true then (if (σ1.1 30 x3.toNatClampNeg) = 0 then (if pw_isb (0 : Int32) = true then some ((0 : Int32), σ1) else none) else (k7 (x2 + (-1 : Int32)) σ1)) else none) else (k7 (x2 + (-1 : Int32)) σ1)) else none)) else none)
def b_X4_areMet_7 (k7 : Int32 → pw_St → Option (Int32 × pw_St)) (x2 : Int32) (σ : pw_St) : Option (Int32 × pw_St) := (if x2 < 0 then (if pw_isb (1 : Int32) = true then some ((1 : Int32), σ) else none) else (if pw_in x2 2401 = true then (if pw_in (σ.1 22 x2.toNatClampNeg) 2401 = true then (if (σ.1 30 (σ.1 22 x2.toNatClampNeg).toNatClampNeg) = 0 then (pw_bi (f_X4_nearestBeyond (σ.1 22 x2.toNatClampNeg) (1 : Int32) σ) fun r1 σ1 => (b_X4_areMet_43 k7 x2 (σ.1 22 x2.toNatClampNeg) r1 (σ.1 22 x2.toNatClampNeg) σ1)) else (b_X4_areMet_43 k7 x2 (σ.1 22 x2.toNatClampNeg) (σ.1 22 x2.toNatClampNeg) (σ.1 22 x2.toNatClampNeg) σ)) else none) else none))
def l_X4_areMet_7 : Nat → Int32 → pw_St → Option (Int32 × pw_St)
  | 0 => fun _ _ => none
  | n + 1 => fun x2 σ => b_X4_areMet_7  (l_X4_areMet_7  n) x2 σ
def f_X4_areMet (σ : pw_St) : Option (Int32 × pw_St) := (l_X4_areMet_7  pw_FU ((σ.1 3 5) - (1 : Int32)) σ)
def rm_X4_areMet : Room := { frames := 3, cells := 0, slots := 0, locals := 76 }
set_option maxHeartbeats 4000000 in
set_option maxRecDepth 100000 in
theorem t_X4_areMet_43 (hC : pw_CX G RX4 cX4_areMet 4 (some .boolean) p s m args meth c) {k7 : Int32 → pw_St → Option (Int32 × pw_St)} {r : Int32} {τ : pw_St} (hk7 : ∀ (x2 : Int32), ∀ (σ : pw_St) (H : Heap) (locs : List Loc) (ls : Array Slot), pw_WH G σ s.heap H locs → lv_has ls 4 [(0, .ref (pw_ad G 7)), (1, .ref (pw_ad G 3)), (2, .int x2)] → k7 x2 σ = some (r, τ) → W p l e rm_X4_areMet s m args below meth c H locs 0 0 (MQ below (pw_Qi G r τ) args s 0 0 (pw_gA G)) (F0 m 7 ls [])) {x2 : Int32} {x3 : Int32} {y0 : Int32} {y1 : Int32} {σ : pw_St} {H : Heap} {locs : List Loc} {ls : Array Slot} (hw : pw_WH G σ s.heap H locs) (hl : lv_has ls 4 [(0, .ref (pw_ad G 7)), (1, .ref (pw_ad G 3)), (2, .int x2), (3, .int x3)]) (hf : b_X4_areMet_43 k7 x2 x3 y0 y1 σ = some (r, τ)) : W p l e rm_X4_areMet s m args below meth c H locs 0 0 (MQ below (pw_Qi G r τ) args s 0 0 (pw_gA G)) (F0 m 43 ls [.int y0, .int y1, .ref (pw_ad G 31)]) := by
  have hx := hC.1
  have hb := hC.2.1
  unfold b_X4_areMet_43 at hf
  obtain ⟨hin, hf⟩ := pw_gd hf
  refine pw_ist hC hw ca_31 hin dX4_areMet_43 (fun H locs hw => ?_)
  obtain ⟨σ1, e1, hf⟩ := pw_lts hf
  replace hw := pw_WHe e1 hw
  refine lv_aload_n hx hb dX4_areMet_44 rfl (lv_at hl 0 rfl) ?_
  refine pg_7_2 hC hw mw_268 dX4_areMet_45 ?_
  refine lv_iload_n hx hb dX4_areMet_48 rfl (lv_at hl 3 rfl) ?_
  obtain ⟨hin, hf⟩ := pw_gd hf
  refine pw_ild hC hw ca_31 hin dX4_areMet_49 ?_
  refine lv_iload_n hx hb dX4_areMet_50 rfl (lv_at hl 3 rfl) ?_
  refine lv_icmp_ne (tgt := 65) hx hb dX4_areMet_51 (by decide) (fun hc => ?_) (fun hc => ?_)
  · replace hf := pw_ifn hc hf
    refine lv_iinc (v := (x2 + (-1 : Int32))) (lv' := [(2, .int (x2 + (-1 : Int32))), (0, .ref (pw_ad G 7)), (1, .ref (pw_ad G 3)), (3, .int x3)]) hx hb dX4_areMet_65 hl (k := 2) rfl rfl (by decide) rfl (fun ls hl => ?_)
    refine lv_goto (tgt := 7) hx hb dX4_areMet_68 (by decide) ?_
    exact hk7 _ _ _ _ _ hw (lv_sub hl [1, 2, 0] rfl) hf
  · replace hf := pw_ifp hc hf
    refine lv_aload_n hx hb dX4_areMet_54 rfl (lv_at hl 0 rfl) ?_
    refine pg_7_1 hC hw mw_266 dX4_areMet_55 ?_
    refine lv_iload_n hx hb dX4_areMet_58 rfl (lv_at hl 3 rfl) ?_
    obtain ⟨hin, hf⟩ := pw_gd hf
    refine pw_zld hC hw ca_30 hin dX4_areMet_59 ?_
    refine lv_if_ne (tgt := 65) hx hb dX4_areMet_60 (by decide) (fun hc => ?_) (fun hc => ?_)
    · replace hf := pw_ifn hc hf
      refine lv_iinc (v := (x2 + (-1 : Int32))) (lv' := [(2, .int (x2 + (-1 : Int32))), (0, .ref (pw_ad G 7)), (1, .ref (pw_ad G 3)), (3, .int x3)]) hx hb dX4_areMet_65 hl (k := 2) rfl rfl (by decide) rfl (fun ls hl => ?_)
      refine lv_goto (tgt := 7) hx hb dX4_areMet_68 (by decide) ?_
      exact hk7 _ _ _ _ _ hw (lv_sub hl [1, 2, 0] rfl) hf
    · replace hf := pw_ifp hc hf
      refine lv_iconst (v := 0) hx hb dX4_areMet_63 (by decide) ?_
      exact pw_zret hC hw hf dX4_areMet_64
set_option maxHeartbeats 4000000 in
set_option maxRecDepth 100000 in
theorem t_X4_areMet_7 (hC : pw_CX G RX4 cX4_areMet 4 (some .boolean) p s m args meth c) {k7 : Int32 → pw_St → Option (Int32 × pw_St)} {r : Int32} {τ : pw_St} (hk7 : ∀ (x2 : Int32), ∀ (σ : pw_St) (H : Heap) (locs : List Loc) (ls : Array Slot), pw_WH G σ s.heap H locs → lv_has ls 4 [(0, .ref (pw_ad G 7)), (1, .ref (pw_ad G 3)), (2, .int x2)] → k7 x2 σ = some (r, τ) → W p l e rm_X4_areMet s m args below meth c H locs 0 0 (MQ below (pw_Qi G r τ) args s 0 0 (pw_gA G)) (F0 m 7 ls [])) {x2 : Int32} {σ : pw_St} {H : Heap} {locs : List Loc} {ls : Array Slot} (hw : pw_WH G σ s.heap H locs) (hl : lv_has ls 4 [(0, .ref (pw_ad G 7)), (1, .ref (pw_ad G 3)), (2, .int x2)]) (hf : b_X4_areMet_7 k7 x2 σ = some (r, τ)) : W p l e rm_X4_areMet s m args below meth c H locs 0 0 (MQ below (pw_Qi G r τ) args s 0 0 (pw_gA G)) (F0 m 7 ls []) := by
  have hx := hC.1
  have hb := hC.2.1
  unfold b_X4_areMet_7 at hf
  refine lv_iload_n hx hb dX4_areMet_7 rfl (lv_at hl 2 rfl) ?_
  refine lv_if_lt (tgt := 71) hx hb dX4_areMet_8 (by decide) (fun hc => ?_) (fun hc => ?_)
  · replace hf := pw_ifp hc hf
    refine lv_iconst (v := 1) hx hb dX4_areMet_71 (by decide) ?_
    exact pw_zret hC hw hf dX4_areMet_72
  · replace hf := pw_ifn hc hf
    refine lv_aload_n hx hb dX4_areMet_11 rfl (lv_at hl 1 rfl) ?_
    refine pg_3_1 hC hw mw_154 dX4_areMet_12 ?_
    refine lv_iload_n hx hb dX4_areMet_15 rfl (lv_at hl 2 rfl) ?_
    obtain ⟨hin, hf⟩ := pw_gd hf
    refine pw_ild hC hw ca_22 hin dX4_areMet_16 ?_
    refine lv_istore_n (lv' := [(3, .int (σ.1 22 x2.toNatClampNeg)), (0, .ref (pw_ad G 7)), (1, .ref (pw_ad G 3)), (2, .int x2)]) hx hb dX4_areMet_17 rfl hl (by decide) rfl (fun ls hl => ?_)
    refine lv_aload_n hx hb dX4_areMet_18 rfl (lv_at hl 1 rfl) ?_
    refine pg_7_2 hC hw mw_268 dX4_areMet_19 ?_
    refine lv_iload_n hx hb dX4_areMet_22 rfl (lv_at hl 0 rfl) ?_
    refine lv_aload_n hx hb dX4_areMet_23 rfl (lv_at hl 1 rfl) ?_
    refine pg_7_1 hC hw mw_266 dX4_areMet_24 ?_
    refine lv_iload_n hx hb dX4_areMet_27 rfl (lv_at hl 0 rfl) ?_
    obtain ⟨hin, hf⟩ := pw_gd hf
    refine pw_zld hC hw ca_30 hin dX4_areMet_28 ?_
    refine lv_if_eq (tgt := 36) hx hb dX4_areMet_29 (by decide) (fun hc => ?_) (fun hc => ?_)
    · replace hf := pw_ifp hc hf
      refine lv_aload_n hx hb dX4_areMet_36 rfl (lv_at hl 1 rfl) ?_
      refine lv_aload_n hx hb dX4_areMet_37 rfl (lv_at hl 2 rfl) ?_
      refine lv_iload_n hx hb dX4_areMet_38 rfl (lv_at hl 0 rfl) ?_
      refine lv_iconst (v := 1) hx hb dX4_areMet_39 (by decide) ?_
      obtain ⟨r1, σ1, h1, hf⟩ := pw_bi_some hf
      refine pw_ci hw (pw_runV (As := [.ref (pw_ad G 3), .int (σ.1 22 x2.toNatClampNeg), .int (1 : Int32)]) (rest := [.int (σ.1 22 x2.toNatClampNeg), .ref (pw_ad G 31)]) hC hw (c_X4_nearestBeyond  h1) mw_687 wm_X4_nearestBeyond ⟨Nat.zero_le _, Nat.zero_le _⟩ ⟨rfl, rfl, Nat.le_of_ble_eq_true rfl, Nat.le_of_ble_eq_true rfl⟩ (by decide) rfl rfl rfl hl.1 rfl (Nat.le_of_ble_eq_true rfl) dX4_areMet_40) (fun H locs hw => ?_)
      exact t_X4_areMet_43 hC hk7  hw (lv_sub hl [1, 2, 3, 0] rfl) hf
    · replace hf := pw_ifn hc hf
      refine lv_iload_n hx hb dX4_areMet_32 rfl (lv_at hl 0 rfl) ?_
      refine lv_goto (tgt := 43) hx hb dX4_areMet_33 (by decide) ?_
      exact t_X4_areMet_43 hC hk7  hw (lv_sub hl [1, 2, 3, 0] rfl) hf
set_option maxHeartbeats 4000000 in
theorem tl_X4_areMet_7 (hC : pw_CX G RX4 cX4_areMet 4 (some .boolean) p s m args meth c) {r : Int32} {τ : pw_St} : ∀ (n : Nat) (x2 : Int32) (σ : pw_St) (H : Heap) (locs : List Loc) (ls : Array Slot), pw_WH G σ s.heap H locs → lv_has ls 4 [(0, .ref (pw_ad G 7)), (1, .ref (pw_ad G 3)), (2, .int x2)] → l_X4_areMet_7  n x2 σ = some (r, τ) → W p l e rm_X4_areMet s m args below meth c H locs 0 0 (MQ below (pw_Qi G r τ) args s 0 0 (pw_gA G)) (F0 m 7 ls []) := by
  intro n
  induction n with
  | zero => intro x2 σ H locs ls hw hl hf; cases hf
  | succ n ih => intro x2 σ H locs ls hw hl hf; exact t_X4_areMet_7 hC ih  hw hl hf
set_option maxHeartbeats 4000000 in
set_option maxRecDepth 100000 in
theorem c_X4_areMet {l : Launch} {G : pw_Gh} {σ : pw_St} {r : Int32} {τ : pw_St} (hf : f_X4_areMet σ = some (r, τ)) : Met l yX4_areMet (.code yX4_areMet cX4_areMet 4 (some .boolean) :: pw_BW) rm_X4_areMet (pw_Pc G [.ref (pw_ad G 7), .ref (pw_ad G 3)] σ) (pw_Qi G r τ) 0 0 (pw_gA G) := by
  refine pw_met (by decide +kernel) (Nat.le_of_ble_eq_true rfl) ?_
  intro p e s m args below meth c ls hC hw hl
  replace hl : lv_has ls 4 [(0, .ref (pw_ad G 7)), (1, .ref (pw_ad G 3))] := hl
  have hx := hC.1
  have hb := hC.2.1
  unfold f_X4_areMet at hf
  refine lv_aload_n hx hb dX4_areMet_0 rfl (lv_at hl 1 rfl) ?_
  refine pg_3_5 hC hw mw_161 dX4_areMet_1 ?_
  refine lv_iconst (v := 1) hx hb dX4_areMet_4 (by decide) ?_
  refine lv_isub hx hb dX4_areMet_5 ?_
  refine lv_istore_n (lv' := [(2, .int ((σ.1 3 5) - (1 : Int32))), (0, .ref (pw_ad G 7)), (1, .ref (pw_ad G 3))]) hx hb dX4_areMet_6 rfl hl (by decide) rfl (fun ls hl => ?_)
  exact tl_X4_areMet_7 hC  pw_FU _ _ _ _ _ hw (lv_sub hl [1, 2, 0] rfl) hf
-- PerhapsWas$Marks areJoined
def b_X4_areJoined_42 (k2 : Int32 → pw_St → Option (Int32 × pw_St)) (x2 : Int32) (x3 : Int32) (y0 : Int32) (y1 : Int32) (σ : pw_St) : Option (Int32 × pw_St) := (if pw_in y1 2401 = true then (pw_lt (pw_sM σ 31 y1.toNatClampNeg y0) fun σ1 => (if pw_in x3 2401 = true then (if (σ1.1 31 x3.toNatClampNeg) = x3 then (if pw_in x3 2401 = true then (if (σ1.1 30 x3.toNatClampNeg) = 0 then (if pw_isb (0 : Int32) = true then some ((0 : Int32), σ1) else none) else (k2 (x2 + (1 : Int32)) σ1)) else none) else (k2 (x2 + (1 : Int32)) σ1)) else none)) else none)
def b_X4_areJoined_2 (k2 : Int32 → pw_St → Option (Int32 × pw_St)) (x2 : Int32) (σ : pw_St) : Option (Int32 × pw_St) := (if (σ.1 3 5) ≤ x2 then (if pw_isb (1 : Int32) = true then some ((1 : Int32), σ) else none) else (if pw_in x2 2401 = true then (if pw_in (σ.1 22 x2.toNatClampNeg) 2401 = true then (if (σ.1 30 (σ.1 22 x2.toNatClampNeg).toNatClampNeg) = 0 then (pw_bi (f_X4_nearestBeyond (σ.1 22 x2.toNatClampNeg) (0 : Int32) σ) fun r1 σ1 => (b_X4_areJoined_42 k2 x2 (σ.1 22 x2.toNatClampNeg) r1 (σ.1 22 x2.toNatClampNeg) σ1)) else (b_X4_areJoined_42 k2 x2 (σ.1 22 x2.toNatClampNeg) (σ.1 22 x2.toNatClampNeg) (σ.1 22 x2.toNatClampNeg) σ)) else none) else none))
def l_X4_areJoined_2 : Nat → Int32 → pw_St → Option (Int32 × pw_St)
  | 0 => fun _ _ => none
  | n + 1 => fun x2 σ => b_X4_areJoined_2  (l_X4_areJoined_2  n) x2 σ
def f_X4_areJoined (σ : pw_St) : Option (Int32 × pw_St) := (l_X4_areJoined_2  pw_FU (0 : Int32) σ)
def rm_X4_areJoined : Room := { frames := 3, cells := 0, slots := 0, locals := 76 }
set_option maxHeartbeats 4000000 in
set_option maxRecDepth 100000 in
theorem t_X4_areJoined_42 (hC : pw_CX G RX4 cX4_areJoined 4 (some .boolean) p s m args meth c) {k2 : Int32 → pw_St → Option (Int32 × pw_St)} {r : Int32} {τ : pw_St} (hk2 : ∀ (x2 : Int32), ∀ (σ : pw_St) (H : Heap) (locs : List Loc) (ls : Array Slot), pw_WH G σ s.heap H locs → lv_has ls 4 [(0, .ref (pw_ad G 7)), (1, .ref (pw_ad G 3)), (2, .int x2)] → k2 x2 σ = some (r, τ) → W p l e rm_X4_areJoined s m args below meth c H locs 0 0 (MQ below (pw_Qi G r τ) args s 0 0 (pw_gA G)) (F0 m 2 ls [])) {x2 : Int32} {x3 : Int32} {y0 : Int32} {y1 : Int32} {σ : pw_St} {H : Heap} {locs : List Loc} {ls : Array Slot} (hw : pw_WH G σ s.heap H locs) (hl : lv_has ls 4 [(0, .ref (pw_ad G 7)), (1, .ref (pw_ad G 3)), (2, .int x2), (3, .int x3)]) (hf : b_X4_areJoined_42 k2 x2 x3 y0 y1 σ = some (r, τ)) : W p l e rm_X4_areJoined s m args below meth c H locs 0 0 (MQ below (pw_Qi G r τ) args s 0 0 (pw_gA G)) (F0 m 42 ls [.int y0, .int y1, .ref (pw_ad G 31)]) := by
  have hx := hC.1
  have hb := hC.2.1
  unfold b_X4_areJoined_42 at hf
  obtain ⟨hin, hf⟩ := pw_gd hf
  refine pw_ist hC hw ca_31 hin dX4_areJoined_42 (fun H locs hw => ?_)
  obtain ⟨σ1, e1, hf⟩ := pw_lts hf
  replace hw := pw_WHe e1 hw
  refine lv_aload_n hx hb dX4_areJoined_43 rfl (lv_at hl 0 rfl) ?_
  refine pg_7_2 hC hw mw_268 dX4_areJoined_44 ?_
  refine lv_iload_n hx hb dX4_areJoined_47 rfl (lv_at hl 3 rfl) ?_
  obtain ⟨hin, hf⟩ := pw_gd hf
  refine pw_ild hC hw ca_31 hin dX4_areJoined_48 ?_
  refine lv_iload_n hx hb dX4_areJoined_49 rfl (lv_at hl 3 rfl) ?_
  refine lv_icmp_ne (tgt := 64) hx hb dX4_areJoined_50 (by decide) (fun hc => ?_) (fun hc => ?_)
  · replace hf := pw_ifn hc hf
    refine lv_iinc (v := (x2 + (1 : Int32))) (lv' := [(2, .int (x2 + (1 : Int32))), (0, .ref (pw_ad G 7)), (1, .ref (pw_ad G 3)), (3, .int x3)]) hx hb dX4_areJoined_64 hl (k := 2) rfl rfl (by decide) rfl (fun ls hl => ?_)
    refine lv_goto (tgt := 2) hx hb dX4_areJoined_67 (by decide) ?_
    exact hk2 _ _ _ _ _ hw (lv_sub hl [1, 2, 0] rfl) hf
  · replace hf := pw_ifp hc hf
    refine lv_aload_n hx hb dX4_areJoined_53 rfl (lv_at hl 0 rfl) ?_
    refine pg_7_1 hC hw mw_266 dX4_areJoined_54 ?_
    refine lv_iload_n hx hb dX4_areJoined_57 rfl (lv_at hl 3 rfl) ?_
    obtain ⟨hin, hf⟩ := pw_gd hf
    refine pw_zld hC hw ca_30 hin dX4_areJoined_58 ?_
    refine lv_if_ne (tgt := 64) hx hb dX4_areJoined_59 (by decide) (fun hc => ?_) (fun hc => ?_)
    · replace hf := pw_ifn hc hf
      refine lv_iinc (v := (x2 + (1 : Int32))) (lv' := [(2, .int (x2 + (1 : Int32))), (0, .ref (pw_ad G 7)), (1, .ref (pw_ad G 3)), (3, .int x3)]) hx hb dX4_areJoined_64 hl (k := 2) rfl rfl (by decide) rfl (fun ls hl => ?_)
      refine lv_goto (tgt := 2) hx hb dX4_areJoined_67 (by decide) ?_
      exact hk2 _ _ _ _ _ hw (lv_sub hl [1, 2, 0] rfl) hf
    · replace hf := pw_ifp hc hf
      refine lv_iconst (v := 0) hx hb dX4_areJoined_62 (by decide) ?_
      exact pw_zret hC hw hf dX4_areJoined_63
set_option maxHeartbeats 4000000 in
set_option maxRecDepth 100000 in
theorem t_X4_areJoined_2 (hC : pw_CX G RX4 cX4_areJoined 4 (some .boolean) p s m args meth c) {k2 : Int32 → pw_St → Option (Int32 × pw_St)} {r : Int32} {τ : pw_St} (hk2 : ∀ (x2 : Int32), ∀ (σ : pw_St) (H : Heap) (locs : List Loc) (ls : Array Slot), pw_WH G σ s.heap H locs → lv_has ls 4 [(0, .ref (pw_ad G 7)), (1, .ref (pw_ad G 3)), (2, .int x2)] → k2 x2 σ = some (r, τ) → W p l e rm_X4_areJoined s m args below meth c H locs 0 0 (MQ below (pw_Qi G r τ) args s 0 0 (pw_gA G)) (F0 m 2 ls [])) {x2 : Int32} {σ : pw_St} {H : Heap} {locs : List Loc} {ls : Array Slot} (hw : pw_WH G σ s.heap H locs) (hl : lv_has ls 4 [(0, .ref (pw_ad G 7)), (1, .ref (pw_ad G 3)), (2, .int x2)]) (hf : b_X4_areJoined_2 k2 x2 σ = some (r, τ)) : W p l e rm_X4_areJoined s m args below meth c H locs 0 0 (MQ below (pw_Qi G r τ) args s 0 0 (pw_gA G)) (F0 m 2 ls []) := by
  have hx := hC.1
  have hb := hC.2.1
  unfold b_X4_areJoined_2 at hf
  refine lv_iload_n hx hb dX4_areJoined_2 rfl (lv_at hl 2 rfl) ?_
  refine lv_aload_n hx hb dX4_areJoined_3 rfl (lv_at hl 1 rfl) ?_
  refine pg_3_5 hC hw mw_161 dX4_areJoined_4 ?_
  refine lv_icmp_ge (tgt := 70) hx hb dX4_areJoined_7 (by decide) (fun hc => ?_) (fun hc => ?_)
  · replace hf := pw_ifp hc hf
    refine lv_iconst (v := 1) hx hb dX4_areJoined_70 (by decide) ?_
    exact pw_zret hC hw hf dX4_areJoined_71
  · replace hf := pw_ifn hc hf
    refine lv_aload_n hx hb dX4_areJoined_10 rfl (lv_at hl 1 rfl) ?_
    refine pg_3_1 hC hw mw_154 dX4_areJoined_11 ?_
    refine lv_iload_n hx hb dX4_areJoined_14 rfl (lv_at hl 2 rfl) ?_
    obtain ⟨hin, hf⟩ := pw_gd hf
    refine pw_ild hC hw ca_22 hin dX4_areJoined_15 ?_
    refine lv_istore_n (lv' := [(3, .int (σ.1 22 x2.toNatClampNeg)), (0, .ref (pw_ad G 7)), (1, .ref (pw_ad G 3)), (2, .int x2)]) hx hb dX4_areJoined_16 rfl hl (by decide) rfl (fun ls hl => ?_)
    refine lv_aload_n hx hb dX4_areJoined_17 rfl (lv_at hl 1 rfl) ?_
    refine pg_7_2 hC hw mw_268 dX4_areJoined_18 ?_
    refine lv_iload_n hx hb dX4_areJoined_21 rfl (lv_at hl 0 rfl) ?_
    refine lv_aload_n hx hb dX4_areJoined_22 rfl (lv_at hl 1 rfl) ?_
    refine pg_7_1 hC hw mw_266 dX4_areJoined_23 ?_
    refine lv_iload_n hx hb dX4_areJoined_26 rfl (lv_at hl 0 rfl) ?_
    obtain ⟨hin, hf⟩ := pw_gd hf
    refine pw_zld hC hw ca_30 hin dX4_areJoined_27 ?_
    refine lv_if_eq (tgt := 35) hx hb dX4_areJoined_28 (by decide) (fun hc => ?_) (fun hc => ?_)
    · replace hf := pw_ifp hc hf
      refine lv_aload_n hx hb dX4_areJoined_35 rfl (lv_at hl 1 rfl) ?_
      refine lv_aload_n hx hb dX4_areJoined_36 rfl (lv_at hl 2 rfl) ?_
      refine lv_iload_n hx hb dX4_areJoined_37 rfl (lv_at hl 0 rfl) ?_
      refine lv_iconst (v := 0) hx hb dX4_areJoined_38 (by decide) ?_
      obtain ⟨r1, σ1, h1, hf⟩ := pw_bi_some hf
      refine pw_ci hw (pw_runV (As := [.ref (pw_ad G 3), .int (σ.1 22 x2.toNatClampNeg), .int (0 : Int32)]) (rest := [.int (σ.1 22 x2.toNatClampNeg), .ref (pw_ad G 31)]) hC hw (c_X4_nearestBeyond  h1) mw_687 wm_X4_nearestBeyond ⟨Nat.zero_le _, Nat.zero_le _⟩ ⟨rfl, rfl, Nat.le_of_ble_eq_true rfl, Nat.le_of_ble_eq_true rfl⟩ (by decide) rfl rfl rfl hl.1 rfl (Nat.le_of_ble_eq_true rfl) dX4_areJoined_39) (fun H locs hw => ?_)
      exact t_X4_areJoined_42 hC hk2  hw (lv_sub hl [1, 2, 3, 0] rfl) hf
    · replace hf := pw_ifn hc hf
      refine lv_iload_n hx hb dX4_areJoined_31 rfl (lv_at hl 0 rfl) ?_
      refine lv_goto (tgt := 42) hx hb dX4_areJoined_32 (by decide) ?_
      exact t_X4_areJoined_42 hC hk2  hw (lv_sub hl [1, 2, 3, 0] rfl) hf
set_option maxHeartbeats 4000000 in
theorem tl_X4_areJoined_2 (hC : pw_CX G RX4 cX4_areJoined 4 (some .boolean) p s m args meth c) {r : Int32} {τ : pw_St} : ∀ (n : Nat) (x2 : Int32) (σ : pw_St) (H : Heap) (locs : List Loc) (ls : Array Slot), pw_WH G σ s.heap H locs → lv_has ls 4 [(0, .ref (pw_ad G 7)), (1, .ref (pw_ad G 3)), (2, .int x2)] → l_X4_areJoined_2  n x2 σ = some (r, τ) → W p l e rm_X4_areJoined s m args below meth c H locs 0 0 (MQ below (pw_Qi G r τ) args s 0 0 (pw_gA G)) (F0 m 2 ls []) := by
  intro n
  induction n with
  | zero => intro x2 σ H locs ls hw hl hf; cases hf
  | succ n ih => intro x2 σ H locs ls hw hl hf; exact t_X4_areJoined_2 hC ih  hw hl hf
set_option maxHeartbeats 4000000 in
set_option maxRecDepth 100000 in
theorem c_X4_areJoined {l : Launch} {G : pw_Gh} {σ : pw_St} {r : Int32} {τ : pw_St} (hf : f_X4_areJoined σ = some (r, τ)) : Met l yX4_areJoined (.code yX4_areJoined cX4_areJoined 4 (some .boolean) :: pw_BW) rm_X4_areJoined (pw_Pc G [.ref (pw_ad G 7), .ref (pw_ad G 3)] σ) (pw_Qi G r τ) 0 0 (pw_gA G) := by
  refine pw_met (by decide +kernel) (Nat.le_of_ble_eq_true rfl) ?_
  intro p e s m args below meth c ls hC hw hl
  replace hl : lv_has ls 4 [(0, .ref (pw_ad G 7)), (1, .ref (pw_ad G 3))] := hl
  have hx := hC.1
  have hb := hC.2.1
  unfold f_X4_areJoined at hf
  refine lv_iconst (v := 0) hx hb dX4_areJoined_0 (by decide) ?_
  refine lv_istore_n (lv' := [(2, .int (0 : Int32)), (0, .ref (pw_ad G 7)), (1, .ref (pw_ad G 3))]) hx hb dX4_areJoined_1 rfl hl (by decide) rfl (fun ls hl => ?_)
  exact tl_X4_areJoined_2 hC  pw_FU _ _ _ _ _ hw (lv_sub hl [1, 2, 0] rfl) hf
-- PerhapsWas$Net sizeOf
def b_X6_sizeOf_6 (k6 : Int32 → Int32 → Int32 → pw_St → Option (Int32 × pw_St)) (x1 : Int32) (x2 : Int32) (x3 : Int32) (σ : pw_St) : Option (Int32 × pw_St) := (if (4 : Int32) ≤ x3 then (some (x1, σ)) else (k6 (x1 + (x2 - x2 / (7 : Int32) * (7 : Int32))) (x2 / (7 : Int32)) (x3 + (1 : Int32)) σ))
def l_X6_sizeOf_6 : Nat → Int32 → Int32 → Int32 → pw_St → Option (Int32 × pw_St)
  | 0 => fun _ _ _ _ => none
  | n + 1 => fun x1 x2 x3 σ => b_X6_sizeOf_6  (l_X6_sizeOf_6  n) x1 x2 x3 σ
def f_X6_sizeOf (x0 : Int32) (σ : pw_St) : Option (Int32 × pw_St) := (l_X6_sizeOf_6  pw_FU (0 : Int32) x0 (0 : Int32) σ)
def rm_X6_sizeOf : Room := { frames := 0, cells := 0, slots := 0, locals := 0 }
set_option maxHeartbeats 4000000 in
set_option maxRecDepth 100000 in
theorem t_X6_sizeOf_6 (hC : pw_CX G RX6 cX6_sizeOf 4 (some .int) p s m args meth c) {k6 : Int32 → Int32 → Int32 → pw_St → Option (Int32 × pw_St)} {r : Int32} {τ : pw_St} (hk6 : ∀ (x1 : Int32), ∀ (x2 : Int32), ∀ (x3 : Int32), ∀ (σ : pw_St) (H : Heap) (locs : List Loc) (ls : Array Slot), pw_WH G σ s.heap H locs → lv_has ls 4 [(1, .int x1), (2, .int x2), (3, .int x3)] → k6 x1 x2 x3 σ = some (r, τ) → W p l e rm_X6_sizeOf s m args below meth c H locs 0 0 (MQ below (pw_Qi G r τ) args s 0 0 (pw_gA G)) (F0 m 6 ls [])) {x1 : Int32} {x2 : Int32} {x3 : Int32} {σ : pw_St} {H : Heap} {locs : List Loc} {ls : Array Slot} (hw : pw_WH G σ s.heap H locs) (hl : lv_has ls 4 [(1, .int x1), (2, .int x2), (3, .int x3)]) (hf : b_X6_sizeOf_6 k6 x1 x2 x3 σ = some (r, τ)) : W p l e rm_X6_sizeOf s m args below meth c H locs 0 0 (MQ below (pw_Qi G r τ) args s 0 0 (pw_gA G)) (F0 m 6 ls []) := by
  have hx := hC.1
  have hb := hC.2.1
  unfold b_X6_sizeOf_6 at hf
  refine lv_iload_n hx hb dX6_sizeOf_6 rfl (lv_at hl 2 rfl) ?_
  refine lv_iconst (v := 4) hx hb dX6_sizeOf_7 (by decide) ?_
  refine lv_icmp_ge (tgt := 29) hx hb dX6_sizeOf_8 (by decide) (fun hc => ?_) (fun hc => ?_)
  · replace hf := pw_ifp hc hf
    refine lv_iload_n hx hb dX6_sizeOf_29 rfl (lv_at hl 0 rfl) ?_
    exact pw_iret hC hw hf dX6_sizeOf_30
  · replace hf := pw_ifn hc hf
    refine lv_iload_n hx hb dX6_sizeOf_11 rfl (lv_at hl 0 rfl) ?_
    refine lv_iload_n hx hb dX6_sizeOf_12 rfl (lv_at hl 1 rfl) ?_
    refine lv_bipush (v := 7) hx hb dX6_sizeOf_13 (by decide) ?_
    refine lv_irem hx hb dX6_sizeOf_15 (by decide) ?_
    refine lv_iadd hx hb dX6_sizeOf_16 ?_
    refine lv_istore_n (lv' := [(1, .int (x1 + (x2 - x2 / (7 : Int32) * (7 : Int32)))), (2, .int x2), (3, .int x3)]) hx hb dX6_sizeOf_17 rfl hl (by decide) rfl (fun ls hl => ?_)
    refine lv_iload_n hx hb dX6_sizeOf_18 rfl (lv_at hl 1 rfl) ?_
    refine lv_bipush (v := 7) hx hb dX6_sizeOf_19 (by decide) ?_
    refine lv_idiv hx hb dX6_sizeOf_21 (by decide) ?_
    refine lv_istore_n (lv' := [(2, .int (x2 / (7 : Int32))), (1, .int (x1 + (x2 - x2 / (7 : Int32) * (7 : Int32)))), (3, .int x3)]) hx hb dX6_sizeOf_22 rfl hl (by decide) rfl (fun ls hl => ?_)
    refine lv_iinc (v := (x3 + (1 : Int32))) (lv' := [(3, .int (x3 + (1 : Int32))), (2, .int (x2 / (7 : Int32))), (1, .int (x1 + (x2 - x2 / (7 : Int32) * (7 : Int32))))]) hx hb dX6_sizeOf_23 hl (k := 2) rfl rfl (by decide) rfl (fun ls hl => ?_)
    refine lv_goto (tgt := 6) hx hb dX6_sizeOf_26 (by decide) ?_
    exact hk6 _ _ _ _ _ _ _ hw (lv_sub hl [2, 1, 0] rfl) hf
set_option maxHeartbeats 4000000 in
theorem tl_X6_sizeOf_6 (hC : pw_CX G RX6 cX6_sizeOf 4 (some .int) p s m args meth c) {r : Int32} {τ : pw_St} : ∀ (n : Nat) (x1 : Int32) (x2 : Int32) (x3 : Int32) (σ : pw_St) (H : Heap) (locs : List Loc) (ls : Array Slot), pw_WH G σ s.heap H locs → lv_has ls 4 [(1, .int x1), (2, .int x2), (3, .int x3)] → l_X6_sizeOf_6  n x1 x2 x3 σ = some (r, τ) → W p l e rm_X6_sizeOf s m args below meth c H locs 0 0 (MQ below (pw_Qi G r τ) args s 0 0 (pw_gA G)) (F0 m 6 ls []) := by
  intro n
  induction n with
  | zero => intro x1 x2 x3 σ H locs ls hw hl hf; cases hf
  | succ n ih => intro x1 x2 x3 σ H locs ls hw hl hf; exact t_X6_sizeOf_6 hC ih  hw hl hf
set_option maxHeartbeats 4000000 in
set_option maxRecDepth 100000 in
theorem c_X6_sizeOf {l : Launch} {G : pw_Gh} {x0 : Int32} {σ : pw_St} {r : Int32} {τ : pw_St} (hf : f_X6_sizeOf x0 σ = some (r, τ)) : Met l yX6_sizeOf (.code yX6_sizeOf cX6_sizeOf 4 (some .int) :: pw_BW) rm_X6_sizeOf (pw_Pc G [.int x0] σ) (pw_Qi G r τ) 0 0 (pw_gA G) := by
  refine pw_met (by decide +kernel) (Nat.le_of_ble_eq_true rfl) ?_
  intro p e s m args below meth c ls hC hw hl
  replace hl : lv_has ls 4 [(0, .int x0)] := hl
  have hx := hC.1
  have hb := hC.2.1
  unfold f_X6_sizeOf at hf
  refine lv_iconst (v := 0) hx hb dX6_sizeOf_0 (by decide) ?_
  refine lv_istore_n (lv' := [(1, .int (0 : Int32)), (0, .int x0)]) hx hb dX6_sizeOf_1 rfl hl (by decide) rfl (fun ls hl => ?_)
  refine lv_iload_n hx hb dX6_sizeOf_2 rfl (lv_at hl 1 rfl) ?_
  refine lv_istore_n (lv' := [(2, .int x0), (1, .int (0 : Int32)), (0, .int x0)]) hx hb dX6_sizeOf_3 rfl hl (by decide) rfl (fun ls hl => ?_)
  refine lv_iconst (v := 0) hx hb dX6_sizeOf_4 (by decide) ?_
  refine lv_istore_n (lv' := [(3, .int (0 : Int32)), (2, .int x0), (1, .int (0 : Int32)), (0, .int x0)]) hx hb dX6_sizeOf_5 rfl hl (by decide) rfl (fun ls hl => ?_)
  exact tl_X6_sizeOf_6 hC  pw_FU _ _ _ _ _ _ _ hw (lv_sub hl [2, 1, 0] rfl) hf
-- PerhapsWas$Net isClosed
def b_X6_isClosed_40 (k32 : Int32 → pw_St → Option (Int32 × pw_St)) (k40 : Int32 → Int32 → pw_St → Option (Int32 × pw_St)) (x3 : Int32) (x4 : Int32) (σ : pw_St) : Option (Int32 × pw_St) := (if (4 : Int32) ≤ x4 then (k32 (x3 + (1 : Int32)) σ) else (if pw_in x3 4 = true then (if (σ.1 25 x3.toNatClampNeg) ≤ 0 then (k40 x3 (x4 + (1 : Int32)) σ) else (if pw_in x3 4 = true then (pw_bi (f_X2_clockOf x3 ((σ.1 25 x3.toNatClampNeg) - (1 : Int32)) x4 σ) fun r1 σ1 => (if pw_in x4 4 = true then (if r1 ≤ (σ1.1 25 x4.toNatClampNeg) then (k40 x3 (x4 + (1 : Int32)) σ1) else (if pw_isb (0 : Int32) = true then some ((0 : Int32), σ1) else none)) else none)) else none)) else none))
def l_X6_isClosed_40 (k32 : Int32 → pw_St → Option (Int32 × pw_St)) : Nat → Int32 → Int32 → pw_St → Option (Int32 × pw_St)
  | 0 => fun _ _ _ => none
  | n + 1 => fun x3 x4 σ => b_X6_isClosed_40 k32 (l_X6_isClosed_40 k32 n) x3 x4 σ
def b_X6_isClosed_32 (k32 : Int32 → pw_St → Option (Int32 × pw_St)) (x3 : Int32) (σ : pw_St) : Option (Int32 × pw_St) := (if (4 : Int32) ≤ x3 then (if pw_isb (1 : Int32) = true then some ((1 : Int32), σ) else none) else (l_X6_isClosed_40 k32 pw_FU x3 (0 : Int32) σ))
def l_X6_isClosed_32 : Nat → Int32 → pw_St → Option (Int32 × pw_St)
  | 0 => fun _ _ => none
  | n + 1 => fun x3 σ => b_X6_isClosed_32  (l_X6_isClosed_32  n) x3 σ
def b_X6_isClosed_4 (k4 : Int32 → Int32 → pw_St → Option (Int32 × pw_St)) (x2 : Int32) (x3 : Int32) (σ : pw_St) : Option (Int32 × pw_St) := (if (4 : Int32) ≤ x3 then (l_X6_isClosed_32  pw_FU (0 : Int32) σ) else (if pw_in x3 4 = true then (pw_lt (pw_sM σ 25 x3.toNatClampNeg (x2 - x2 / (7 : Int32) * (7 : Int32))) fun σ1 => (k4 (x2 / (7 : Int32)) (x3 + (1 : Int32)) σ1)) else none))
def l_X6_isClosed_4 : Nat → Int32 → Int32 → pw_St → Option (Int32 × pw_St)
  | 0 => fun _ _ _ => none
  | n + 1 => fun x2 x3 σ => b_X6_isClosed_4  (l_X6_isClosed_4  n) x2 x3 σ
def f_X6_isClosed (x1 : Int32) (σ : pw_St) : Option (Int32 × pw_St) := (l_X6_isClosed_4  pw_FU x1 (0 : Int32) σ)
def rm_X6_isClosed : Room := { frames := 1, cells := 0, slots := 0, locals := 23 }
set_option maxHeartbeats 4000000 in
set_option maxRecDepth 100000 in
theorem t_X6_isClosed_40 (hC : pw_CX G RX6 cX6_isClosed 5 (some .boolean) p s m args meth c) {k32 : Int32 → pw_St → Option (Int32 × pw_St)} {k40 : Int32 → Int32 → pw_St → Option (Int32 × pw_St)} {r : Int32} {τ : pw_St} (hk32 : ∀ (x3 : Int32), ∀ (σ : pw_St) (H : Heap) (locs : List Loc) (ls : Array Slot), pw_WH G σ s.heap H locs → lv_has ls 5 [(0, .ref (pw_ad G 3)), (3, .int x3)] → k32 x3 σ = some (r, τ) → W p l e rm_X6_isClosed s m args below meth c H locs 0 0 (MQ below (pw_Qi G r τ) args s 0 0 (pw_gA G)) (F0 m 32 ls [])) (hk40 : ∀ (x3 : Int32), ∀ (x4 : Int32), ∀ (σ : pw_St) (H : Heap) (locs : List Loc) (ls : Array Slot), pw_WH G σ s.heap H locs → lv_has ls 5 [(0, .ref (pw_ad G 3)), (3, .int x3), (4, .int x4)] → k40 x3 x4 σ = some (r, τ) → W p l e rm_X6_isClosed s m args below meth c H locs 0 0 (MQ below (pw_Qi G r τ) args s 0 0 (pw_gA G)) (F0 m 40 ls [])) {x3 : Int32} {x4 : Int32} {σ : pw_St} {H : Heap} {locs : List Loc} {ls : Array Slot} (hw : pw_WH G σ s.heap H locs) (hl : lv_has ls 5 [(0, .ref (pw_ad G 3)), (3, .int x3), (4, .int x4)]) (hf : b_X6_isClosed_40 k32 k40 x3 x4 σ = some (r, τ)) : W p l e rm_X6_isClosed s m args below meth c H locs 0 0 (MQ below (pw_Qi G r τ) args s 0 0 (pw_gA G)) (F0 m 40 ls []) := by
  have hx := hC.1
  have hb := hC.2.1
  unfold b_X6_isClosed_40 at hf
  refine lv_iload hx hb dX6_isClosed_40 (lv_at hl 2 rfl) ?_
  refine lv_iconst (v := 4) hx hb dX6_isClosed_42 (by decide) ?_
  refine lv_icmp_ge (tgt := 91) hx hb dX6_isClosed_43 (by decide) (fun hc => ?_) (fun hc => ?_)
  · replace hf := pw_ifp hc hf
    refine lv_iinc (v := (x3 + (1 : Int32))) (lv' := [(3, .int (x3 + (1 : Int32))), (0, .ref (pw_ad G 3)), (4, .int x4)]) hx hb dX6_isClosed_91 hl (k := 1) rfl rfl (by decide) rfl (fun ls hl => ?_)
    refine lv_goto (tgt := 32) hx hb dX6_isClosed_94 (by decide) ?_
    exact hk32 _ _ _ _ _ hw (lv_sub hl [1, 0] rfl) hf
  · replace hf := pw_ifn hc hf
    refine lv_aload_n hx hb dX6_isClosed_46 rfl (lv_at hl 0 rfl) ?_
    refine pg_3_4 hC hw mw_159 dX6_isClosed_47 ?_
    refine lv_iload_n hx hb dX6_isClosed_50 rfl (lv_at hl 1 rfl) ?_
    obtain ⟨hin, hf⟩ := pw_gd hf
    refine pw_ild hC hw ca_25 hin dX6_isClosed_51 ?_
    refine lv_if_le (tgt := 85) hx hb dX6_isClosed_52 (by decide) (fun hc => ?_) (fun hc => ?_)
    · replace hf := pw_ifp hc hf
      refine lv_iinc (v := (x4 + (1 : Int32))) (lv' := [(4, .int (x4 + (1 : Int32))), (0, .ref (pw_ad G 3)), (3, .int x3)]) hx hb dX6_isClosed_85 hl (k := 2) rfl rfl (by decide) rfl (fun ls hl => ?_)
      refine lv_goto (tgt := 40) hx hb dX6_isClosed_88 (by decide) ?_
      exact hk40 _ _ _ _ _ _ hw (lv_sub hl [1, 2, 0] rfl) hf
    · replace hf := pw_ifn hc hf
      refine lv_aload_n hx hb dX6_isClosed_55 rfl (lv_at hl 0 rfl) ?_
      refine pg_3_0 hC hw mw_151 dX6_isClosed_56 ?_
      refine lv_iload_n hx hb dX6_isClosed_59 rfl (lv_at hl 1 rfl) ?_
      refine lv_aload_n hx hb dX6_isClosed_60 rfl (lv_at hl 0 rfl) ?_
      refine pg_3_4 hC hw mw_159 dX6_isClosed_61 ?_
      refine lv_iload_n hx hb dX6_isClosed_64 rfl (lv_at hl 1 rfl) ?_
      obtain ⟨hin, hf⟩ := pw_gd hf
      refine pw_ild hC hw ca_25 hin dX6_isClosed_65 ?_
      refine lv_iconst (v := 1) hx hb dX6_isClosed_66 (by decide) ?_
      refine lv_isub hx hb dX6_isClosed_67 ?_
      refine lv_iload hx hb dX6_isClosed_68 (lv_at hl 2 rfl) ?_
      obtain ⟨r1, σ1, h1, hf⟩ := pw_bi_some hf
      refine pw_ci hw (pw_runV (As := [.int x3, .int ((σ.1 25 x3.toNatClampNeg) - (1 : Int32)), .int x4]) (rest := []) hC hw (c_X2_clockOf  h1) mw_460 wm_X2_clockOf ⟨Nat.zero_le _, Nat.zero_le _⟩ ⟨rfl, rfl, Nat.le_of_ble_eq_true rfl, Nat.le_of_ble_eq_true rfl⟩ (by decide) rfl rfl rfl hl.1 rfl (Nat.le_of_ble_eq_true rfl) dX6_isClosed_70) (fun H locs hw => ?_)
      refine lv_aload_n hx hb dX6_isClosed_73 rfl (lv_at hl 0 rfl) ?_
      refine pg_3_4 hC hw mw_159 dX6_isClosed_74 ?_
      refine lv_iload hx hb dX6_isClosed_77 (lv_at hl 2 rfl) ?_
      obtain ⟨hin, hf⟩ := pw_gd hf
      refine pw_ild hC hw ca_25 hin dX6_isClosed_79 ?_
      refine lv_icmp_le (tgt := 85) hx hb dX6_isClosed_80 (by decide) (fun hc => ?_) (fun hc => ?_)
      · replace hf := pw_ifp hc hf
        refine lv_iinc (v := (x4 + (1 : Int32))) (lv' := [(4, .int (x4 + (1 : Int32))), (0, .ref (pw_ad G 3)), (3, .int x3)]) hx hb dX6_isClosed_85 hl (k := 2) rfl rfl (by decide) rfl (fun ls hl => ?_)
        refine lv_goto (tgt := 40) hx hb dX6_isClosed_88 (by decide) ?_
        exact hk40 _ _ _ _ _ _ hw (lv_sub hl [1, 2, 0] rfl) hf
      · replace hf := pw_ifn hc hf
        refine lv_iconst (v := 0) hx hb dX6_isClosed_83 (by decide) ?_
        exact pw_zret hC hw hf dX6_isClosed_84
set_option maxHeartbeats 4000000 in
theorem tl_X6_isClosed_40 (hC : pw_CX G RX6 cX6_isClosed 5 (some .boolean) p s m args meth c) {k32 : Int32 → pw_St → Option (Int32 × pw_St)} {r : Int32} {τ : pw_St} (hk32 : ∀ (x3 : Int32), ∀ (σ : pw_St) (H : Heap) (locs : List Loc) (ls : Array Slot), pw_WH G σ s.heap H locs → lv_has ls 5 [(0, .ref (pw_ad G 3)), (3, .int x3)] → k32 x3 σ = some (r, τ) → W p l e rm_X6_isClosed s m args below meth c H locs 0 0 (MQ below (pw_Qi G r τ) args s 0 0 (pw_gA G)) (F0 m 32 ls [])) : ∀ (n : Nat) (x3 : Int32) (x4 : Int32) (σ : pw_St) (H : Heap) (locs : List Loc) (ls : Array Slot), pw_WH G σ s.heap H locs → lv_has ls 5 [(0, .ref (pw_ad G 3)), (3, .int x3), (4, .int x4)] → l_X6_isClosed_40 k32 n x3 x4 σ = some (r, τ) → W p l e rm_X6_isClosed s m args below meth c H locs 0 0 (MQ below (pw_Qi G r τ) args s 0 0 (pw_gA G)) (F0 m 40 ls []) := by
  intro n
  induction n with
  | zero => intro x3 x4 σ H locs ls hw hl hf; cases hf
  | succ n ih => intro x3 x4 σ H locs ls hw hl hf; exact t_X6_isClosed_40 hC hk32 ih  hw hl hf
set_option maxHeartbeats 4000000 in
set_option maxRecDepth 100000 in
theorem t_X6_isClosed_32 (hC : pw_CX G RX6 cX6_isClosed 5 (some .boolean) p s m args meth c) {k32 : Int32 → pw_St → Option (Int32 × pw_St)} {r : Int32} {τ : pw_St} (hk32 : ∀ (x3 : Int32), ∀ (σ : pw_St) (H : Heap) (locs : List Loc) (ls : Array Slot), pw_WH G σ s.heap H locs → lv_has ls 5 [(0, .ref (pw_ad G 3)), (3, .int x3)] → k32 x3 σ = some (r, τ) → W p l e rm_X6_isClosed s m args below meth c H locs 0 0 (MQ below (pw_Qi G r τ) args s 0 0 (pw_gA G)) (F0 m 32 ls [])) {x3 : Int32} {σ : pw_St} {H : Heap} {locs : List Loc} {ls : Array Slot} (hw : pw_WH G σ s.heap H locs) (hl : lv_has ls 5 [(0, .ref (pw_ad G 3)), (3, .int x3)]) (hf : b_X6_isClosed_32 k32 x3 σ = some (r, τ)) : W p l e rm_X6_isClosed s m args below meth c H locs 0 0 (MQ below (pw_Qi G r τ) args s 0 0 (pw_gA G)) (F0 m 32 ls []) := by
  have hx := hC.1
  have hb := hC.2.1
  unfold b_X6_isClosed_32 at hf
  refine lv_iload_n hx hb dX6_isClosed_32 rfl (lv_at hl 1 rfl) ?_
  refine lv_iconst (v := 4) hx hb dX6_isClosed_33 (by decide) ?_
  refine lv_icmp_ge (tgt := 97) hx hb dX6_isClosed_34 (by decide) (fun hc => ?_) (fun hc => ?_)
  · replace hf := pw_ifp hc hf
    refine lv_iconst (v := 1) hx hb dX6_isClosed_97 (by decide) ?_
    exact pw_zret hC hw hf dX6_isClosed_98
  · replace hf := pw_ifn hc hf
    refine lv_iconst (v := 0) hx hb dX6_isClosed_37 (by decide) ?_
    refine lv_istore (lv' := [(4, .int (0 : Int32)), (0, .ref (pw_ad G 3)), (3, .int x3)]) hx hb dX6_isClosed_38 hl (by decide) rfl (fun ls hl => ?_)
    exact tl_X6_isClosed_40 hC hk32 pw_FU _ _ _ _ _ _ hw (lv_sub hl [1, 2, 0] rfl) hf
set_option maxHeartbeats 4000000 in
theorem tl_X6_isClosed_32 (hC : pw_CX G RX6 cX6_isClosed 5 (some .boolean) p s m args meth c) {r : Int32} {τ : pw_St} : ∀ (n : Nat) (x3 : Int32) (σ : pw_St) (H : Heap) (locs : List Loc) (ls : Array Slot), pw_WH G σ s.heap H locs → lv_has ls 5 [(0, .ref (pw_ad G 3)), (3, .int x3)] → l_X6_isClosed_32  n x3 σ = some (r, τ) → W p l e rm_X6_isClosed s m args below meth c H locs 0 0 (MQ below (pw_Qi G r τ) args s 0 0 (pw_gA G)) (F0 m 32 ls []) := by
  intro n
  induction n with
  | zero => intro x3 σ H locs ls hw hl hf; cases hf
  | succ n ih => intro x3 σ H locs ls hw hl hf; exact t_X6_isClosed_32 hC ih  hw hl hf
set_option maxHeartbeats 4000000 in
set_option maxRecDepth 100000 in
theorem t_X6_isClosed_4 (hC : pw_CX G RX6 cX6_isClosed 5 (some .boolean) p s m args meth c) {k4 : Int32 → Int32 → pw_St → Option (Int32 × pw_St)} {r : Int32} {τ : pw_St} (hk4 : ∀ (x2 : Int32), ∀ (x3 : Int32), ∀ (σ : pw_St) (H : Heap) (locs : List Loc) (ls : Array Slot), pw_WH G σ s.heap H locs → lv_has ls 5 [(0, .ref (pw_ad G 3)), (2, .int x2), (3, .int x3)] → k4 x2 x3 σ = some (r, τ) → W p l e rm_X6_isClosed s m args below meth c H locs 0 0 (MQ below (pw_Qi G r τ) args s 0 0 (pw_gA G)) (F0 m 4 ls [])) {x2 : Int32} {x3 : Int32} {σ : pw_St} {H : Heap} {locs : List Loc} {ls : Array Slot} (hw : pw_WH G σ s.heap H locs) (hl : lv_has ls 5 [(0, .ref (pw_ad G 3)), (2, .int x2), (3, .int x3)]) (hf : b_X6_isClosed_4 k4 x2 x3 σ = some (r, τ)) : W p l e rm_X6_isClosed s m args below meth c H locs 0 0 (MQ below (pw_Qi G r τ) args s 0 0 (pw_gA G)) (F0 m 4 ls []) := by
  have hx := hC.1
  have hb := hC.2.1
  unfold b_X6_isClosed_4 at hf
  refine lv_iload_n hx hb dX6_isClosed_4 rfl (lv_at hl 2 rfl) ?_
  refine lv_iconst (v := 4) hx hb dX6_isClosed_5 (by decide) ?_
  refine lv_icmp_ge (tgt := 30) hx hb dX6_isClosed_6 (by decide) (fun hc => ?_) (fun hc => ?_)
  · replace hf := pw_ifp hc hf
    refine lv_iconst (v := 0) hx hb dX6_isClosed_30 (by decide) ?_
    refine lv_istore_n (lv' := [(3, .int (0 : Int32)), (0, .ref (pw_ad G 3)), (2, .int x2)]) hx hb dX6_isClosed_31 rfl hl (by decide) rfl (fun ls hl => ?_)
    exact tl_X6_isClosed_32 hC  pw_FU _ _ _ _ _ hw (lv_sub hl [1, 0] rfl) hf
  · replace hf := pw_ifn hc hf
    refine lv_aload_n hx hb dX6_isClosed_9 rfl (lv_at hl 0 rfl) ?_
    refine pg_3_4 hC hw mw_159 dX6_isClosed_10 ?_
    refine lv_iload_n hx hb dX6_isClosed_13 rfl (lv_at hl 2 rfl) ?_
    refine lv_iload_n hx hb dX6_isClosed_14 rfl (lv_at hl 1 rfl) ?_
    refine lv_bipush (v := 7) hx hb dX6_isClosed_15 (by decide) ?_
    refine lv_irem hx hb dX6_isClosed_17 (by decide) ?_
    obtain ⟨hin, hf⟩ := pw_gd hf
    refine pw_ist hC hw ca_25 hin dX6_isClosed_18 (fun H locs hw => ?_)
    obtain ⟨σ1, e1, hf⟩ := pw_lts hf
    replace hw := pw_WHe e1 hw
    refine lv_iload_n hx hb dX6_isClosed_19 rfl (lv_at hl 1 rfl) ?_
    refine lv_bipush (v := 7) hx hb dX6_isClosed_20 (by decide) ?_
    refine lv_idiv hx hb dX6_isClosed_22 (by decide) ?_
    refine lv_istore_n (lv' := [(2, .int (x2 / (7 : Int32))), (0, .ref (pw_ad G 3)), (3, .int x3)]) hx hb dX6_isClosed_23 rfl hl (by decide) rfl (fun ls hl => ?_)
    refine lv_iinc (v := (x3 + (1 : Int32))) (lv' := [(3, .int (x3 + (1 : Int32))), (2, .int (x2 / (7 : Int32))), (0, .ref (pw_ad G 3))]) hx hb dX6_isClosed_24 hl (k := 2) rfl rfl (by decide) rfl (fun ls hl => ?_)
    refine lv_goto (tgt := 4) hx hb dX6_isClosed_27 (by decide) ?_
    exact hk4 _ _ _ _ _ _ hw (lv_sub hl [2, 1, 0] rfl) hf
set_option maxHeartbeats 4000000 in
theorem tl_X6_isClosed_4 (hC : pw_CX G RX6 cX6_isClosed 5 (some .boolean) p s m args meth c) {r : Int32} {τ : pw_St} : ∀ (n : Nat) (x2 : Int32) (x3 : Int32) (σ : pw_St) (H : Heap) (locs : List Loc) (ls : Array Slot), pw_WH G σ s.heap H locs → lv_has ls 5 [(0, .ref (pw_ad G 3)), (2, .int x2), (3, .int x3)] → l_X6_isClosed_4  n x2 x3 σ = some (r, τ) → W p l e rm_X6_isClosed s m args below meth c H locs 0 0 (MQ below (pw_Qi G r τ) args s 0 0 (pw_gA G)) (F0 m 4 ls []) := by
  intro n
  induction n with
  | zero => intro x2 x3 σ H locs ls hw hl hf; cases hf
  | succ n ih => intro x2 x3 σ H locs ls hw hl hf; exact t_X6_isClosed_4 hC ih  hw hl hf
set_option maxHeartbeats 4000000 in
set_option maxRecDepth 100000 in
theorem c_X6_isClosed {l : Launch} {G : pw_Gh} {x1 : Int32} {σ : pw_St} {r : Int32} {τ : pw_St} (hf : f_X6_isClosed x1 σ = some (r, τ)) : Met l yX6_isClosed (.code yX6_isClosed cX6_isClosed 5 (some .boolean) :: pw_BW) rm_X6_isClosed (pw_Pc G [.ref (pw_ad G 3), .int x1] σ) (pw_Qi G r τ) 0 0 (pw_gA G) := by
  refine pw_met (by decide +kernel) (Nat.le_of_ble_eq_true rfl) ?_
  intro p e s m args below meth c ls hC hw hl
  replace hl : lv_has ls 5 [(0, .ref (pw_ad G 3)), (1, .int x1)] := hl
  have hx := hC.1
  have hb := hC.2.1
  unfold f_X6_isClosed at hf
  refine lv_iload_n hx hb dX6_isClosed_0 rfl (lv_at hl 1 rfl) ?_
  refine lv_istore_n (lv' := [(2, .int x1), (0, .ref (pw_ad G 3)), (1, .int x1)]) hx hb dX6_isClosed_1 rfl hl (by decide) rfl (fun ls hl => ?_)
  refine lv_iconst (v := 0) hx hb dX6_isClosed_2 (by decide) ?_
  refine lv_istore_n (lv' := [(3, .int (0 : Int32)), (2, .int x1), (0, .ref (pw_ad G 3)), (1, .int x1)]) hx hb dX6_isClosed_3 rfl hl (by decide) rfl (fun ls hl => ?_)
  exact tl_X6_isClosed_4 hC  pw_FU _ _ _ _ _ _ hw (lv_sub hl [2, 1, 0] rfl) hf
-- java/util/Arrays fill
def b_J7_fill_53178_5 (k5 : Int32 → Int32 → Int32 → pw_St → Option pw_St) (x1 : Int32) (x2 : Int32) (x3 : Int32) (σ : pw_St) : Option pw_St := (if x3 ≤ x2 then (some σ) else (if pw_in x2 25 = true then (pw_lt (pw_sM σ 24 x2.toNatClampNeg x1) fun σ1 => (k5 x1 (x2 + (1 : Int32)) x3 σ1)) else none))
def l_J7_fill_53178_5 : Nat → Int32 → Int32 → Int32 → pw_St → Option pw_St
  | 0 => fun _ _ _ _ => none
  | n + 1 => fun x1 x2 x3 σ => b_J7_fill_53178_5  (l_J7_fill_53178_5  n) x1 x2 x3 σ
def f_J7_fill_53178 (x1 : Int32) (σ : pw_St) : Option pw_St := (l_J7_fill_53178_5  pw_FU x1 (0 : Int32) (Int32.ofNat 25) σ)
def rm_J7_fill_53178 : Room := { frames := 0, cells := 0, slots := 0, locals := 0 }
set_option maxHeartbeats 4000000 in
set_option maxRecDepth 100000 in
theorem t_J7_fill_53178_5 (hC : pw_CX G RJ7 cJ7_fill_53178 4 none p s m args meth c) {k5 : Int32 → Int32 → Int32 → pw_St → Option pw_St} {τ : pw_St} (hk5 : ∀ (x1 : Int32), ∀ (x2 : Int32), ∀ (x3 : Int32), ∀ (σ : pw_St) (H : Heap) (locs : List Loc) (ls : Array Slot), pw_WH G σ s.heap H locs → lv_has ls 4 [(0, .ref (pw_ad G 24)), (1, .int x1), (2, .int x2), (3, .int x3)] → k5 x1 x2 x3 σ = some τ → W p l e rm_J7_fill_53178 s m args below meth c H locs 0 0 (MQ below (pw_Qv G τ) args s 0 0 (pw_gA G)) (F0 m 5 ls [])) {x1 : Int32} {x2 : Int32} {x3 : Int32} {σ : pw_St} {H : Heap} {locs : List Loc} {ls : Array Slot} (hw : pw_WH G σ s.heap H locs) (hl : lv_has ls 4 [(0, .ref (pw_ad G 24)), (1, .int x1), (2, .int x2), (3, .int x3)]) (hf : b_J7_fill_53178_5 k5 x1 x2 x3 σ = some τ) : W p l e rm_J7_fill_53178 s m args below meth c H locs 0 0 (MQ below (pw_Qv G τ) args s 0 0 (pw_gA G)) (F0 m 5 ls []) := by
  have hx := hC.1
  have hb := hC.2.1
  unfold b_J7_fill_53178_5 at hf
  refine lv_iload_n hx hb dJ7_fill_53178_5 rfl (lv_at hl 2 rfl) ?_
  refine lv_iload_n hx hb dJ7_fill_53178_6 rfl (lv_at hl 3 rfl) ?_
  refine lv_icmp_ge (tgt := 20) hx hb dJ7_fill_53178_7 (by decide) (fun hc => ?_) (fun hc => ?_)
  · replace hf := pw_ifp hc hf
    exact pw_vret hC hw hf dJ7_fill_53178_20
  · replace hf := pw_ifn hc hf
    refine lv_aload_n hx hb dJ7_fill_53178_10 rfl (lv_at hl 0 rfl) ?_
    refine lv_iload_n hx hb dJ7_fill_53178_11 rfl (lv_at hl 2 rfl) ?_
    refine lv_iload_n hx hb dJ7_fill_53178_12 rfl (lv_at hl 1 rfl) ?_
    obtain ⟨hin, hf⟩ := pw_gd hf
    refine pw_ist hC hw ca_24 hin dJ7_fill_53178_13 (fun H locs hw => ?_)
    obtain ⟨σ1, e1, hf⟩ := pw_lts hf
    replace hw := pw_WHe e1 hw
    refine lv_iinc (v := (x2 + (1 : Int32))) (lv' := [(2, .int (x2 + (1 : Int32))), (0, .ref (pw_ad G 24)), (1, .int x1), (3, .int x3)]) hx hb dJ7_fill_53178_14 hl (k := 2) rfl rfl (by decide) rfl (fun ls hl => ?_)
    refine lv_goto (tgt := 5) hx hb dJ7_fill_53178_17 (by decide) ?_
    exact hk5 _ _ _ _ _ _ _ hw (lv_sub hl [1, 2, 0, 3] rfl) hf
set_option maxHeartbeats 4000000 in
theorem tl_J7_fill_53178_5 (hC : pw_CX G RJ7 cJ7_fill_53178 4 none p s m args meth c) {τ : pw_St} : ∀ (n : Nat) (x1 : Int32) (x2 : Int32) (x3 : Int32) (σ : pw_St) (H : Heap) (locs : List Loc) (ls : Array Slot), pw_WH G σ s.heap H locs → lv_has ls 4 [(0, .ref (pw_ad G 24)), (1, .int x1), (2, .int x2), (3, .int x3)] → l_J7_fill_53178_5  n x1 x2 x3 σ = some τ → W p l e rm_J7_fill_53178 s m args below meth c H locs 0 0 (MQ below (pw_Qv G τ) args s 0 0 (pw_gA G)) (F0 m 5 ls []) := by
  intro n
  induction n with
  | zero => intro x1 x2 x3 σ H locs ls hw hl hf; cases hf
  | succ n ih => intro x1 x2 x3 σ H locs ls hw hl hf; exact t_J7_fill_53178_5 hC ih  hw hl hf
set_option maxHeartbeats 4000000 in
set_option maxRecDepth 100000 in
theorem c_J7_fill_53178 {l : Launch} {G : pw_Gh} {x1 : Int32} {σ : pw_St} {τ : pw_St} (hf : f_J7_fill_53178 x1 σ = some τ) : Met l yJ7_fill_53178 (.code yJ7_fill_53178 cJ7_fill_53178 4 none :: pw_BW) rm_J7_fill_53178 (pw_Pc G [.ref (pw_ad G 24), .int x1] σ) (pw_Qv G τ) 0 0 (pw_gA G) := by
  refine pw_met (by decide +kernel) (Nat.le_of_ble_eq_true rfl) ?_
  intro p e s m args below meth c ls hC hw hl
  replace hl : lv_has ls 4 [(0, .ref (pw_ad G 24)), (1, .int x1)] := hl
  have hx := hC.1
  have hb := hC.2.1
  unfold f_J7_fill_53178 at hf
  refine lv_iconst (v := 0) hx hb dJ7_fill_53178_0 (by decide) ?_
  refine lv_istore_n (lv' := [(2, .int (0 : Int32)), (0, .ref (pw_ad G 24)), (1, .int x1)]) hx hb dJ7_fill_53178_1 rfl hl (by decide) rfl (fun ls hl => ?_)
  refine lv_aload_n hx hb dJ7_fill_53178_2 rfl (lv_at hl 1 rfl) ?_
  refine pw_alenI hC hw ca_24 dJ7_fill_53178_3 ?_
  refine lv_istore_n (lv' := [(3, .int (Int32.ofNat 25)), (2, .int (0 : Int32)), (0, .ref (pw_ad G 24)), (1, .int x1)]) hx hb dJ7_fill_53178_4 rfl hl (by decide) rfl (fun ls hl => ?_)
  exact tl_J7_fill_53178_5 hC  pw_FU _ _ _ _ _ _ _ hw (lv_sub hl [2, 3, 1, 0] rfl) hf
-- PerhapsWas$Net sortBySize
def b_X6_sortBySize_94 (k94 : Int32 → pw_St → Option pw_St) (x1 : Int32) (σ : pw_St) : Option pw_St := (if (σ.1 3 6) < x1 then (some σ) else (if pw_in x1 2401 = true then (if (σ.1 23 x1.toNatClampNeg) = 0 then (k94 (x1 + (1 : Int32)) σ) else (pw_bi (f_X6_sizeOf x1 σ) fun r1 σ1 => (if pw_in r1 25 = true then (if pw_in (σ1.1 24 r1.toNatClampNeg) 2401 = true then (pw_lt (pw_sM σ1 22 (σ1.1 24 r1.toNatClampNeg).toNatClampNeg x1) fun σ2 => (if pw_in r1 25 = true then (if pw_in r1 25 = true then (pw_lt (pw_sM σ2 24 r1.toNatClampNeg ((σ2.1 24 r1.toNatClampNeg) + (1 : Int32))) fun σ3 => (k94 (x1 + (1 : Int32)) σ3)) else none) else none)) else none) else none))) else none))
def l_X6_sortBySize_94 : Nat → Int32 → pw_St → Option pw_St
  | 0 => fun _ _ => none
  | n + 1 => fun x1 σ => b_X6_sortBySize_94  (l_X6_sortBySize_94  n) x1 σ
def b_X6_sortBySize_53 (k53 : Int32 → pw_St → Option pw_St) (x1 : Int32) (σ : pw_St) : Option pw_St := (if (24 : Int32) < x1 then (l_X6_sortBySize_94  pw_FU (0 : Int32) σ) else (if pw_in x1 25 = true then (if pw_in x1 25 = true then (pw_lt (pw_sM σ 24 x1.toNatClampNeg (σ.1 3 5)) fun σ1 => (pw_lt (pw_sM σ1 3 5 ((σ1.1 3 5) + (σ.1 24 x1.toNatClampNeg))) fun σ2 => (k53 (x1 + (1 : Int32)) σ2))) else none) else none))
def l_X6_sortBySize_53 : Nat → Int32 → pw_St → Option pw_St
  | 0 => fun _ _ => none
  | n + 1 => fun x1 σ => b_X6_sortBySize_53  (l_X6_sortBySize_53  n) x1 σ
def b_X6_sortBySize_46 (σ : pw_St) : Option pw_St := (pw_lt (pw_sM σ 3 5 (0 : Int32)) fun σ1 => (l_X6_sortBySize_53  pw_FU (0 : Int32) σ1))
def b_X6_sortBySize_10 (k10 : Int32 → pw_St → Option pw_St) (x1 : Int32) (σ : pw_St) : Option pw_St := (if (σ.1 3 6) < x1 then (b_X6_sortBySize_46  σ) else (if pw_in x1 2401 = true then (if (σ.1 23 x1.toNatClampNeg) = 0 then (k10 (x1 + (1 : Int32)) σ) else (pw_bi (f_X6_sizeOf x1 σ) fun r1 σ1 => (if pw_in r1 25 = true then (if pw_in r1 25 = true then (pw_lt (pw_sM σ1 24 r1.toNatClampNeg ((σ1.1 24 r1.toNatClampNeg) + (1 : Int32))) fun σ2 => (k10 (x1 + (1 : Int32)) σ2)) else none) else none))) else none))
def l_X6_sortBySize_10 : Nat → Int32 → pw_St → Option pw_St
  | 0 => fun _ _ => none
  | n + 1 => fun x1 σ => b_X6_sortBySize_10  (l_X6_sortBySize_10  n) x1 σ
def f_X6_sortBySize (σ : pw_St) : Option pw_St := (pw_bv (f_J7_fill_53178 (0 : Int32) σ) fun σ1 => (l_X6_sortBySize_10  pw_FU (0 : Int32) σ1))
def rm_X6_sortBySize : Room := { frames := 1, cells := 0, slots := 0, locals := 23 }
set_option maxHeartbeats 4000000 in
set_option maxRecDepth 100000 in
theorem t_X6_sortBySize_94 (hC : pw_CX G RX6 cX6_sortBySize 3 none p s m args meth c) {k94 : Int32 → pw_St → Option pw_St} {τ : pw_St} (hk94 : ∀ (x1 : Int32), ∀ (σ : pw_St) (H : Heap) (locs : List Loc) (ls : Array Slot), pw_WH G σ s.heap H locs → lv_has ls 3 [(0, .ref (pw_ad G 3)), (1, .int x1)] → k94 x1 σ = some τ → W p l e rm_X6_sortBySize s m args below meth c H locs 0 0 (MQ below (pw_Qv G τ) args s 0 0 (pw_gA G)) (F0 m 94 ls [])) {x1 : Int32} {σ : pw_St} {H : Heap} {locs : List Loc} {ls : Array Slot} (hw : pw_WH G σ s.heap H locs) (hl : lv_has ls 3 [(0, .ref (pw_ad G 3)), (1, .int x1)]) (hf : b_X6_sortBySize_94 k94 x1 σ = some τ) : W p l e rm_X6_sortBySize s m args below meth c H locs 0 0 (MQ below (pw_Qv G τ) args s 0 0 (pw_gA G)) (F0 m 94 ls []) := by
  have hx := hC.1
  have hb := hC.2.1
  unfold b_X6_sortBySize_94 at hf
  refine lv_iload_n hx hb dX6_sortBySize_94 rfl (lv_at hl 1 rfl) ?_
  refine lv_aload_n hx hb dX6_sortBySize_95 rfl (lv_at hl 0 rfl) ?_
  refine pg_3_6 hC hw mw_165 dX6_sortBySize_96 ?_
  refine lv_icmp_gt (tgt := 144) hx hb dX6_sortBySize_99 (by decide) (fun hc => ?_) (fun hc => ?_)
  · replace hf := pw_ifp hc hf
    exact pw_vret hC hw hf dX6_sortBySize_144
  · replace hf := pw_ifn hc hf
    refine lv_aload_n hx hb dX6_sortBySize_102 rfl (lv_at hl 0 rfl) ?_
    refine pg_3_2 hC hw mw_156 dX6_sortBySize_103 ?_
    refine lv_iload_n hx hb dX6_sortBySize_106 rfl (lv_at hl 1 rfl) ?_
    obtain ⟨hin, hf⟩ := pw_gd hf
    refine pw_zld hC hw ca_23 hin dX6_sortBySize_107 ?_
    refine lv_if_eq (tgt := 138) hx hb dX6_sortBySize_108 (by decide) (fun hc => ?_) (fun hc => ?_)
    · replace hf := pw_ifp hc hf
      refine lv_iinc (v := (x1 + (1 : Int32))) (lv' := [(1, .int (x1 + (1 : Int32))), (0, .ref (pw_ad G 3))]) hx hb dX6_sortBySize_138 hl (k := 1) rfl rfl (by decide) rfl (fun ls hl => ?_)
      refine lv_goto (tgt := 94) hx hb dX6_sortBySize_141 (by decide) ?_
      exact hk94 _ _ _ _ _ hw (lv_sub hl [1, 0] rfl) hf
    · replace hf := pw_ifn hc hf
      refine lv_iload_n hx hb dX6_sortBySize_111 rfl (lv_at hl 1 rfl) ?_
      obtain ⟨r1, σ1, h1, hf⟩ := pw_bi_some hf
      refine pw_ci hw (pw_runS (As := [.int x1]) (rest := []) hC hw (c_X6_sizeOf  h1) mw_468 wm_X6_sizeOf ⟨Nat.zero_le _, Nat.zero_le _⟩ ⟨rfl, rfl, Nat.le_of_ble_eq_true rfl, Nat.le_of_ble_eq_true rfl⟩ rfl hl.1 rfl (Nat.le_of_ble_eq_true rfl) dX6_sortBySize_112) (fun H locs hw => ?_)
      refine lv_istore_n (lv' := [(2, .int r1), (0, .ref (pw_ad G 3)), (1, .int x1)]) hx hb dX6_sortBySize_115 rfl hl (by decide) rfl (fun ls hl => ?_)
      refine lv_aload_n hx hb dX6_sortBySize_116 rfl (lv_at hl 1 rfl) ?_
      refine pg_3_1 hC hw mw_152 dX6_sortBySize_117 ?_
      refine lv_aload_n hx hb dX6_sortBySize_120 rfl (lv_at hl 1 rfl) ?_
      refine pg_3_3 hC hw mw_158 dX6_sortBySize_121 ?_
      refine lv_iload_n hx hb dX6_sortBySize_124 rfl (lv_at hl 0 rfl) ?_
      obtain ⟨hin, hf⟩ := pw_gd hf
      refine pw_ild hC hw ca_24 hin dX6_sortBySize_125 ?_
      refine lv_iload_n hx hb dX6_sortBySize_126 rfl (lv_at hl 2 rfl) ?_
      obtain ⟨hin, hf⟩ := pw_gd hf
      refine pw_ist hC hw ca_22 hin dX6_sortBySize_127 (fun H locs hw => ?_)
      obtain ⟨σ2, e2, hf⟩ := pw_lts hf
      replace hw := pw_WHe e2 hw
      refine lv_aload_n hx hb dX6_sortBySize_128 rfl (lv_at hl 1 rfl) ?_
      refine pg_3_3 hC hw mw_158 dX6_sortBySize_129 ?_
      refine lv_iload_n hx hb dX6_sortBySize_132 rfl (lv_at hl 0 rfl) ?_
      refine lv_dup2_11 hx hb dX6_sortBySize_133 rfl rfl ?_
      obtain ⟨hin, hf⟩ := pw_gd hf
      refine pw_ild hC hw ca_24 hin dX6_sortBySize_134 ?_
      refine lv_iconst (v := 1) hx hb dX6_sortBySize_135 (by decide) ?_
      refine lv_iadd hx hb dX6_sortBySize_136 ?_
      obtain ⟨hin, hf⟩ := pw_gd hf
      refine pw_ist hC hw ca_24 hin dX6_sortBySize_137 (fun H locs hw => ?_)
      obtain ⟨σ3, e3, hf⟩ := pw_lts hf
      replace hw := pw_WHe e3 hw
      refine lv_iinc (v := (x1 + (1 : Int32))) (lv' := [(1, .int (x1 + (1 : Int32))), (2, .int r1), (0, .ref (pw_ad G 3))]) hx hb dX6_sortBySize_138 hl (k := 2) rfl rfl (by decide) rfl (fun ls hl => ?_)
      refine lv_goto (tgt := 94) hx hb dX6_sortBySize_141 (by decide) ?_
      exact hk94 _ _ _ _ _ hw (lv_sub hl [2, 0] rfl) hf
set_option maxHeartbeats 4000000 in
theorem tl_X6_sortBySize_94 (hC : pw_CX G RX6 cX6_sortBySize 3 none p s m args meth c) {τ : pw_St} : ∀ (n : Nat) (x1 : Int32) (σ : pw_St) (H : Heap) (locs : List Loc) (ls : Array Slot), pw_WH G σ s.heap H locs → lv_has ls 3 [(0, .ref (pw_ad G 3)), (1, .int x1)] → l_X6_sortBySize_94  n x1 σ = some τ → W p l e rm_X6_sortBySize s m args below meth c H locs 0 0 (MQ below (pw_Qv G τ) args s 0 0 (pw_gA G)) (F0 m 94 ls []) := by
  intro n
  induction n with
  | zero => intro x1 σ H locs ls hw hl hf; cases hf
  | succ n ih => intro x1 σ H locs ls hw hl hf; exact t_X6_sortBySize_94 hC ih  hw hl hf
set_option maxHeartbeats 4000000 in
set_option maxRecDepth 100000 in
theorem t_X6_sortBySize_53 (hC : pw_CX G RX6 cX6_sortBySize 3 none p s m args meth c) {k53 : Int32 → pw_St → Option pw_St} {τ : pw_St} (hk53 : ∀ (x1 : Int32), ∀ (σ : pw_St) (H : Heap) (locs : List Loc) (ls : Array Slot), pw_WH G σ s.heap H locs → lv_has ls 3 [(0, .ref (pw_ad G 3)), (1, .int x1)] → k53 x1 σ = some τ → W p l e rm_X6_sortBySize s m args below meth c H locs 0 0 (MQ below (pw_Qv G τ) args s 0 0 (pw_gA G)) (F0 m 53 ls [])) {x1 : Int32} {σ : pw_St} {H : Heap} {locs : List Loc} {ls : Array Slot} (hw : pw_WH G σ s.heap H locs) (hl : lv_has ls 3 [(0, .ref (pw_ad G 3)), (1, .int x1)]) (hf : b_X6_sortBySize_53 k53 x1 σ = some τ) : W p l e rm_X6_sortBySize s m args below meth c H locs 0 0 (MQ below (pw_Qv G τ) args s 0 0 (pw_gA G)) (F0 m 53 ls []) := by
  have hx := hC.1
  have hb := hC.2.1
  unfold b_X6_sortBySize_53 at hf
  refine lv_iload_n hx hb dX6_sortBySize_53 rfl (lv_at hl 1 rfl) ?_
  refine lv_bipush (v := 24) hx hb dX6_sortBySize_54 (by decide) ?_
  refine lv_icmp_gt (tgt := 92) hx hb dX6_sortBySize_56 (by decide) (fun hc => ?_) (fun hc => ?_)
  · replace hf := pw_ifp hc hf
    refine lv_iconst (v := 0) hx hb dX6_sortBySize_92 (by decide) ?_
    refine lv_istore_n (lv' := [(1, .int (0 : Int32)), (0, .ref (pw_ad G 3))]) hx hb dX6_sortBySize_93 rfl hl (by decide) rfl (fun ls hl => ?_)
    exact tl_X6_sortBySize_94 hC  pw_FU _ _ _ _ _ hw (lv_sub hl [1, 0] rfl) hf
  · replace hf := pw_ifn hc hf
    refine lv_aload_n hx hb dX6_sortBySize_59 rfl (lv_at hl 0 rfl) ?_
    refine pg_3_3 hC hw mw_158 dX6_sortBySize_60 ?_
    refine lv_iload_n hx hb dX6_sortBySize_63 rfl (lv_at hl 1 rfl) ?_
    obtain ⟨hin, hf⟩ := pw_gd hf
    refine pw_ild hC hw ca_24 hin dX6_sortBySize_64 ?_
    refine lv_istore_n (lv' := [(2, .int (σ.1 24 x1.toNatClampNeg)), (0, .ref (pw_ad G 3)), (1, .int x1)]) hx hb dX6_sortBySize_65 rfl hl (by decide) rfl (fun ls hl => ?_)
    refine lv_aload_n hx hb dX6_sortBySize_66 rfl (lv_at hl 1 rfl) ?_
    refine pg_3_3 hC hw mw_158 dX6_sortBySize_67 ?_
    refine lv_iload_n hx hb dX6_sortBySize_70 rfl (lv_at hl 2 rfl) ?_
    refine lv_aload_n hx hb dX6_sortBySize_71 rfl (lv_at hl 1 rfl) ?_
    refine pg_3_5 hC hw mw_162 dX6_sortBySize_72 ?_
    obtain ⟨hin, hf⟩ := pw_gd hf
    refine pw_ist hC hw ca_24 hin dX6_sortBySize_75 (fun H locs hw => ?_)
    obtain ⟨σ1, e1, hf⟩ := pw_lts hf
    replace hw := pw_WHe e1 hw
    refine lv_aload_n hx hb dX6_sortBySize_76 rfl (lv_at hl 1 rfl) ?_
    refine lv_dup hx hb dX6_sortBySize_77 rfl ?_
    refine pg_3_5 hC hw mw_162 dX6_sortBySize_78 ?_
    refine lv_iload_n hx hb dX6_sortBySize_81 rfl (lv_at hl 0 rfl) ?_
    refine lv_iadd hx hb dX6_sortBySize_82 ?_
    refine pp_3_5 hC hw mw_162 dX6_sortBySize_83 (fun H locs hw => ?_)
    obtain ⟨σ2, e2, hf⟩ := pw_lts hf
    replace hw := pw_WHe e2 hw
    refine lv_iinc (v := (x1 + (1 : Int32))) (lv' := [(1, .int (x1 + (1 : Int32))), (2, .int (σ.1 24 x1.toNatClampNeg)), (0, .ref (pw_ad G 3))]) hx hb dX6_sortBySize_86 hl (k := 2) rfl rfl (by decide) rfl (fun ls hl => ?_)
    refine lv_goto (tgt := 53) hx hb dX6_sortBySize_89 (by decide) ?_
    exact hk53 _ _ _ _ _ hw (lv_sub hl [2, 0] rfl) hf
set_option maxHeartbeats 4000000 in
theorem tl_X6_sortBySize_53 (hC : pw_CX G RX6 cX6_sortBySize 3 none p s m args meth c) {τ : pw_St} : ∀ (n : Nat) (x1 : Int32) (σ : pw_St) (H : Heap) (locs : List Loc) (ls : Array Slot), pw_WH G σ s.heap H locs → lv_has ls 3 [(0, .ref (pw_ad G 3)), (1, .int x1)] → l_X6_sortBySize_53  n x1 σ = some τ → W p l e rm_X6_sortBySize s m args below meth c H locs 0 0 (MQ below (pw_Qv G τ) args s 0 0 (pw_gA G)) (F0 m 53 ls []) := by
  intro n
  induction n with
  | zero => intro x1 σ H locs ls hw hl hf; cases hf
  | succ n ih => intro x1 σ H locs ls hw hl hf; exact t_X6_sortBySize_53 hC ih  hw hl hf
set_option maxHeartbeats 4000000 in
set_option maxRecDepth 100000 in
theorem t_X6_sortBySize_46 (hC : pw_CX G RX6 cX6_sortBySize 3 none p s m args meth c) {τ : pw_St} {σ : pw_St} {H : Heap} {locs : List Loc} {ls : Array Slot} (hw : pw_WH G σ s.heap H locs) (hl : lv_has ls 3 [(0, .ref (pw_ad G 3))]) (hf : b_X6_sortBySize_46 σ = some τ) : W p l e rm_X6_sortBySize s m args below meth c H locs 0 0 (MQ below (pw_Qv G τ) args s 0 0 (pw_gA G)) (F0 m 46 ls []) := by
  have hx := hC.1
  have hb := hC.2.1
  unfold b_X6_sortBySize_46 at hf
  refine lv_aload_n hx hb dX6_sortBySize_46 rfl (lv_at hl 0 rfl) ?_
  refine lv_iconst (v := 0) hx hb dX6_sortBySize_47 (by decide) ?_
  refine pp_3_5 hC hw mw_162 dX6_sortBySize_48 (fun H locs hw => ?_)
  obtain ⟨σ1, e1, hf⟩ := pw_lts hf
  replace hw := pw_WHe e1 hw
  refine lv_iconst (v := 0) hx hb dX6_sortBySize_51 (by decide) ?_
  refine lv_istore_n (lv' := [(1, .int (0 : Int32)), (0, .ref (pw_ad G 3))]) hx hb dX6_sortBySize_52 rfl hl (by decide) rfl (fun ls hl => ?_)
  exact tl_X6_sortBySize_53 hC  pw_FU _ _ _ _ _ hw (lv_sub hl [1, 0] rfl) hf
set_option maxHeartbeats 4000000 in
set_option maxRecDepth 100000 in
theorem t_X6_sortBySize_10 (hC : pw_CX G RX6 cX6_sortBySize 3 none p s m args meth c) {k10 : Int32 → pw_St → Option pw_St} {τ : pw_St} (hk10 : ∀ (x1 : Int32), ∀ (σ : pw_St) (H : Heap) (locs : List Loc) (ls : Array Slot), pw_WH G σ s.heap H locs → lv_has ls 3 [(0, .ref (pw_ad G 3)), (1, .int x1)] → k10 x1 σ = some τ → W p l e rm_X6_sortBySize s m args below meth c H locs 0 0 (MQ below (pw_Qv G τ) args s 0 0 (pw_gA G)) (F0 m 10 ls [])) {x1 : Int32} {σ : pw_St} {H : Heap} {locs : List Loc} {ls : Array Slot} (hw : pw_WH G σ s.heap H locs) (hl : lv_has ls 3 [(0, .ref (pw_ad G 3)), (1, .int x1)]) (hf : b_X6_sortBySize_10 k10 x1 σ = some τ) : W p l e rm_X6_sortBySize s m args below meth c H locs 0 0 (MQ below (pw_Qv G τ) args s 0 0 (pw_gA G)) (F0 m 10 ls []) := by
  have hx := hC.1
  have hb := hC.2.1
  unfold b_X6_sortBySize_10 at hf
  refine lv_iload_n hx hb dX6_sortBySize_10 rfl (lv_at hl 1 rfl) ?_
  refine lv_aload_n hx hb dX6_sortBySize_11 rfl (lv_at hl 0 rfl) ?_
  refine pg_3_6 hC hw mw_165 dX6_sortBySize_12 ?_
  refine lv_icmp_gt (tgt := 46) hx hb dX6_sortBySize_15 (by decide) (fun hc => ?_) (fun hc => ?_)
  · replace hf := pw_ifp hc hf
    exact t_X6_sortBySize_46 hC   hw (lv_sub hl [0] rfl) hf
  · replace hf := pw_ifn hc hf
    refine lv_aload_n hx hb dX6_sortBySize_18 rfl (lv_at hl 0 rfl) ?_
    refine pg_3_2 hC hw mw_156 dX6_sortBySize_19 ?_
    refine lv_iload_n hx hb dX6_sortBySize_22 rfl (lv_at hl 1 rfl) ?_
    obtain ⟨hin, hf⟩ := pw_gd hf
    refine pw_zld hC hw ca_23 hin dX6_sortBySize_23 ?_
    refine lv_if_eq (tgt := 40) hx hb dX6_sortBySize_24 (by decide) (fun hc => ?_) (fun hc => ?_)
    · replace hf := pw_ifp hc hf
      refine lv_iinc (v := (x1 + (1 : Int32))) (lv' := [(1, .int (x1 + (1 : Int32))), (0, .ref (pw_ad G 3))]) hx hb dX6_sortBySize_40 hl (k := 1) rfl rfl (by decide) rfl (fun ls hl => ?_)
      refine lv_goto (tgt := 10) hx hb dX6_sortBySize_43 (by decide) ?_
      exact hk10 _ _ _ _ _ hw (lv_sub hl [1, 0] rfl) hf
    · replace hf := pw_ifn hc hf
      refine lv_aload_n hx hb dX6_sortBySize_27 rfl (lv_at hl 0 rfl) ?_
      refine pg_3_3 hC hw mw_158 dX6_sortBySize_28 ?_
      refine lv_iload_n hx hb dX6_sortBySize_31 rfl (lv_at hl 1 rfl) ?_
      obtain ⟨r1, σ1, h1, hf⟩ := pw_bi_some hf
      refine pw_ci hw (pw_runS (As := [.int x1]) (rest := [.ref (pw_ad G 24)]) hC hw (c_X6_sizeOf  h1) mw_468 wm_X6_sizeOf ⟨Nat.zero_le _, Nat.zero_le _⟩ ⟨rfl, rfl, Nat.le_of_ble_eq_true rfl, Nat.le_of_ble_eq_true rfl⟩ rfl hl.1 rfl (Nat.le_of_ble_eq_true rfl) dX6_sortBySize_32) (fun H locs hw => ?_)
      refine lv_dup2_11 hx hb dX6_sortBySize_35 rfl rfl ?_
      obtain ⟨hin, hf⟩ := pw_gd hf
      refine pw_ild hC hw ca_24 hin dX6_sortBySize_36 ?_
      refine lv_iconst (v := 1) hx hb dX6_sortBySize_37 (by decide) ?_
      refine lv_iadd hx hb dX6_sortBySize_38 ?_
      obtain ⟨hin, hf⟩ := pw_gd hf
      refine pw_ist hC hw ca_24 hin dX6_sortBySize_39 (fun H locs hw => ?_)
      obtain ⟨σ2, e2, hf⟩ := pw_lts hf
      replace hw := pw_WHe e2 hw
      refine lv_iinc (v := (x1 + (1 : Int32))) (lv' := [(1, .int (x1 + (1 : Int32))), (0, .ref (pw_ad G 3))]) hx hb dX6_sortBySize_40 hl (k := 1) rfl rfl (by decide) rfl (fun ls hl => ?_)
      refine lv_goto (tgt := 10) hx hb dX6_sortBySize_43 (by decide) ?_
      exact hk10 _ _ _ _ _ hw (lv_sub hl [1, 0] rfl) hf
set_option maxHeartbeats 4000000 in
theorem tl_X6_sortBySize_10 (hC : pw_CX G RX6 cX6_sortBySize 3 none p s m args meth c) {τ : pw_St} : ∀ (n : Nat) (x1 : Int32) (σ : pw_St) (H : Heap) (locs : List Loc) (ls : Array Slot), pw_WH G σ s.heap H locs → lv_has ls 3 [(0, .ref (pw_ad G 3)), (1, .int x1)] → l_X6_sortBySize_10  n x1 σ = some τ → W p l e rm_X6_sortBySize s m args below meth c H locs 0 0 (MQ below (pw_Qv G τ) args s 0 0 (pw_gA G)) (F0 m 10 ls []) := by
  intro n
  induction n with
  | zero => intro x1 σ H locs ls hw hl hf; cases hf
  | succ n ih => intro x1 σ H locs ls hw hl hf; exact t_X6_sortBySize_10 hC ih  hw hl hf
set_option maxHeartbeats 4000000 in
set_option maxRecDepth 100000 in
theorem c_X6_sortBySize {l : Launch} {G : pw_Gh} {σ : pw_St} {τ : pw_St} (hf : f_X6_sortBySize σ = some τ) : Met l yX6_sortBySize (.code yX6_sortBySize cX6_sortBySize 3 none :: pw_BW) rm_X6_sortBySize (pw_Pc G [.ref (pw_ad G 3)] σ) (pw_Qv G τ) 0 0 (pw_gA G) := by
  refine pw_met (by decide +kernel) (Nat.le_of_ble_eq_true rfl) ?_
  intro p e s m args below meth c ls hC hw hl
  replace hl : lv_has ls 3 [(0, .ref (pw_ad G 3))] := hl
  have hx := hC.1
  have hb := hC.2.1
  unfold f_X6_sortBySize at hf
  refine lv_aload_n hx hb dX6_sortBySize_0 rfl (lv_at hl 0 rfl) ?_
  refine pg_3_3 hC hw mw_158 dX6_sortBySize_1 ?_
  refine lv_iconst (v := 0) hx hb dX6_sortBySize_4 (by decide) ?_
  obtain ⟨σ1, h1, hf⟩ := pw_bv_some hf
  refine pw_cv hw (pw_runS (As := [.ref (pw_ad G 24), .int (0 : Int32)]) (rest := []) hC hw (c_J7_fill_53178  h1) mw_465 wm_J7_fill_53178 ⟨Nat.zero_le _, Nat.zero_le _⟩ ⟨rfl, rfl, Nat.le_of_ble_eq_true rfl, Nat.le_of_ble_eq_true rfl⟩ rfl hl.1 rfl (Nat.le_of_ble_eq_true rfl) dX6_sortBySize_5) (fun H locs hw => ?_)
  refine lv_iconst (v := 0) hx hb dX6_sortBySize_8 (by decide) ?_
  refine lv_istore_n (lv' := [(1, .int (0 : Int32)), (0, .ref (pw_ad G 3))]) hx hb dX6_sortBySize_9 rfl hl (by decide) rfl (fun ls hl => ?_)
  exact tl_X6_sortBySize_10 hC  pw_FU _ _ _ _ _ hw (lv_sub hl [1, 0] rfl) hf
end PM
