section PM
variable {p : Program} {l : Launch} {e : Env} {s : State} {m : MethodId} {args : Array Value} {below : List Frame} {meth : Method} {c : Code} {G : pw_Gh}
-- PerhapsWasModel isPossible
def b_X11_isPossible_29 (k12 : Int32 → Int32 → pw_St → Option (Int32 × pw_St)) (k29 : Int32 → Int32 → Int32 → Int32 → pw_St → Option (Int32 × pw_St)) (x1 : Int32) (x2 : Int32) (x3 : Int32) (x4 : Int32) (σ : pw_St) : Option (Int32 × pw_St) := (if (σ.1 10 1) ≤ x4 then (k12 x1 (x2 + (1 : Int32)) σ) else (if x3 ≤ 0 then (k12 x1 (x2 + (1 : Int32)) σ) else (if pw_in (((4 : Int32) * ((((6 : Int32) * x2) + x3) - (1 : Int32))) + x4) 96 = true then (pw_bi (f_X11_part x1 x4 σ) fun r1 σ1 => (if (σ.1 39 (((4 : Int32) * ((((6 : Int32) * x2) + x3) - (1 : Int32))) + x4).toNatClampNeg) ≤ r1 then (k29 x1 x2 x3 (x4 + (1 : Int32)) σ1) else (if pw_isb (0 : Int32) = true then some ((0 : Int32), σ1) else none))) else none)))
def l_X11_isPossible_29 (k12 : Int32 → Int32 → pw_St → Option (Int32 × pw_St)) : Nat → Int32 → Int32 → Int32 → Int32 → pw_St → Option (Int32 × pw_St)
  | 0 => fun _ _ _ _ _ => none
  | n + 1 => fun x1 x2 x3 x4 σ => b_X11_isPossible_29 k12 (l_X11_isPossible_29 k12 n) x1 x2 x3 x4 σ
def b_X11_isPossible_12 (k12 : Int32 → Int32 → pw_St → Option (Int32 × pw_St)) (x1 : Int32) (x2 : Int32) (σ : pw_St) : Option (Int32 × pw_St) := (if (σ.1 10 1) ≤ x2 then (if pw_isb (1 : Int32) = true then some ((1 : Int32), σ) else none) else (pw_bi (f_X11_part x1 x2 σ) fun r1 σ1 => (l_X11_isPossible_29 k12 pw_FU x1 x2 r1 (0 : Int32) σ1)))
def l_X11_isPossible_12 : Nat → Int32 → Int32 → pw_St → Option (Int32 × pw_St)
  | 0 => fun _ _ _ => none
  | n + 1 => fun x1 x2 σ => b_X11_isPossible_12  (l_X11_isPossible_12  n) x1 x2 σ
def f_X11_isPossible (x1 : Int32) (σ : pw_St) : Option (Int32 × pw_St) := (pw_bi (f_X11_isCut x1 σ) fun r1 σ1 => (if r1 = 0 then (if pw_isb (0 : Int32) = true then some ((0 : Int32), σ1) else none) else (l_X11_isPossible_12  pw_FU x1 (0 : Int32) σ1)))
def rm_X11_isPossible : Room := { frames := 3, cells := 0, slots := 0, locals := 63 }
set_option maxHeartbeats 4000000 in
set_option maxRecDepth 100000 in
theorem t_X11_isPossible_29 (hC : pw_CX G RX11 cX11_isPossible 5 (some .boolean) p s m args meth c) {k12 : Int32 → Int32 → pw_St → Option (Int32 × pw_St)} {k29 : Int32 → Int32 → Int32 → Int32 → pw_St → Option (Int32 × pw_St)} {r : Int32} {τ : pw_St} (hk12 : ∀ (x1 : Int32), ∀ (x2 : Int32), ∀ (σ : pw_St) (H : Heap) (locs : List Loc) (ls : Array Slot), pw_WH G σ s.heap H locs → lv_has ls 5 [(0, .ref (pw_ad G 10)), (1, .int x1), (2, .int x2)] → k12 x1 x2 σ = some (r, τ) → W p l e rm_X11_isPossible s m args below meth c H locs 0 0 (MQ below (pw_Qi G r τ) args s 0 0 (pw_gA G)) (F0 m 12 ls [])) (hk29 : ∀ (x1 : Int32), ∀ (x2 : Int32), ∀ (x3 : Int32), ∀ (x4 : Int32), ∀ (σ : pw_St) (H : Heap) (locs : List Loc) (ls : Array Slot), pw_WH G σ s.heap H locs → lv_has ls 5 [(0, .ref (pw_ad G 10)), (1, .int x1), (2, .int x2), (3, .int x3), (4, .int x4)] → k29 x1 x2 x3 x4 σ = some (r, τ) → W p l e rm_X11_isPossible s m args below meth c H locs 0 0 (MQ below (pw_Qi G r τ) args s 0 0 (pw_gA G)) (F0 m 29 ls [])) {x1 : Int32} {x2 : Int32} {x3 : Int32} {x4 : Int32} {σ : pw_St} {H : Heap} {locs : List Loc} {ls : Array Slot} (hw : pw_WH G σ s.heap H locs) (hl : lv_has ls 5 [(0, .ref (pw_ad G 10)), (1, .int x1), (2, .int x2), (3, .int x3), (4, .int x4)]) (hf : b_X11_isPossible_29 k12 k29 x1 x2 x3 x4 σ = some (r, τ)) : W p l e rm_X11_isPossible s m args below meth c H locs 0 0 (MQ below (pw_Qi G r τ) args s 0 0 (pw_gA G)) (F0 m 29 ls []) := by
  have hx := hC.1
  have hb := hC.2.1
  unfold b_X11_isPossible_29 at hf
  refine lv_iload hx hb dX11_isPossible_29 (lv_at hl 4 rfl) ?_
  refine lv_aload_n hx hb dX11_isPossible_31 rfl (lv_at hl 0 rfl) ?_
  refine pg_10_1 hC hw mw_750 dX11_isPossible_32 ?_
  refine lv_icmp_ge (tgt := 77) hx hb dX11_isPossible_35 (by decide) (fun hc => ?_) (fun hc => ?_)
  · replace hf := pw_ifp hc hf
    refine lv_iinc (v := (x2 + (1 : Int32))) (lv' := [(2, .int (x2 + (1 : Int32))), (0, .ref (pw_ad G 10)), (1, .int x1), (3, .int x3), (4, .int x4)]) hx hb dX11_isPossible_77 hl (k := 2) rfl rfl (by decide) rfl (fun ls hl => ?_)
    refine lv_goto (tgt := 12) hx hb dX11_isPossible_80 (by decide) ?_
    exact hk12 _ _ _ _ _ _ hw (lv_sub hl [1, 2, 0] rfl) hf
  · replace hf := pw_ifn hc hf
    refine lv_iload_n hx hb dX11_isPossible_38 rfl (lv_at hl 3 rfl) ?_
    refine lv_if_le (tgt := 77) hx hb dX11_isPossible_39 (by decide) (fun hc => ?_) (fun hc => ?_)
    · replace hf := pw_ifp hc hf
      refine lv_iinc (v := (x2 + (1 : Int32))) (lv' := [(2, .int (x2 + (1 : Int32))), (0, .ref (pw_ad G 10)), (1, .int x1), (3, .int x3), (4, .int x4)]) hx hb dX11_isPossible_77 hl (k := 2) rfl rfl (by decide) rfl (fun ls hl => ?_)
      refine lv_goto (tgt := 12) hx hb dX11_isPossible_80 (by decide) ?_
      exact hk12 _ _ _ _ _ _ hw (lv_sub hl [1, 2, 0] rfl) hf
    · replace hf := pw_ifn hc hf
      refine lv_aload_n hx hb dX11_isPossible_42 rfl (lv_at hl 0 rfl) ?_
      refine pg_10_7 hC hw mw_756 dX11_isPossible_43 ?_
      refine lv_iconst (v := 4) hx hb dX11_isPossible_46 (by decide) ?_
      refine lv_bipush (v := 6) hx hb dX11_isPossible_47 (by decide) ?_
      refine lv_iload_n hx hb dX11_isPossible_49 rfl (lv_at hl 2 rfl) ?_
      refine lv_imul hx hb dX11_isPossible_50 ?_
      refine lv_iload_n hx hb dX11_isPossible_51 rfl (lv_at hl 3 rfl) ?_
      refine lv_iadd hx hb dX11_isPossible_52 ?_
      refine lv_iconst (v := 1) hx hb dX11_isPossible_53 (by decide) ?_
      refine lv_isub hx hb dX11_isPossible_54 ?_
      refine lv_imul hx hb dX11_isPossible_55 ?_
      refine lv_iload hx hb dX11_isPossible_56 (lv_at hl 4 rfl) ?_
      refine lv_iadd hx hb dX11_isPossible_58 ?_
      obtain ⟨hin, hf⟩ := pw_gd hf
      refine pw_ild hC hw ca_39 hin dX11_isPossible_59 ?_
      refine lv_iload_n hx hb dX11_isPossible_60 rfl (lv_at hl 1 rfl) ?_
      refine lv_iload hx hb dX11_isPossible_61 (lv_at hl 4 rfl) ?_
      obtain ⟨r1, σ1, h1, hf⟩ := pw_bi_some hf
      refine pw_ci hw (pw_runS (As := [.int x1, .int x4]) (rest := [.int (σ.1 39 (((4 : Int32) * ((((6 : Int32) * x2) + x3) - (1 : Int32))) + x4).toNatClampNeg)]) hC hw (c_X11_part  h1) mw_901 wm_X11_part ⟨Nat.zero_le _, Nat.zero_le _⟩ ⟨rfl, rfl, Nat.le_of_ble_eq_true rfl, Nat.le_of_ble_eq_true rfl⟩ rfl hl.1 rfl (Nat.le_of_ble_eq_true rfl) dX11_isPossible_63) (fun H locs hw => ?_)
      refine lv_icmp_le (tgt := 71) hx hb dX11_isPossible_66 (by decide) (fun hc => ?_) (fun hc => ?_)
      · replace hf := pw_ifp hc hf
        refine lv_iinc (v := (x4 + (1 : Int32))) (lv' := [(4, .int (x4 + (1 : Int32))), (0, .ref (pw_ad G 10)), (1, .int x1), (2, .int x2), (3, .int x3)]) hx hb dX11_isPossible_71 hl (k := 4) rfl rfl (by decide) rfl (fun ls hl => ?_)
        refine lv_goto (tgt := 29) hx hb dX11_isPossible_74 (by decide) ?_
        exact hk29 _ _ _ _ _ _ _ _ hw (lv_sub hl [1, 2, 3, 4, 0] rfl) hf
      · replace hf := pw_ifn hc hf
        refine lv_iconst (v := 0) hx hb dX11_isPossible_69 (by decide) ?_
        exact pw_zret hC hw hf dX11_isPossible_70
set_option maxHeartbeats 4000000 in
theorem tl_X11_isPossible_29 (hC : pw_CX G RX11 cX11_isPossible 5 (some .boolean) p s m args meth c) {k12 : Int32 → Int32 → pw_St → Option (Int32 × pw_St)} {r : Int32} {τ : pw_St} (hk12 : ∀ (x1 : Int32), ∀ (x2 : Int32), ∀ (σ : pw_St) (H : Heap) (locs : List Loc) (ls : Array Slot), pw_WH G σ s.heap H locs → lv_has ls 5 [(0, .ref (pw_ad G 10)), (1, .int x1), (2, .int x2)] → k12 x1 x2 σ = some (r, τ) → W p l e rm_X11_isPossible s m args below meth c H locs 0 0 (MQ below (pw_Qi G r τ) args s 0 0 (pw_gA G)) (F0 m 12 ls [])) : ∀ (n : Nat) (x1 : Int32) (x2 : Int32) (x3 : Int32) (x4 : Int32) (σ : pw_St) (H : Heap) (locs : List Loc) (ls : Array Slot), pw_WH G σ s.heap H locs → lv_has ls 5 [(0, .ref (pw_ad G 10)), (1, .int x1), (2, .int x2), (3, .int x3), (4, .int x4)] → l_X11_isPossible_29 k12 n x1 x2 x3 x4 σ = some (r, τ) → W p l e rm_X11_isPossible s m args below meth c H locs 0 0 (MQ below (pw_Qi G r τ) args s 0 0 (pw_gA G)) (F0 m 29 ls []) := by
  intro n
  induction n with
  | zero => intro x1 x2 x3 x4 σ H locs ls hw hl hf; cases hf
  | succ n ih => intro x1 x2 x3 x4 σ H locs ls hw hl hf; exact t_X11_isPossible_29 hC hk12 ih  hw hl hf
set_option maxHeartbeats 4000000 in
set_option maxRecDepth 100000 in
theorem t_X11_isPossible_12 (hC : pw_CX G RX11 cX11_isPossible 5 (some .boolean) p s m args meth c) {k12 : Int32 → Int32 → pw_St → Option (Int32 × pw_St)} {r : Int32} {τ : pw_St} (hk12 : ∀ (x1 : Int32), ∀ (x2 : Int32), ∀ (σ : pw_St) (H : Heap) (locs : List Loc) (ls : Array Slot), pw_WH G σ s.heap H locs → lv_has ls 5 [(0, .ref (pw_ad G 10)), (1, .int x1), (2, .int x2)] → k12 x1 x2 σ = some (r, τ) → W p l e rm_X11_isPossible s m args below meth c H locs 0 0 (MQ below (pw_Qi G r τ) args s 0 0 (pw_gA G)) (F0 m 12 ls [])) {x1 : Int32} {x2 : Int32} {σ : pw_St} {H : Heap} {locs : List Loc} {ls : Array Slot} (hw : pw_WH G σ s.heap H locs) (hl : lv_has ls 5 [(0, .ref (pw_ad G 10)), (1, .int x1), (2, .int x2)]) (hf : b_X11_isPossible_12 k12 x1 x2 σ = some (r, τ)) : W p l e rm_X11_isPossible s m args below meth c H locs 0 0 (MQ below (pw_Qi G r τ) args s 0 0 (pw_gA G)) (F0 m 12 ls []) := by
  have hx := hC.1
  have hb := hC.2.1
  unfold b_X11_isPossible_12 at hf
  refine lv_iload_n hx hb dX11_isPossible_12 rfl (lv_at hl 2 rfl) ?_
  refine lv_aload_n hx hb dX11_isPossible_13 rfl (lv_at hl 0 rfl) ?_
  refine pg_10_1 hC hw mw_750 dX11_isPossible_14 ?_
  refine lv_icmp_ge (tgt := 83) hx hb dX11_isPossible_17 (by decide) (fun hc => ?_) (fun hc => ?_)
  · replace hf := pw_ifp hc hf
    refine lv_iconst (v := 1) hx hb dX11_isPossible_83 (by decide) ?_
    exact pw_zret hC hw hf dX11_isPossible_84
  · replace hf := pw_ifn hc hf
    refine lv_iload_n hx hb dX11_isPossible_20 rfl (lv_at hl 1 rfl) ?_
    refine lv_iload_n hx hb dX11_isPossible_21 rfl (lv_at hl 2 rfl) ?_
    obtain ⟨r1, σ1, h1, hf⟩ := pw_bi_some hf
    refine pw_ci hw (pw_runS (As := [.int x1, .int x2]) (rest := []) hC hw (c_X11_part  h1) mw_901 wm_X11_part ⟨Nat.zero_le _, Nat.zero_le _⟩ ⟨rfl, rfl, Nat.le_of_ble_eq_true rfl, Nat.le_of_ble_eq_true rfl⟩ rfl hl.1 rfl (Nat.le_of_ble_eq_true rfl) dX11_isPossible_22) (fun H locs hw => ?_)
    refine lv_istore_n (lv' := [(3, .int r1), (0, .ref (pw_ad G 10)), (1, .int x1), (2, .int x2)]) hx hb dX11_isPossible_25 rfl hl (by decide) rfl (fun ls hl => ?_)
    refine lv_iconst (v := 0) hx hb dX11_isPossible_26 (by decide) ?_
    refine lv_istore (lv' := [(4, .int (0 : Int32)), (3, .int r1), (0, .ref (pw_ad G 10)), (1, .int x1), (2, .int x2)]) hx hb dX11_isPossible_27 hl (by decide) rfl (fun ls hl => ?_)
    exact tl_X11_isPossible_29 hC hk12 pw_FU _ _ _ _ _ _ _ _ hw (lv_sub hl [2, 3, 4, 1, 0] rfl) hf
set_option maxHeartbeats 4000000 in
theorem tl_X11_isPossible_12 (hC : pw_CX G RX11 cX11_isPossible 5 (some .boolean) p s m args meth c) {r : Int32} {τ : pw_St} : ∀ (n : Nat) (x1 : Int32) (x2 : Int32) (σ : pw_St) (H : Heap) (locs : List Loc) (ls : Array Slot), pw_WH G σ s.heap H locs → lv_has ls 5 [(0, .ref (pw_ad G 10)), (1, .int x1), (2, .int x2)] → l_X11_isPossible_12  n x1 x2 σ = some (r, τ) → W p l e rm_X11_isPossible s m args below meth c H locs 0 0 (MQ below (pw_Qi G r τ) args s 0 0 (pw_gA G)) (F0 m 12 ls []) := by
  intro n
  induction n with
  | zero => intro x1 x2 σ H locs ls hw hl hf; cases hf
  | succ n ih => intro x1 x2 σ H locs ls hw hl hf; exact t_X11_isPossible_12 hC ih  hw hl hf
set_option maxHeartbeats 4000000 in
set_option maxRecDepth 100000 in
theorem c_X11_isPossible {l : Launch} {G : pw_Gh} {x1 : Int32} {σ : pw_St} {r : Int32} {τ : pw_St} (hf : f_X11_isPossible x1 σ = some (r, τ)) : Met l yX11_isPossible (.code yX11_isPossible cX11_isPossible 5 (some .boolean) :: pw_BW) rm_X11_isPossible (pw_Pc G [.ref (pw_ad G 10), .int x1] σ) (pw_Qi G r τ) 0 0 (pw_gA G) := by
  refine pw_met (by decide +kernel) (Nat.le_of_ble_eq_true rfl) ?_
  intro p e s m args below meth c ls hC hw hl
  replace hl : lv_has ls 5 [(0, .ref (pw_ad G 10)), (1, .int x1)] := hl
  have hx := hC.1
  have hb := hC.2.1
  unfold f_X11_isPossible at hf
  refine lv_aload_n hx hb dX11_isPossible_0 rfl (lv_at hl 0 rfl) ?_
  refine lv_iload_n hx hb dX11_isPossible_1 rfl (lv_at hl 1 rfl) ?_
  obtain ⟨r1, σ1, h1, hf⟩ := pw_bi_some hf
  refine pw_ci hw (pw_runV (As := [.int x1]) (rest := []) hC hw (c_X11_isCut  h1) mw_897 wm_X11_isCut ⟨Nat.zero_le _, Nat.zero_le _⟩ ⟨rfl, rfl, Nat.le_of_ble_eq_true rfl, Nat.le_of_ble_eq_true rfl⟩ (by decide) rfl rfl rfl hl.1 rfl (Nat.le_of_ble_eq_true rfl) dX11_isPossible_2) (fun H locs hw => ?_)
  refine lv_if_ne (tgt := 10) hx hb dX11_isPossible_5 (by decide) (fun hc => ?_) (fun hc => ?_)
  · replace hf := pw_ifn hc hf
    refine lv_iconst (v := 0) hx hb dX11_isPossible_10 (by decide) ?_
    refine lv_istore_n (lv' := [(2, .int (0 : Int32)), (0, .ref (pw_ad G 10)), (1, .int x1)]) hx hb dX11_isPossible_11 rfl hl (by decide) rfl (fun ls hl => ?_)
    exact tl_X11_isPossible_12 hC  pw_FU _ _ _ _ _ _ hw (lv_sub hl [1, 2, 0] rfl) hf
  · replace hf := pw_ifp hc hf
    refine lv_iconst (v := 0) hx hb dX11_isPossible_8 (by decide) ?_
    exact pw_zret hC hw hf dX11_isPossible_9
-- PerhapsWasModel whole
def b_X11_whole_4 (k4 : Int32 → Int32 → pw_St → Option (Int32 × pw_St)) (x1 : Int32) (x2 : Int32) (σ : pw_St) : Option (Int32 × pw_St) := (if (σ.1 10 1) ≤ x2 then (some (x1, σ)) else (pw_bi (f_X11_unit x2 σ) fun r1 σ1 => (if pw_in x2 4 = true then (k4 (x1 + (r1 * (σ1.1 34 x2.toNatClampNeg))) (x2 + (1 : Int32)) σ1) else none)))
def l_X11_whole_4 : Nat → Int32 → Int32 → pw_St → Option (Int32 × pw_St)
  | 0 => fun _ _ _ => none
  | n + 1 => fun x1 x2 σ => b_X11_whole_4  (l_X11_whole_4  n) x1 x2 σ
def f_X11_whole (σ : pw_St) : Option (Int32 × pw_St) := (l_X11_whole_4  pw_FU (0 : Int32) (0 : Int32) σ)
def rm_X11_whole : Room := { frames := 1, cells := 0, slots := 0, locals := 20 }
set_option maxHeartbeats 4000000 in
set_option maxRecDepth 100000 in
theorem t_X11_whole_4 (hC : pw_CX G RX11 cX11_whole 3 (some .int) p s m args meth c) {k4 : Int32 → Int32 → pw_St → Option (Int32 × pw_St)} {r : Int32} {τ : pw_St} (hk4 : ∀ (x1 : Int32), ∀ (x2 : Int32), ∀ (σ : pw_St) (H : Heap) (locs : List Loc) (ls : Array Slot), pw_WH G σ s.heap H locs → lv_has ls 3 [(0, .ref (pw_ad G 10)), (1, .int x1), (2, .int x2)] → k4 x1 x2 σ = some (r, τ) → W p l e rm_X11_whole s m args below meth c H locs 0 0 (MQ below (pw_Qi G r τ) args s 0 0 (pw_gA G)) (F0 m 4 ls [])) {x1 : Int32} {x2 : Int32} {σ : pw_St} {H : Heap} {locs : List Loc} {ls : Array Slot} (hw : pw_WH G σ s.heap H locs) (hl : lv_has ls 3 [(0, .ref (pw_ad G 10)), (1, .int x1), (2, .int x2)]) (hf : b_X11_whole_4 k4 x1 x2 σ = some (r, τ)) : W p l e rm_X11_whole s m args below meth c H locs 0 0 (MQ below (pw_Qi G r τ) args s 0 0 (pw_gA G)) (F0 m 4 ls []) := by
  have hx := hC.1
  have hb := hC.2.1
  unfold b_X11_whole_4 at hf
  refine lv_iload_n hx hb dX11_whole_4 rfl (lv_at hl 2 rfl) ?_
  refine lv_aload_n hx hb dX11_whole_5 rfl (lv_at hl 0 rfl) ?_
  refine pg_10_1 hC hw mw_750 dX11_whole_6 ?_
  refine lv_icmp_ge (tgt := 32) hx hb dX11_whole_9 (by decide) (fun hc => ?_) (fun hc => ?_)
  · replace hf := pw_ifp hc hf
    refine lv_iload_n hx hb dX11_whole_32 rfl (lv_at hl 1 rfl) ?_
    exact pw_iret hC hw hf dX11_whole_33
  · replace hf := pw_ifn hc hf
    refine lv_iload_n hx hb dX11_whole_12 rfl (lv_at hl 1 rfl) ?_
    refine lv_iload_n hx hb dX11_whole_13 rfl (lv_at hl 2 rfl) ?_
    obtain ⟨r1, σ1, h1, hf⟩ := pw_bi_some hf
    refine pw_ci hw (pw_runS (As := [.int x2]) (rest := [.int x1]) hC hw (c_X11_unit  h1) mw_904 wm_X11_unit ⟨Nat.zero_le _, Nat.zero_le _⟩ ⟨rfl, rfl, Nat.le_of_ble_eq_true rfl, Nat.le_of_ble_eq_true rfl⟩ rfl hl.1 rfl (Nat.le_of_ble_eq_true rfl) dX11_whole_14) (fun H locs hw => ?_)
    refine lv_aload_n hx hb dX11_whole_17 rfl (lv_at hl 0 rfl) ?_
    refine pg_10_2 hC hw mw_751 dX11_whole_18 ?_
    refine lv_iload_n hx hb dX11_whole_21 rfl (lv_at hl 2 rfl) ?_
    obtain ⟨hin, hf⟩ := pw_gd hf
    refine pw_ild hC hw ca_34 hin dX11_whole_22 ?_
    refine lv_imul hx hb dX11_whole_23 ?_
    refine lv_iadd hx hb dX11_whole_24 ?_
    refine lv_istore_n (lv' := [(1, .int (x1 + (r1 * (σ1.1 34 x2.toNatClampNeg)))), (0, .ref (pw_ad G 10)), (2, .int x2)]) hx hb dX11_whole_25 rfl hl (by decide) rfl (fun ls hl => ?_)
    refine lv_iinc (v := (x2 + (1 : Int32))) (lv' := [(2, .int (x2 + (1 : Int32))), (1, .int (x1 + (r1 * (σ1.1 34 x2.toNatClampNeg)))), (0, .ref (pw_ad G 10))]) hx hb dX11_whole_26 hl (k := 2) rfl rfl (by decide) rfl (fun ls hl => ?_)
    refine lv_goto (tgt := 4) hx hb dX11_whole_29 (by decide) ?_
    exact hk4 _ _ _ _ _ _ hw (lv_sub hl [2, 1, 0] rfl) hf
set_option maxHeartbeats 4000000 in
theorem tl_X11_whole_4 (hC : pw_CX G RX11 cX11_whole 3 (some .int) p s m args meth c) {r : Int32} {τ : pw_St} : ∀ (n : Nat) (x1 : Int32) (x2 : Int32) (σ : pw_St) (H : Heap) (locs : List Loc) (ls : Array Slot), pw_WH G σ s.heap H locs → lv_has ls 3 [(0, .ref (pw_ad G 10)), (1, .int x1), (2, .int x2)] → l_X11_whole_4  n x1 x2 σ = some (r, τ) → W p l e rm_X11_whole s m args below meth c H locs 0 0 (MQ below (pw_Qi G r τ) args s 0 0 (pw_gA G)) (F0 m 4 ls []) := by
  intro n
  induction n with
  | zero => intro x1 x2 σ H locs ls hw hl hf; cases hf
  | succ n ih => intro x1 x2 σ H locs ls hw hl hf; exact t_X11_whole_4 hC ih  hw hl hf
set_option maxHeartbeats 4000000 in
set_option maxRecDepth 100000 in
theorem c_X11_whole {l : Launch} {G : pw_Gh} {σ : pw_St} {r : Int32} {τ : pw_St} (hf : f_X11_whole σ = some (r, τ)) : Met l yX11_whole (.code yX11_whole cX11_whole 3 (some .int) :: pw_BW) rm_X11_whole (pw_Pc G [.ref (pw_ad G 10)] σ) (pw_Qi G r τ) 0 0 (pw_gA G) := by
  refine pw_met (by decide +kernel) (Nat.le_of_ble_eq_true rfl) ?_
  intro p e s m args below meth c ls hC hw hl
  replace hl : lv_has ls 3 [(0, .ref (pw_ad G 10))] := hl
  have hx := hC.1
  have hb := hC.2.1
  unfold f_X11_whole at hf
  refine lv_iconst (v := 0) hx hb dX11_whole_0 (by decide) ?_
  refine lv_istore_n (lv' := [(1, .int (0 : Int32)), (0, .ref (pw_ad G 10))]) hx hb dX11_whole_1 rfl hl (by decide) rfl (fun ls hl => ?_)
  refine lv_iconst (v := 0) hx hb dX11_whole_2 (by decide) ?_
  refine lv_istore_n (lv' := [(2, .int (0 : Int32)), (1, .int (0 : Int32)), (0, .ref (pw_ad G 10))]) hx hb dX11_whole_3 rfl hl (by decide) rfl (fun ls hl => ?_)
  exact tl_X11_whole_4 hC  pw_FU _ _ _ _ _ _ hw (lv_sub hl [2, 1, 0] rfl) hf
-- PerhapsWasModel possible
def f_X11_possible (x1 : Int32) (σ : pw_St) : Option (Int32 × pw_St) := (pw_bi (f_X11_isCut x1 σ) fun r1 σ1 => (if r1 = 0 then (some ((-1 : Int32), σ1)) else (pw_bi (f_X11_isPossible x1 σ1) fun r2 σ2 => (if r2 = 0 then (some ((0 : Int32), σ2)) else (some ((1 : Int32), σ2))))))
def rm_X11_possible : Room := { frames := 4, cells := 0, slots := 0, locals := 87 }
set_option maxHeartbeats 4000000 in
set_option maxRecDepth 100000 in
theorem c_X11_possible {l : Launch} {G : pw_Gh} {x1 : Int32} {σ : pw_St} {r : Int32} {τ : pw_St} (hf : f_X11_possible x1 σ = some (r, τ)) : Met l yX11_possible (.code yX11_possible cX11_possible 2 (some .int) :: pw_BW) rm_X11_possible (pw_Pc G [.ref (pw_ad G 10), .int x1] σ) (pw_Qi G r τ) 0 0 (pw_gA G) := by
  refine pw_met (by decide +kernel) (Nat.le_of_ble_eq_true rfl) ?_
  intro p e s m args below meth c ls hC hw hl
  replace hl : lv_has ls 2 [(0, .ref (pw_ad G 10)), (1, .int x1)] := hl
  have hx := hC.1
  have hb := hC.2.1
  unfold f_X11_possible at hf
  refine lv_aload_n hx hb dX11_possible_0 rfl (lv_at hl 0 rfl) ?_
  refine lv_iload_n hx hb dX11_possible_1 rfl (lv_at hl 1 rfl) ?_
  obtain ⟨r1, σ1, h1, hf⟩ := pw_bi_some hf
  refine pw_ci hw (pw_runV (As := [.int x1]) (rest := []) hC hw (c_X11_isCut  h1) mw_897 wm_X11_isCut ⟨Nat.zero_le _, Nat.zero_le _⟩ ⟨rfl, rfl, Nat.le_of_ble_eq_true rfl, Nat.le_of_ble_eq_true rfl⟩ (by decide) rfl rfl rfl hl.1 rfl (Nat.le_of_ble_eq_true rfl) dX11_possible_2) (fun H locs hw => ?_)
  refine lv_if_ne (tgt := 12) hx hb dX11_possible_5 (by decide) (fun hc => ?_) (fun hc => ?_)
  · replace hf := pw_ifn hc hf
    refine lv_aload_n hx hb dX11_possible_12 rfl (lv_at hl 0 rfl) ?_
    refine lv_iload_n hx hb dX11_possible_13 rfl (lv_at hl 1 rfl) ?_
    obtain ⟨r2, σ2, h2, hf⟩ := pw_bi_some hf
    refine pw_ci hw (pw_runV (As := [.int x1]) (rest := []) hC hw (c_X11_isPossible  h2) mw_907 wm_X11_isPossible ⟨Nat.zero_le _, Nat.zero_le _⟩ ⟨rfl, rfl, Nat.le_of_ble_eq_true rfl, Nat.le_of_ble_eq_true rfl⟩ (by decide) rfl rfl rfl hl.1 rfl (Nat.le_of_ble_eq_true rfl) dX11_possible_14) (fun H locs hw => ?_)
    refine lv_if_eq (tgt := 24) hx hb dX11_possible_17 (by decide) (fun hc => ?_) (fun hc => ?_)
    · replace hf := pw_ifp hc hf
      refine lv_iconst (v := 0) hx hb dX11_possible_24 (by decide) ?_
      exact pw_iret hC hw hf dX11_possible_25
    · replace hf := pw_ifn hc hf
      refine lv_iconst (v := 1) hx hb dX11_possible_20 (by decide) ?_
      refine lv_goto (tgt := 25) hx hb dX11_possible_21 (by decide) ?_
      exact pw_iret hC hw hf dX11_possible_25
  · replace hf := pw_ifp hc hf
    refine lv_iconst (v := -1) hx hb dX11_possible_8 (by decide) ?_
    refine lv_goto (tgt := 25) hx hb dX11_possible_9 (by decide) ?_
    exact pw_iret hC hw hf dX11_possible_25
-- PerhapsWasModel cuts
def b_X11_cuts_46 (k12 : Int32 → Int32 → Int32 → pw_St → Option (Int32 × pw_St)) (x1 : Int32) (x3 : Int32) (y0 : Int32) (y1 : Int32) (σ : pw_St) : Option (Int32 × pw_St) := (k12 x1 (y1 + y0) (x3 + (1 : Int32)) σ)
def b_X11_cuts_45 (k12 : Int32 → Int32 → Int32 → pw_St → Option (Int32 × pw_St)) (x1 : Int32) (x3 : Int32) (y0 : Int32) (σ : pw_St) : Option (Int32 × pw_St) := (b_X11_cuts_46 k12 x1 x3 (0 : Int32) y0 σ)
def b_X11_cuts_41 (k12 : Int32 → Int32 → Int32 → pw_St → Option (Int32 × pw_St)) (x1 : Int32) (x3 : Int32) (y0 : Int32) (σ : pw_St) : Option (Int32 × pw_St) := (b_X11_cuts_46 k12 x1 x3 (1 : Int32) y0 σ)
def b_X11_cuts_12 (k12 : Int32 → Int32 → Int32 → pw_St → Option (Int32 × pw_St)) (x1 : Int32) (x2 : Int32) (x3 : Int32) (σ : pw_St) : Option (Int32 × pw_St) := (if (2401 : Int32) ≤ x3 then (some (x2, σ)) else (pw_bi (f_X11_isPossible x3 σ) fun r1 σ1 => (if r1 = 0 then (b_X11_cuts_45 k12 x1 x3 x2 σ1) else (if x1 = (-1 : Int32) then (b_X11_cuts_41 k12 x1 x3 x2 σ1) else (pw_bi (f_X11_sizeOf x3 σ1) fun r2 σ2 => (if r2 = x1 then (b_X11_cuts_41 k12 x1 x3 x2 σ2) else (b_X11_cuts_45 k12 x1 x3 x2 σ2)))))))
def l_X11_cuts_12 : Nat → Int32 → Int32 → Int32 → pw_St → Option (Int32 × pw_St)
  | 0 => fun _ _ _ _ => none
  | n + 1 => fun x1 x2 x3 σ => b_X11_cuts_12  (l_X11_cuts_12  n) x1 x2 x3 σ
def f_X11_cuts (x1 : Int32) (σ : pw_St) : Option (Int32 × pw_St) := (if (-1 : Int32) ≤ x1 then (l_X11_cuts_12  pw_FU x1 (0 : Int32) (0 : Int32) σ) else (some ((-2 : Int32), σ)))
def rm_X11_cuts : Room := { frames := 4, cells := 0, slots := 0, locals := 87 }
set_option maxHeartbeats 4000000 in
set_option maxRecDepth 100000 in
theorem t_X11_cuts_46 (hC : pw_CX G RX11 cX11_cuts 4 (some .int) p s m args meth c) {k12 : Int32 → Int32 → Int32 → pw_St → Option (Int32 × pw_St)} {r : Int32} {τ : pw_St} (hk12 : ∀ (x1 : Int32), ∀ (x2 : Int32), ∀ (x3 : Int32), ∀ (σ : pw_St) (H : Heap) (locs : List Loc) (ls : Array Slot), pw_WH G σ s.heap H locs → lv_has ls 4 [(0, .ref (pw_ad G 10)), (1, .int x1), (2, .int x2), (3, .int x3)] → k12 x1 x2 x3 σ = some (r, τ) → W p l e rm_X11_cuts s m args below meth c H locs 0 0 (MQ below (pw_Qi G r τ) args s 0 0 (pw_gA G)) (F0 m 12 ls [])) {x1 : Int32} {x3 : Int32} {y0 : Int32} {y1 : Int32} {σ : pw_St} {H : Heap} {locs : List Loc} {ls : Array Slot} (hw : pw_WH G σ s.heap H locs) (hl : lv_has ls 4 [(0, .ref (pw_ad G 10)), (1, .int x1), (3, .int x3)]) (hf : b_X11_cuts_46 k12 x1 x3 y0 y1 σ = some (r, τ)) : W p l e rm_X11_cuts s m args below meth c H locs 0 0 (MQ below (pw_Qi G r τ) args s 0 0 (pw_gA G)) (F0 m 46 ls [.int y0, .int y1]) := by
  have hx := hC.1
  have hb := hC.2.1
  unfold b_X11_cuts_46 at hf
  refine lv_iadd hx hb dX11_cuts_46 ?_
  refine lv_istore_n (lv' := [(2, .int (y1 + y0)), (0, .ref (pw_ad G 10)), (1, .int x1), (3, .int x3)]) hx hb dX11_cuts_47 rfl hl (by decide) rfl (fun ls hl => ?_)
  refine lv_iinc (v := (x3 + (1 : Int32))) (lv' := [(3, .int (x3 + (1 : Int32))), (2, .int (y1 + y0)), (0, .ref (pw_ad G 10)), (1, .int x1)]) hx hb dX11_cuts_48 hl (k := 3) rfl rfl (by decide) rfl (fun ls hl => ?_)
  refine lv_goto (tgt := 12) hx hb dX11_cuts_51 (by decide) ?_
  exact hk12 _ _ _ _ _ _ _ hw (lv_sub hl [2, 3, 1, 0] rfl) hf
set_option maxHeartbeats 4000000 in
set_option maxRecDepth 100000 in
theorem t_X11_cuts_45 (hC : pw_CX G RX11 cX11_cuts 4 (some .int) p s m args meth c) {k12 : Int32 → Int32 → Int32 → pw_St → Option (Int32 × pw_St)} {r : Int32} {τ : pw_St} (hk12 : ∀ (x1 : Int32), ∀ (x2 : Int32), ∀ (x3 : Int32), ∀ (σ : pw_St) (H : Heap) (locs : List Loc) (ls : Array Slot), pw_WH G σ s.heap H locs → lv_has ls 4 [(0, .ref (pw_ad G 10)), (1, .int x1), (2, .int x2), (3, .int x3)] → k12 x1 x2 x3 σ = some (r, τ) → W p l e rm_X11_cuts s m args below meth c H locs 0 0 (MQ below (pw_Qi G r τ) args s 0 0 (pw_gA G)) (F0 m 12 ls [])) {x1 : Int32} {x3 : Int32} {y0 : Int32} {σ : pw_St} {H : Heap} {locs : List Loc} {ls : Array Slot} (hw : pw_WH G σ s.heap H locs) (hl : lv_has ls 4 [(0, .ref (pw_ad G 10)), (1, .int x1), (3, .int x3)]) (hf : b_X11_cuts_45 k12 x1 x3 y0 σ = some (r, τ)) : W p l e rm_X11_cuts s m args below meth c H locs 0 0 (MQ below (pw_Qi G r τ) args s 0 0 (pw_gA G)) (F0 m 45 ls [.int y0]) := by
  have hx := hC.1
  have hb := hC.2.1
  unfold b_X11_cuts_45 at hf
  refine lv_iconst (v := 0) hx hb dX11_cuts_45 (by decide) ?_
  exact t_X11_cuts_46 hC hk12  hw (lv_sub hl [0, 1, 2] rfl) hf
set_option maxHeartbeats 4000000 in
set_option maxRecDepth 100000 in
theorem t_X11_cuts_41 (hC : pw_CX G RX11 cX11_cuts 4 (some .int) p s m args meth c) {k12 : Int32 → Int32 → Int32 → pw_St → Option (Int32 × pw_St)} {r : Int32} {τ : pw_St} (hk12 : ∀ (x1 : Int32), ∀ (x2 : Int32), ∀ (x3 : Int32), ∀ (σ : pw_St) (H : Heap) (locs : List Loc) (ls : Array Slot), pw_WH G σ s.heap H locs → lv_has ls 4 [(0, .ref (pw_ad G 10)), (1, .int x1), (2, .int x2), (3, .int x3)] → k12 x1 x2 x3 σ = some (r, τ) → W p l e rm_X11_cuts s m args below meth c H locs 0 0 (MQ below (pw_Qi G r τ) args s 0 0 (pw_gA G)) (F0 m 12 ls [])) {x1 : Int32} {x3 : Int32} {y0 : Int32} {σ : pw_St} {H : Heap} {locs : List Loc} {ls : Array Slot} (hw : pw_WH G σ s.heap H locs) (hl : lv_has ls 4 [(0, .ref (pw_ad G 10)), (1, .int x1), (3, .int x3)]) (hf : b_X11_cuts_41 k12 x1 x3 y0 σ = some (r, τ)) : W p l e rm_X11_cuts s m args below meth c H locs 0 0 (MQ below (pw_Qi G r τ) args s 0 0 (pw_gA G)) (F0 m 41 ls [.int y0]) := by
  have hx := hC.1
  have hb := hC.2.1
  unfold b_X11_cuts_41 at hf
  refine lv_iconst (v := 1) hx hb dX11_cuts_41 (by decide) ?_
  refine lv_goto (tgt := 46) hx hb dX11_cuts_42 (by decide) ?_
  exact t_X11_cuts_46 hC hk12  hw (lv_sub hl [0, 1, 2] rfl) hf
set_option maxHeartbeats 4000000 in
set_option maxRecDepth 100000 in
theorem t_X11_cuts_12 (hC : pw_CX G RX11 cX11_cuts 4 (some .int) p s m args meth c) {k12 : Int32 → Int32 → Int32 → pw_St → Option (Int32 × pw_St)} {r : Int32} {τ : pw_St} (hk12 : ∀ (x1 : Int32), ∀ (x2 : Int32), ∀ (x3 : Int32), ∀ (σ : pw_St) (H : Heap) (locs : List Loc) (ls : Array Slot), pw_WH G σ s.heap H locs → lv_has ls 4 [(0, .ref (pw_ad G 10)), (1, .int x1), (2, .int x2), (3, .int x3)] → k12 x1 x2 x3 σ = some (r, τ) → W p l e rm_X11_cuts s m args below meth c H locs 0 0 (MQ below (pw_Qi G r τ) args s 0 0 (pw_gA G)) (F0 m 12 ls [])) {x1 : Int32} {x2 : Int32} {x3 : Int32} {σ : pw_St} {H : Heap} {locs : List Loc} {ls : Array Slot} (hw : pw_WH G σ s.heap H locs) (hl : lv_has ls 4 [(0, .ref (pw_ad G 10)), (1, .int x1), (2, .int x2), (3, .int x3)]) (hf : b_X11_cuts_12 k12 x1 x2 x3 σ = some (r, τ)) : W p l e rm_X11_cuts s m args below meth c H locs 0 0 (MQ below (pw_Qi G r τ) args s 0 0 (pw_gA G)) (F0 m 12 ls []) := by
  have hx := hC.1
  have hb := hC.2.1
  unfold b_X11_cuts_12 at hf
  refine lv_iload_n hx hb dX11_cuts_12 rfl (lv_at hl 3 rfl) ?_
  refine lv_sipush (v := 2401) hx hb dX11_cuts_13 (by decide) ?_
  refine lv_icmp_ge (tgt := 54) hx hb dX11_cuts_16 (by decide) (fun hc => ?_) (fun hc => ?_)
  · replace hf := pw_ifp hc hf
    refine lv_iload_n hx hb dX11_cuts_54 rfl (lv_at hl 2 rfl) ?_
    exact pw_iret hC hw hf dX11_cuts_55
  · replace hf := pw_ifn hc hf
    refine lv_iload_n hx hb dX11_cuts_19 rfl (lv_at hl 2 rfl) ?_
    refine lv_aload_n hx hb dX11_cuts_20 rfl (lv_at hl 0 rfl) ?_
    refine lv_iload_n hx hb dX11_cuts_21 rfl (lv_at hl 3 rfl) ?_
    obtain ⟨r1, σ1, h1, hf⟩ := pw_bi_some hf
    refine pw_ci hw (pw_runV (As := [.int x3]) (rest := [.int x2]) hC hw (c_X11_isPossible  h1) mw_907 wm_X11_isPossible ⟨Nat.zero_le _, Nat.zero_le _⟩ ⟨rfl, rfl, Nat.le_of_ble_eq_true rfl, Nat.le_of_ble_eq_true rfl⟩ (by decide) rfl rfl rfl hl.1 rfl (Nat.le_of_ble_eq_true rfl) dX11_cuts_22) (fun H locs hw => ?_)
    refine lv_if_eq (tgt := 45) hx hb dX11_cuts_25 (by decide) (fun hc => ?_) (fun hc => ?_)
    · replace hf := pw_ifp hc hf
      exact t_X11_cuts_45 hC hk12  hw (lv_sub hl [0, 1, 3] rfl) hf
    · replace hf := pw_ifn hc hf
      refine lv_iload_n hx hb dX11_cuts_28 rfl (lv_at hl 1 rfl) ?_
      refine lv_iconst (v := -1) hx hb dX11_cuts_29 (by decide) ?_
      refine lv_icmp_eq (tgt := 41) hx hb dX11_cuts_30 (by decide) (fun hc => ?_) (fun hc => ?_)
      · replace hf := pw_ifp hc hf
        exact t_X11_cuts_41 hC hk12  hw (lv_sub hl [0, 1, 3] rfl) hf
      · replace hf := pw_ifn hc hf
        refine lv_iload_n hx hb dX11_cuts_33 rfl (lv_at hl 3 rfl) ?_
        obtain ⟨r2, σ2, h2, hf⟩ := pw_bi_some hf
        refine pw_ci hw (pw_runS (As := [.int x3]) (rest := [.int x2]) hC hw (c_X11_sizeOf  h2) mw_915 wm_X11_sizeOf ⟨Nat.zero_le _, Nat.zero_le _⟩ ⟨rfl, rfl, Nat.le_of_ble_eq_true rfl, Nat.le_of_ble_eq_true rfl⟩ rfl hl.1 rfl (Nat.le_of_ble_eq_true rfl) dX11_cuts_34) (fun H locs hw => ?_)
        refine lv_iload_n hx hb dX11_cuts_37 rfl (lv_at hl 1 rfl) ?_
        refine lv_icmp_ne (tgt := 45) hx hb dX11_cuts_38 (by decide) (fun hc => ?_) (fun hc => ?_)
        · replace hf := pw_ifn hc hf
          exact t_X11_cuts_45 hC hk12  hw (lv_sub hl [0, 1, 3] rfl) hf
        · replace hf := pw_ifp hc hf
          exact t_X11_cuts_41 hC hk12  hw (lv_sub hl [0, 1, 3] rfl) hf
set_option maxHeartbeats 4000000 in
theorem tl_X11_cuts_12 (hC : pw_CX G RX11 cX11_cuts 4 (some .int) p s m args meth c) {r : Int32} {τ : pw_St} : ∀ (n : Nat) (x1 : Int32) (x2 : Int32) (x3 : Int32) (σ : pw_St) (H : Heap) (locs : List Loc) (ls : Array Slot), pw_WH G σ s.heap H locs → lv_has ls 4 [(0, .ref (pw_ad G 10)), (1, .int x1), (2, .int x2), (3, .int x3)] → l_X11_cuts_12  n x1 x2 x3 σ = some (r, τ) → W p l e rm_X11_cuts s m args below meth c H locs 0 0 (MQ below (pw_Qi G r τ) args s 0 0 (pw_gA G)) (F0 m 12 ls []) := by
  intro n
  induction n with
  | zero => intro x1 x2 x3 σ H locs ls hw hl hf; cases hf
  | succ n ih => intro x1 x2 x3 σ H locs ls hw hl hf; exact t_X11_cuts_12 hC ih  hw hl hf
set_option maxHeartbeats 4000000 in
set_option maxRecDepth 100000 in
theorem c_X11_cuts {l : Launch} {G : pw_Gh} {x1 : Int32} {σ : pw_St} {r : Int32} {τ : pw_St} (hf : f_X11_cuts x1 σ = some (r, τ)) : Met l yX11_cuts (.code yX11_cuts cX11_cuts 4 (some .int) :: pw_BW) rm_X11_cuts (pw_Pc G [.ref (pw_ad G 10), .int x1] σ) (pw_Qi G r τ) 0 0 (pw_gA G) := by
  refine pw_met (by decide +kernel) (Nat.le_of_ble_eq_true rfl) ?_
  intro p e s m args below meth c ls hC hw hl
  replace hl : lv_has ls 4 [(0, .ref (pw_ad G 10)), (1, .int x1)] := hl
  have hx := hC.1
  have hb := hC.2.1
  unfold f_X11_cuts at hf
  refine lv_iload_n hx hb dX11_cuts_0 rfl (lv_at hl 1 rfl) ?_
  refine lv_iconst (v := -1) hx hb dX11_cuts_1 (by decide) ?_
  refine lv_icmp_ge (tgt := 8) hx hb dX11_cuts_2 (by decide) (fun hc => ?_) (fun hc => ?_)
  · replace hf := pw_ifp hc hf
    refine lv_iconst (v := 0) hx hb dX11_cuts_8 (by decide) ?_
    refine lv_istore_n (lv' := [(2, .int (0 : Int32)), (0, .ref (pw_ad G 10)), (1, .int x1)]) hx hb dX11_cuts_9 rfl hl (by decide) rfl (fun ls hl => ?_)
    refine lv_iconst (v := 0) hx hb dX11_cuts_10 (by decide) ?_
    refine lv_istore_n (lv' := [(3, .int (0 : Int32)), (2, .int (0 : Int32)), (0, .ref (pw_ad G 10)), (1, .int x1)]) hx hb dX11_cuts_11 rfl hl (by decide) rfl (fun ls hl => ?_)
    exact tl_X11_cuts_12 hC  pw_FU _ _ _ _ _ _ _ hw (lv_sub hl [2, 3, 1, 0] rfl) hf
  · replace hf := pw_ifn hc hf
    refine lv_bipush (v := -2) hx hb dX11_cuts_5 (by decide) ?_
    exact pw_iret hC hw hf dX11_cuts_7
-- PerhapsWasModel next
def b_X11_next_97 (k40 : Int32 → Int32 → Int32 → pw_St → Option (Int32 × pw_St)) (x2 : Int32) (x4 : Int32) (σ : pw_St) : Option (Int32 × pw_St) := (k40 x2 x4 (x4 + (1 : Int32)) σ)
def b_X11_next_40 (k40 : Int32 → Int32 → Int32 → pw_St → Option (Int32 × pw_St)) (x2 : Int32) (x3 : Int32) (x4 : Int32) (σ : pw_St) : Option (Int32 × pw_St) := (if (2401 : Int32) ≤ x4 then (some (x3, σ)) else (pw_bi (f_X11_sizeOf x4 σ) fun r1 σ1 => (pw_bi (f_X11_isPossible x4 σ1) fun r2 σ2 => (if r2 = 0 then (k40 x2 x3 (x4 + (1 : Int32)) σ2) else (if (((2401 : Int32) * r1) + x4) ≤ x2 then (k40 x2 x3 (x4 + (1 : Int32)) σ2) else (if x3 = (-1 : Int32) then (b_X11_next_97 k40 x2 x4 σ2) else (pw_bi (f_X11_sizeOf x3 σ2) fun r3 σ3 => (if (((2401 : Int32) * r3) + x3) ≤ (((2401 : Int32) * r1) + x4) then (k40 x2 x3 (x4 + (1 : Int32)) σ3) else (b_X11_next_97 k40 x2 x4 σ3)))))))))
def l_X11_next_40 : Nat → Int32 → Int32 → Int32 → pw_St → Option (Int32 × pw_St)
  | 0 => fun _ _ _ _ => none
  | n + 1 => fun x2 x3 x4 σ => b_X11_next_40  (l_X11_next_40  n) x2 x3 x4 σ
def b_X11_next_34 (y0 : Int32) (σ : pw_St) : Option (Int32 × pw_St) := (l_X11_next_40  pw_FU y0 (-1 : Int32) (0 : Int32) σ)
def b_X11_next_15 (x1 : Int32) (σ : pw_St) : Option (Int32 × pw_St) := (if x1 = (-1 : Int32) then (b_X11_next_34  (-1 : Int32) σ) else (pw_bi (f_X11_sizeOf x1 σ) fun r1 σ1 => (b_X11_next_34  (((2401 : Int32) * r1) + x1) σ1)))
def f_X11_next (x1 : Int32) (σ : pw_St) : Option (Int32 × pw_St) := (if x1 = (-1 : Int32) then (b_X11_next_15  x1 σ) else (pw_bi (f_X11_isCut x1 σ) fun r1 σ1 => (if r1 = 0 then (some ((-1 : Int32), σ1)) else (b_X11_next_15  x1 σ1))))
def rm_X11_next : Room := { frames := 4, cells := 0, slots := 0, locals := 87 }
set_option maxHeartbeats 4000000 in
set_option maxRecDepth 100000 in
theorem t_X11_next_97 (hC : pw_CX G RX11 cX11_next 6 (some .int) p s m args meth c) {k40 : Int32 → Int32 → Int32 → pw_St → Option (Int32 × pw_St)} {r : Int32} {τ : pw_St} (hk40 : ∀ (x2 : Int32), ∀ (x3 : Int32), ∀ (x4 : Int32), ∀ (σ : pw_St) (H : Heap) (locs : List Loc) (ls : Array Slot), pw_WH G σ s.heap H locs → lv_has ls 6 [(0, .ref (pw_ad G 10)), (2, .int x2), (3, .int x3), (4, .int x4)] → k40 x2 x3 x4 σ = some (r, τ) → W p l e rm_X11_next s m args below meth c H locs 0 0 (MQ below (pw_Qi G r τ) args s 0 0 (pw_gA G)) (F0 m 40 ls [])) {x2 : Int32} {x4 : Int32} {σ : pw_St} {H : Heap} {locs : List Loc} {ls : Array Slot} (hw : pw_WH G σ s.heap H locs) (hl : lv_has ls 6 [(0, .ref (pw_ad G 10)), (2, .int x2), (4, .int x4)]) (hf : b_X11_next_97 k40 x2 x4 σ = some (r, τ)) : W p l e rm_X11_next s m args below meth c H locs 0 0 (MQ below (pw_Qi G r τ) args s 0 0 (pw_gA G)) (F0 m 97 ls []) := by
  have hx := hC.1
  have hb := hC.2.1
  unfold b_X11_next_97 at hf
  refine lv_iload hx hb dX11_next_97 (lv_at hl 2 rfl) ?_
  refine lv_istore_n (lv' := [(3, .int x4), (0, .ref (pw_ad G 10)), (2, .int x2), (4, .int x4)]) hx hb dX11_next_99 rfl hl (by decide) rfl (fun ls hl => ?_)
  refine lv_iinc (v := (x4 + (1 : Int32))) (lv' := [(4, .int (x4 + (1 : Int32))), (3, .int x4), (0, .ref (pw_ad G 10)), (2, .int x2)]) hx hb dX11_next_100 hl (k := 3) rfl rfl (by decide) rfl (fun ls hl => ?_)
  refine lv_goto (tgt := 40) hx hb dX11_next_103 (by decide) ?_
  exact hk40 _ _ _ _ _ _ _ hw (lv_sub hl [2, 3, 1, 0] rfl) hf
set_option maxHeartbeats 4000000 in
set_option maxRecDepth 100000 in
theorem t_X11_next_40 (hC : pw_CX G RX11 cX11_next 6 (some .int) p s m args meth c) {k40 : Int32 → Int32 → Int32 → pw_St → Option (Int32 × pw_St)} {r : Int32} {τ : pw_St} (hk40 : ∀ (x2 : Int32), ∀ (x3 : Int32), ∀ (x4 : Int32), ∀ (σ : pw_St) (H : Heap) (locs : List Loc) (ls : Array Slot), pw_WH G σ s.heap H locs → lv_has ls 6 [(0, .ref (pw_ad G 10)), (2, .int x2), (3, .int x3), (4, .int x4)] → k40 x2 x3 x4 σ = some (r, τ) → W p l e rm_X11_next s m args below meth c H locs 0 0 (MQ below (pw_Qi G r τ) args s 0 0 (pw_gA G)) (F0 m 40 ls [])) {x2 : Int32} {x3 : Int32} {x4 : Int32} {σ : pw_St} {H : Heap} {locs : List Loc} {ls : Array Slot} (hw : pw_WH G σ s.heap H locs) (hl : lv_has ls 6 [(0, .ref (pw_ad G 10)), (2, .int x2), (3, .int x3), (4, .int x4)]) (hf : b_X11_next_40 k40 x2 x3 x4 σ = some (r, τ)) : W p l e rm_X11_next s m args below meth c H locs 0 0 (MQ below (pw_Qi G r τ) args s 0 0 (pw_gA G)) (F0 m 40 ls []) := by
  have hx := hC.1
  have hb := hC.2.1
  unfold b_X11_next_40 at hf
  refine lv_iload hx hb dX11_next_40 (lv_at hl 3 rfl) ?_
  refine lv_sipush (v := 2401) hx hb dX11_next_42 (by decide) ?_
  refine lv_icmp_ge (tgt := 106) hx hb dX11_next_45 (by decide) (fun hc => ?_) (fun hc => ?_)
  · replace hf := pw_ifp hc hf
    refine lv_iload_n hx hb dX11_next_106 rfl (lv_at hl 2 rfl) ?_
    exact pw_iret hC hw hf dX11_next_107
  · replace hf := pw_ifn hc hf
    refine lv_sipush (v := 2401) hx hb dX11_next_48 (by decide) ?_
    refine lv_iload hx hb dX11_next_51 (lv_at hl 3 rfl) ?_
    obtain ⟨r1, σ1, h1, hf⟩ := pw_bi_some hf
    refine pw_ci hw (pw_runS (As := [.int x4]) (rest := [.int (2401 : Int32)]) hC hw (c_X11_sizeOf  h1) mw_915 wm_X11_sizeOf ⟨Nat.zero_le _, Nat.zero_le _⟩ ⟨rfl, rfl, Nat.le_of_ble_eq_true rfl, Nat.le_of_ble_eq_true rfl⟩ rfl hl.1 rfl (Nat.le_of_ble_eq_true rfl) dX11_next_53) (fun H locs hw => ?_)
    refine lv_imul hx hb dX11_next_56 ?_
    refine lv_iload hx hb dX11_next_57 (lv_at hl 3 rfl) ?_
    refine lv_iadd hx hb dX11_next_59 ?_
    refine lv_istore (lv' := [(5, .int (((2401 : Int32) * r1) + x4)), (0, .ref (pw_ad G 10)), (2, .int x2), (3, .int x3), (4, .int x4)]) hx hb dX11_next_60 hl (by decide) rfl (fun ls hl => ?_)
    refine lv_aload_n hx hb dX11_next_62 rfl (lv_at hl 1 rfl) ?_
    refine lv_iload hx hb dX11_next_63 (lv_at hl 4 rfl) ?_
    obtain ⟨r2, σ2, h2, hf⟩ := pw_bi_some hf
    refine pw_ci hw (pw_runV (As := [.int x4]) (rest := []) hC hw (c_X11_isPossible  h2) mw_907 wm_X11_isPossible ⟨Nat.zero_le _, Nat.zero_le _⟩ ⟨rfl, rfl, Nat.le_of_ble_eq_true rfl, Nat.le_of_ble_eq_true rfl⟩ (by decide) rfl rfl rfl hl.1 rfl (Nat.le_of_ble_eq_true rfl) dX11_next_65) (fun H locs hw => ?_)
    refine lv_if_eq (tgt := 100) hx hb dX11_next_68 (by decide) (fun hc => ?_) (fun hc => ?_)
    · replace hf := pw_ifp hc hf
      refine lv_iinc (v := (x4 + (1 : Int32))) (lv' := [(4, .int (x4 + (1 : Int32))), (5, .int (((2401 : Int32) * r1) + x4)), (0, .ref (pw_ad G 10)), (2, .int x2), (3, .int x3)]) hx hb dX11_next_100 hl (k := 4) rfl rfl (by decide) rfl (fun ls hl => ?_)
      refine lv_goto (tgt := 40) hx hb dX11_next_103 (by decide) ?_
      exact hk40 _ _ _ _ _ _ _ hw (lv_sub hl [2, 3, 4, 0] rfl) hf
    · replace hf := pw_ifn hc hf
      refine lv_iload hx hb dX11_next_71 (lv_at hl 0 rfl) ?_
      refine lv_iload_n hx hb dX11_next_73 rfl (lv_at hl 2 rfl) ?_
      refine lv_icmp_le (tgt := 100) hx hb dX11_next_74 (by decide) (fun hc => ?_) (fun hc => ?_)
      · replace hf := pw_ifp hc hf
        refine lv_iinc (v := (x4 + (1 : Int32))) (lv' := [(4, .int (x4 + (1 : Int32))), (5, .int (((2401 : Int32) * r1) + x4)), (0, .ref (pw_ad G 10)), (2, .int x2), (3, .int x3)]) hx hb dX11_next_100 hl (k := 4) rfl rfl (by decide) rfl (fun ls hl => ?_)
        refine lv_goto (tgt := 40) hx hb dX11_next_103 (by decide) ?_
        exact hk40 _ _ _ _ _ _ _ hw (lv_sub hl [2, 3, 4, 0] rfl) hf
      · replace hf := pw_ifn hc hf
        refine lv_iload_n hx hb dX11_next_77 rfl (lv_at hl 3 rfl) ?_
        refine lv_iconst (v := -1) hx hb dX11_next_78 (by decide) ?_
        refine lv_icmp_eq (tgt := 97) hx hb dX11_next_79 (by decide) (fun hc => ?_) (fun hc => ?_)
        · replace hf := pw_ifp hc hf
          exact t_X11_next_97 hC hk40  hw (lv_sub hl [1, 2, 4] rfl) hf
        · replace hf := pw_ifn hc hf
          refine lv_iload hx hb dX11_next_82 (lv_at hl 0 rfl) ?_
          refine lv_sipush (v := 2401) hx hb dX11_next_84 (by decide) ?_
          refine lv_iload_n hx hb dX11_next_87 rfl (lv_at hl 3 rfl) ?_
          obtain ⟨r3, σ3, h3, hf⟩ := pw_bi_some hf
          refine pw_ci hw (pw_runS (As := [.int x3]) (rest := [.int (2401 : Int32), .int (((2401 : Int32) * r1) + x4)]) hC hw (c_X11_sizeOf  h3) mw_915 wm_X11_sizeOf ⟨Nat.zero_le _, Nat.zero_le _⟩ ⟨rfl, rfl, Nat.le_of_ble_eq_true rfl, Nat.le_of_ble_eq_true rfl⟩ rfl hl.1 rfl (Nat.le_of_ble_eq_true rfl) dX11_next_88) (fun H locs hw => ?_)
          refine lv_imul hx hb dX11_next_91 ?_
          refine lv_iload_n hx hb dX11_next_92 rfl (lv_at hl 3 rfl) ?_
          refine lv_iadd hx hb dX11_next_93 ?_
          refine lv_icmp_ge (tgt := 100) hx hb dX11_next_94 (by decide) (fun hc => ?_) (fun hc => ?_)
          · replace hf := pw_ifp hc hf
            refine lv_iinc (v := (x4 + (1 : Int32))) (lv' := [(4, .int (x4 + (1 : Int32))), (5, .int (((2401 : Int32) * r1) + x4)), (0, .ref (pw_ad G 10)), (2, .int x2), (3, .int x3)]) hx hb dX11_next_100 hl (k := 4) rfl rfl (by decide) rfl (fun ls hl => ?_)
            refine lv_goto (tgt := 40) hx hb dX11_next_103 (by decide) ?_
            exact hk40 _ _ _ _ _ _ _ hw (lv_sub hl [2, 3, 4, 0] rfl) hf
          · replace hf := pw_ifn hc hf
            exact t_X11_next_97 hC hk40  hw (lv_sub hl [1, 2, 4] rfl) hf
set_option maxHeartbeats 4000000 in
theorem tl_X11_next_40 (hC : pw_CX G RX11 cX11_next 6 (some .int) p s m args meth c) {r : Int32} {τ : pw_St} : ∀ (n : Nat) (x2 : Int32) (x3 : Int32) (x4 : Int32) (σ : pw_St) (H : Heap) (locs : List Loc) (ls : Array Slot), pw_WH G σ s.heap H locs → lv_has ls 6 [(0, .ref (pw_ad G 10)), (2, .int x2), (3, .int x3), (4, .int x4)] → l_X11_next_40  n x2 x3 x4 σ = some (r, τ) → W p l e rm_X11_next s m args below meth c H locs 0 0 (MQ below (pw_Qi G r τ) args s 0 0 (pw_gA G)) (F0 m 40 ls []) := by
  intro n
  induction n with
  | zero => intro x2 x3 x4 σ H locs ls hw hl hf; cases hf
  | succ n ih => intro x2 x3 x4 σ H locs ls hw hl hf; exact t_X11_next_40 hC ih  hw hl hf
set_option maxHeartbeats 4000000 in
set_option maxRecDepth 100000 in
theorem t_X11_next_34 (hC : pw_CX G RX11 cX11_next 6 (some .int) p s m args meth c) {r : Int32} {τ : pw_St} {y0 : Int32} {σ : pw_St} {H : Heap} {locs : List Loc} {ls : Array Slot} (hw : pw_WH G σ s.heap H locs) (hl : lv_has ls 6 [(0, .ref (pw_ad G 10))]) (hf : b_X11_next_34 y0 σ = some (r, τ)) : W p l e rm_X11_next s m args below meth c H locs 0 0 (MQ below (pw_Qi G r τ) args s 0 0 (pw_gA G)) (F0 m 34 ls [.int y0]) := by
  have hx := hC.1
  have hb := hC.2.1
  unfold b_X11_next_34 at hf
  refine lv_istore_n (lv' := [(2, .int y0), (0, .ref (pw_ad G 10))]) hx hb dX11_next_34 rfl hl (by decide) rfl (fun ls hl => ?_)
  refine lv_iconst (v := -1) hx hb dX11_next_35 (by decide) ?_
  refine lv_istore_n (lv' := [(3, .int (-1 : Int32)), (2, .int y0), (0, .ref (pw_ad G 10))]) hx hb dX11_next_36 rfl hl (by decide) rfl (fun ls hl => ?_)
  refine lv_iconst (v := 0) hx hb dX11_next_37 (by decide) ?_
  refine lv_istore (lv' := [(4, .int (0 : Int32)), (3, .int (-1 : Int32)), (2, .int y0), (0, .ref (pw_ad G 10))]) hx hb dX11_next_38 hl (by decide) rfl (fun ls hl => ?_)
  exact tl_X11_next_40 hC  pw_FU _ _ _ _ _ _ _ hw (lv_sub hl [3, 2, 1, 0] rfl) hf
set_option maxHeartbeats 4000000 in
set_option maxRecDepth 100000 in
theorem t_X11_next_15 (hC : pw_CX G RX11 cX11_next 6 (some .int) p s m args meth c) {r : Int32} {τ : pw_St} {x1 : Int32} {σ : pw_St} {H : Heap} {locs : List Loc} {ls : Array Slot} (hw : pw_WH G σ s.heap H locs) (hl : lv_has ls 6 [(0, .ref (pw_ad G 10)), (1, .int x1)]) (hf : b_X11_next_15 x1 σ = some (r, τ)) : W p l e rm_X11_next s m args below meth c H locs 0 0 (MQ below (pw_Qi G r τ) args s 0 0 (pw_gA G)) (F0 m 15 ls []) := by
  have hx := hC.1
  have hb := hC.2.1
  unfold b_X11_next_15 at hf
  refine lv_iload_n hx hb dX11_next_15 rfl (lv_at hl 1 rfl) ?_
  refine lv_iconst (v := -1) hx hb dX11_next_16 (by decide) ?_
  refine lv_icmp_ne (tgt := 24) hx hb dX11_next_17 (by decide) (fun hc => ?_) (fun hc => ?_)
  · replace hf := pw_ifn hc hf
    refine lv_sipush (v := 2401) hx hb dX11_next_24 (by decide) ?_
    refine lv_iload_n hx hb dX11_next_27 rfl (lv_at hl 1 rfl) ?_
    obtain ⟨r1, σ1, h1, hf⟩ := pw_bi_some hf
    refine pw_ci hw (pw_runS (As := [.int x1]) (rest := [.int (2401 : Int32)]) hC hw (c_X11_sizeOf  h1) mw_915 wm_X11_sizeOf ⟨Nat.zero_le _, Nat.zero_le _⟩ ⟨rfl, rfl, Nat.le_of_ble_eq_true rfl, Nat.le_of_ble_eq_true rfl⟩ rfl hl.1 rfl (Nat.le_of_ble_eq_true rfl) dX11_next_28) (fun H locs hw => ?_)
    refine lv_imul hx hb dX11_next_31 ?_
    refine lv_iload_n hx hb dX11_next_32 rfl (lv_at hl 1 rfl) ?_
    refine lv_iadd hx hb dX11_next_33 ?_
    exact t_X11_next_34 hC   hw (lv_sub hl [0] rfl) hf
  · replace hf := pw_ifp hc hf
    refine lv_iconst (v := -1) hx hb dX11_next_20 (by decide) ?_
    refine lv_goto (tgt := 34) hx hb dX11_next_21 (by decide) ?_
    exact t_X11_next_34 hC   hw (lv_sub hl [0] rfl) hf
set_option maxHeartbeats 4000000 in
set_option maxRecDepth 100000 in
theorem c_X11_next {l : Launch} {G : pw_Gh} {x1 : Int32} {σ : pw_St} {r : Int32} {τ : pw_St} (hf : f_X11_next x1 σ = some (r, τ)) : Met l yX11_next (.code yX11_next cX11_next 6 (some .int) :: pw_BW) rm_X11_next (pw_Pc G [.ref (pw_ad G 10), .int x1] σ) (pw_Qi G r τ) 0 0 (pw_gA G) := by
  refine pw_met (by decide +kernel) (Nat.le_of_ble_eq_true rfl) ?_
  intro p e s m args below meth c ls hC hw hl
  replace hl : lv_has ls 6 [(0, .ref (pw_ad G 10)), (1, .int x1)] := hl
  have hx := hC.1
  have hb := hC.2.1
  unfold f_X11_next at hf
  refine lv_iload_n hx hb dX11_next_0 rfl (lv_at hl 1 rfl) ?_
  refine lv_iconst (v := -1) hx hb dX11_next_1 (by decide) ?_
  refine lv_icmp_eq (tgt := 15) hx hb dX11_next_2 (by decide) (fun hc => ?_) (fun hc => ?_)
  · replace hf := pw_ifp hc hf
    exact t_X11_next_15 hC   hw (lv_sub hl [0, 1] rfl) hf
  · replace hf := pw_ifn hc hf
    refine lv_aload_n hx hb dX11_next_5 rfl (lv_at hl 0 rfl) ?_
    refine lv_iload_n hx hb dX11_next_6 rfl (lv_at hl 1 rfl) ?_
    obtain ⟨r1, σ1, h1, hf⟩ := pw_bi_some hf
    refine pw_ci hw (pw_runV (As := [.int x1]) (rest := []) hC hw (c_X11_isCut  h1) mw_897 wm_X11_isCut ⟨Nat.zero_le _, Nat.zero_le _⟩ ⟨rfl, rfl, Nat.le_of_ble_eq_true rfl, Nat.le_of_ble_eq_true rfl⟩ (by decide) rfl rfl rfl hl.1 rfl (Nat.le_of_ble_eq_true rfl) dX11_next_7) (fun H locs hw => ?_)
    refine lv_if_ne (tgt := 15) hx hb dX11_next_10 (by decide) (fun hc => ?_) (fun hc => ?_)
    · replace hf := pw_ifn hc hf
      exact t_X11_next_15 hC   hw (lv_sub hl [0, 1] rfl) hf
    · replace hf := pw_ifp hc hf
      refine lv_iconst (v := -1) hx hb dX11_next_13 (by decide) ?_
      exact pw_iret hC hw hf dX11_next_14
-- PerhapsWasModel joined
def b_X11_joined_56 (k5 : Int32 → Int32 → Int32 → Int32 → Int32 → pw_St → Option (Int32 × pw_St)) (x0 : Int32) (x1 : Int32) (x2 : Int32) (x4 : Int32) (y0 : Int32) (y1 : Int32) (y2 : Int32) (σ : pw_St) : Option (Int32 × pw_St) := (k5 x0 x1 x2 (y2 + (y1 * y0)) (x4 + (1 : Int32)) σ)
def b_X11_joined_45 (k5 : Int32 → Int32 → Int32 → Int32 → Int32 → pw_St → Option (Int32 × pw_St)) (x0 : Int32) (x1 : Int32) (x2 : Int32) (x4 : Int32) (x5 : Int32) (x6 : Int32) (y0 : Int32) (y1 : Int32) (y2 : Int32) (σ : pw_St) : Option (Int32 × pw_St) := (if y0 = x2 then (b_X11_joined_56 k5 x0 x1 x2 x4 x5 y1 y2 σ) else (b_X11_joined_56 k5 x0 x1 x2 x4 x6 y1 y2 σ))
def b_X11_joined_5 (k5 : Int32 → Int32 → Int32 → Int32 → Int32 → pw_St → Option (Int32 × pw_St)) (x0 : Int32) (x1 : Int32) (x2 : Int32) (x3 : Int32) (x4 : Int32) (σ : pw_St) : Option (Int32 × pw_St) := (if (4 : Int32) ≤ x4 then (some (x3, σ)) else (pw_bi (f_X11_part x0 x4 σ) fun r1 σ1 => (pw_bi (f_X11_part x1 x4 σ1) fun r2 σ2 => (pw_bi (f_X11_unit x4 σ2) fun r3 σ3 => (if r2 ≤ r1 then (b_X11_joined_45 k5 x0 x1 x2 x4 r1 r2 (0 : Int32) r3 x3 σ3) else (b_X11_joined_45 k5 x0 x1 x2 x4 r1 r2 (1 : Int32) r3 x3 σ3))))))
def l_X11_joined_5 : Nat → Int32 → Int32 → Int32 → Int32 → Int32 → pw_St → Option (Int32 × pw_St)
  | 0 => fun _ _ _ _ _ _ => none
  | n + 1 => fun x0 x1 x2 x3 x4 σ => b_X11_joined_5  (l_X11_joined_5  n) x0 x1 x2 x3 x4 σ
def f_X11_joined (x0 : Int32) (x1 : Int32) (x2 : Int32) (σ : pw_St) : Option (Int32 × pw_St) := (l_X11_joined_5  pw_FU x0 x1 x2 (0 : Int32) (0 : Int32) σ)
def rm_X11_joined : Room := { frames := 2, cells := 0, slots := 0, locals := 41 }
set_option maxHeartbeats 4000000 in
set_option maxRecDepth 100000 in
theorem t_X11_joined_56 (hC : pw_CX G RX11 cX11_joined 7 (some .int) p s m args meth c) {k5 : Int32 → Int32 → Int32 → Int32 → Int32 → pw_St → Option (Int32 × pw_St)} {r : Int32} {τ : pw_St} (hk5 : ∀ (x0 : Int32), ∀ (x1 : Int32), ∀ (x2 : Int32), ∀ (x3 : Int32), ∀ (x4 : Int32), ∀ (σ : pw_St) (H : Heap) (locs : List Loc) (ls : Array Slot), pw_WH G σ s.heap H locs → lv_has ls 7 [(0, .int x0), (1, .int x1), (2, .int x2), (3, .int x3), (4, .int x4)] → k5 x0 x1 x2 x3 x4 σ = some (r, τ) → W p l e rm_X11_joined s m args below meth c H locs 0 0 (MQ below (pw_Qi G r τ) args s 0 0 (pw_gA G)) (F0 m 5 ls [])) {x0 : Int32} {x1 : Int32} {x2 : Int32} {x4 : Int32} {y0 : Int32} {y1 : Int32} {y2 : Int32} {σ : pw_St} {H : Heap} {locs : List Loc} {ls : Array Slot} (hw : pw_WH G σ s.heap H locs) (hl : lv_has ls 7 [(0, .int x0), (1, .int x1), (2, .int x2), (4, .int x4)]) (hf : b_X11_joined_56 k5 x0 x1 x2 x4 y0 y1 y2 σ = some (r, τ)) : W p l e rm_X11_joined s m args below meth c H locs 0 0 (MQ below (pw_Qi G r τ) args s 0 0 (pw_gA G)) (F0 m 56 ls [.int y0, .int y1, .int y2]) := by
  have hx := hC.1
  have hb := hC.2.1
  unfold b_X11_joined_56 at hf
  refine lv_imul hx hb dX11_joined_56 ?_
  refine lv_iadd hx hb dX11_joined_57 ?_
  refine lv_istore_n (lv' := [(3, .int (y2 + (y1 * y0))), (0, .int x0), (1, .int x1), (2, .int x2), (4, .int x4)]) hx hb dX11_joined_58 rfl hl (by decide) rfl (fun ls hl => ?_)
  refine lv_iinc (v := (x4 + (1 : Int32))) (lv' := [(4, .int (x4 + (1 : Int32))), (3, .int (y2 + (y1 * y0))), (0, .int x0), (1, .int x1), (2, .int x2)]) hx hb dX11_joined_59 hl (k := 4) rfl rfl (by decide) rfl (fun ls hl => ?_)
  refine lv_goto (tgt := 5) hx hb dX11_joined_62 (by decide) ?_
  exact hk5 _ _ _ _ _ _ _ _ _ hw (lv_sub hl [2, 3, 4, 1, 0] rfl) hf
set_option maxHeartbeats 4000000 in
set_option maxRecDepth 100000 in
theorem t_X11_joined_45 (hC : pw_CX G RX11 cX11_joined 7 (some .int) p s m args meth c) {k5 : Int32 → Int32 → Int32 → Int32 → Int32 → pw_St → Option (Int32 × pw_St)} {r : Int32} {τ : pw_St} (hk5 : ∀ (x0 : Int32), ∀ (x1 : Int32), ∀ (x2 : Int32), ∀ (x3 : Int32), ∀ (x4 : Int32), ∀ (σ : pw_St) (H : Heap) (locs : List Loc) (ls : Array Slot), pw_WH G σ s.heap H locs → lv_has ls 7 [(0, .int x0), (1, .int x1), (2, .int x2), (3, .int x3), (4, .int x4)] → k5 x0 x1 x2 x3 x4 σ = some (r, τ) → W p l e rm_X11_joined s m args below meth c H locs 0 0 (MQ below (pw_Qi G r τ) args s 0 0 (pw_gA G)) (F0 m 5 ls [])) {x0 : Int32} {x1 : Int32} {x2 : Int32} {x4 : Int32} {x5 : Int32} {x6 : Int32} {y0 : Int32} {y1 : Int32} {y2 : Int32} {σ : pw_St} {H : Heap} {locs : List Loc} {ls : Array Slot} (hw : pw_WH G σ s.heap H locs) (hl : lv_has ls 7 [(0, .int x0), (1, .int x1), (2, .int x2), (4, .int x4), (5, .int x5), (6, .int x6)]) (hf : b_X11_joined_45 k5 x0 x1 x2 x4 x5 x6 y0 y1 y2 σ = some (r, τ)) : W p l e rm_X11_joined s m args below meth c H locs 0 0 (MQ below (pw_Qi G r τ) args s 0 0 (pw_gA G)) (F0 m 45 ls [.int y0, .int y1, .int y2]) := by
  have hx := hC.1
  have hb := hC.2.1
  unfold b_X11_joined_45 at hf
  refine lv_iload_n hx hb dX11_joined_45 rfl (lv_at hl 2 rfl) ?_
  refine lv_icmp_ne (tgt := 54) hx hb dX11_joined_46 (by decide) (fun hc => ?_) (fun hc => ?_)
  · replace hf := pw_ifn hc hf
    refine lv_iload hx hb dX11_joined_54 (lv_at hl 5 rfl) ?_
    exact t_X11_joined_56 hC hk5  hw (lv_sub hl [0, 1, 2, 3] rfl) hf
  · replace hf := pw_ifp hc hf
    refine lv_iload hx hb dX11_joined_49 (lv_at hl 4 rfl) ?_
    refine lv_goto (tgt := 56) hx hb dX11_joined_51 (by decide) ?_
    exact t_X11_joined_56 hC hk5  hw (lv_sub hl [0, 1, 2, 3] rfl) hf
set_option maxHeartbeats 4000000 in
set_option maxRecDepth 100000 in
theorem t_X11_joined_5 (hC : pw_CX G RX11 cX11_joined 7 (some .int) p s m args meth c) {k5 : Int32 → Int32 → Int32 → Int32 → Int32 → pw_St → Option (Int32 × pw_St)} {r : Int32} {τ : pw_St} (hk5 : ∀ (x0 : Int32), ∀ (x1 : Int32), ∀ (x2 : Int32), ∀ (x3 : Int32), ∀ (x4 : Int32), ∀ (σ : pw_St) (H : Heap) (locs : List Loc) (ls : Array Slot), pw_WH G σ s.heap H locs → lv_has ls 7 [(0, .int x0), (1, .int x1), (2, .int x2), (3, .int x3), (4, .int x4)] → k5 x0 x1 x2 x3 x4 σ = some (r, τ) → W p l e rm_X11_joined s m args below meth c H locs 0 0 (MQ below (pw_Qi G r τ) args s 0 0 (pw_gA G)) (F0 m 5 ls [])) {x0 : Int32} {x1 : Int32} {x2 : Int32} {x3 : Int32} {x4 : Int32} {σ : pw_St} {H : Heap} {locs : List Loc} {ls : Array Slot} (hw : pw_WH G σ s.heap H locs) (hl : lv_has ls 7 [(0, .int x0), (1, .int x1), (2, .int x2), (3, .int x3), (4, .int x4)]) (hf : b_X11_joined_5 k5 x0 x1 x2 x3 x4 σ = some (r, τ)) : W p l e rm_X11_joined s m args below meth c H locs 0 0 (MQ below (pw_Qi G r τ) args s 0 0 (pw_gA G)) (F0 m 5 ls []) := by
  have hx := hC.1
  have hb := hC.2.1
  unfold b_X11_joined_5 at hf
  refine lv_iload hx hb dX11_joined_5 (lv_at hl 4 rfl) ?_
  refine lv_iconst (v := 4) hx hb dX11_joined_7 (by decide) ?_
  refine lv_icmp_ge (tgt := 65) hx hb dX11_joined_8 (by decide) (fun hc => ?_) (fun hc => ?_)
  · replace hf := pw_ifp hc hf
    refine lv_iload_n hx hb dX11_joined_65 rfl (lv_at hl 3 rfl) ?_
    exact pw_iret hC hw hf dX11_joined_66
  · replace hf := pw_ifn hc hf
    refine lv_iload_n hx hb dX11_joined_11 rfl (lv_at hl 0 rfl) ?_
    refine lv_iload hx hb dX11_joined_12 (lv_at hl 4 rfl) ?_
    obtain ⟨r1, σ1, h1, hf⟩ := pw_bi_some hf
    refine pw_ci hw (pw_runS (As := [.int x0, .int x4]) (rest := []) hC hw (c_X11_part  h1) mw_901 wm_X11_part ⟨Nat.zero_le _, Nat.zero_le _⟩ ⟨rfl, rfl, Nat.le_of_ble_eq_true rfl, Nat.le_of_ble_eq_true rfl⟩ rfl hl.1 rfl (Nat.le_of_ble_eq_true rfl) dX11_joined_14) (fun H locs hw => ?_)
    refine lv_istore (lv' := [(5, .int r1), (0, .int x0), (1, .int x1), (2, .int x2), (3, .int x3), (4, .int x4)]) hx hb dX11_joined_17 hl (by decide) rfl (fun ls hl => ?_)
    refine lv_iload_n hx hb dX11_joined_19 rfl (lv_at hl 2 rfl) ?_
    refine lv_iload hx hb dX11_joined_20 (lv_at hl 5 rfl) ?_
    obtain ⟨r2, σ2, h2, hf⟩ := pw_bi_some hf
    refine pw_ci hw (pw_runS (As := [.int x1, .int x4]) (rest := []) hC hw (c_X11_part  h2) mw_901 wm_X11_part ⟨Nat.zero_le _, Nat.zero_le _⟩ ⟨rfl, rfl, Nat.le_of_ble_eq_true rfl, Nat.le_of_ble_eq_true rfl⟩ rfl hl.1 rfl (Nat.le_of_ble_eq_true rfl) dX11_joined_22) (fun H locs hw => ?_)
    refine lv_istore (lv' := [(6, .int r2), (5, .int r1), (0, .int x0), (1, .int x1), (2, .int x2), (3, .int x3), (4, .int x4)]) hx hb dX11_joined_25 hl (by decide) rfl (fun ls hl => ?_)
    refine lv_iload_n hx hb dX11_joined_27 rfl (lv_at hl 5 rfl) ?_
    refine lv_iload hx hb dX11_joined_28 (lv_at hl 6 rfl) ?_
    obtain ⟨r3, σ3, h3, hf⟩ := pw_bi_some hf
    refine pw_ci hw (pw_runS (As := [.int x4]) (rest := [.int x3]) hC hw (c_X11_unit  h3) mw_904 wm_X11_unit ⟨Nat.zero_le _, Nat.zero_le _⟩ ⟨rfl, rfl, Nat.le_of_ble_eq_true rfl, Nat.le_of_ble_eq_true rfl⟩ rfl hl.1 rfl (Nat.le_of_ble_eq_true rfl) dX11_joined_30) (fun H locs hw => ?_)
    refine lv_iload hx hb dX11_joined_33 (lv_at hl 1 rfl) ?_
    refine lv_iload hx hb dX11_joined_35 (lv_at hl 0 rfl) ?_
    refine lv_icmp_ge (tgt := 44) hx hb dX11_joined_37 (by decide) (fun hc => ?_) (fun hc => ?_)
    · replace hf := pw_ifp hc hf
      refine lv_iconst (v := 0) hx hb dX11_joined_44 (by decide) ?_
      exact t_X11_joined_45 hC hk5  hw (lv_sub hl [2, 3, 4, 6, 1, 0] rfl) hf
    · replace hf := pw_ifn hc hf
      refine lv_iconst (v := 1) hx hb dX11_joined_40 (by decide) ?_
      refine lv_goto (tgt := 45) hx hb dX11_joined_41 (by decide) ?_
      exact t_X11_joined_45 hC hk5  hw (lv_sub hl [2, 3, 4, 6, 1, 0] rfl) hf
set_option maxHeartbeats 4000000 in
theorem tl_X11_joined_5 (hC : pw_CX G RX11 cX11_joined 7 (some .int) p s m args meth c) {r : Int32} {τ : pw_St} : ∀ (n : Nat) (x0 : Int32) (x1 : Int32) (x2 : Int32) (x3 : Int32) (x4 : Int32) (σ : pw_St) (H : Heap) (locs : List Loc) (ls : Array Slot), pw_WH G σ s.heap H locs → lv_has ls 7 [(0, .int x0), (1, .int x1), (2, .int x2), (3, .int x3), (4, .int x4)] → l_X11_joined_5  n x0 x1 x2 x3 x4 σ = some (r, τ) → W p l e rm_X11_joined s m args below meth c H locs 0 0 (MQ below (pw_Qi G r τ) args s 0 0 (pw_gA G)) (F0 m 5 ls []) := by
  intro n
  induction n with
  | zero => intro x0 x1 x2 x3 x4 σ H locs ls hw hl hf; cases hf
  | succ n ih => intro x0 x1 x2 x3 x4 σ H locs ls hw hl hf; exact t_X11_joined_5 hC ih  hw hl hf
set_option maxHeartbeats 4000000 in
set_option maxRecDepth 100000 in
theorem c_X11_joined {l : Launch} {G : pw_Gh} {x0 : Int32} {x1 : Int32} {x2 : Int32} {σ : pw_St} {r : Int32} {τ : pw_St} (hf : f_X11_joined x0 x1 x2 σ = some (r, τ)) : Met l yX11_joined (.code yX11_joined cX11_joined 7 (some .int) :: pw_BW) rm_X11_joined (pw_Pc G [.int x0, .int x1, .int x2] σ) (pw_Qi G r τ) 0 0 (pw_gA G) := by
  refine pw_met (by decide +kernel) (Nat.le_of_ble_eq_true rfl) ?_
  intro p e s m args below meth c ls hC hw hl
  replace hl : lv_has ls 7 [(0, .int x0), (1, .int x1), (2, .int x2)] := hl
  have hx := hC.1
  have hb := hC.2.1
  unfold f_X11_joined at hf
  refine lv_iconst (v := 0) hx hb dX11_joined_0 (by decide) ?_
  refine lv_istore_n (lv' := [(3, .int (0 : Int32)), (0, .int x0), (1, .int x1), (2, .int x2)]) hx hb dX11_joined_1 rfl hl (by decide) rfl (fun ls hl => ?_)
  refine lv_iconst (v := 0) hx hb dX11_joined_2 (by decide) ?_
  refine lv_istore (lv' := [(4, .int (0 : Int32)), (3, .int (0 : Int32)), (0, .int x0), (1, .int x1), (2, .int x2)]) hx hb dX11_joined_3 hl (by decide) rfl (fun ls hl => ?_)
  exact tl_X11_joined_5 hC  pw_FU _ _ _ _ _ _ _ _ _ hw (lv_sub hl [2, 3, 4, 1, 0] rfl) hf
-- PerhapsWasModel join
def b_X11_join_39 (y0 : Int32) (y1 : Int32) (y2 : Int32) (σ : pw_St) : Option (Int32 × pw_St) := (pw_bi (f_X11_joined y2 y1 y0 σ) fun r1 σ1 => (some (r1, σ1)))
def f_X11_join (x1 : Int32) (x2 : Int32) (x3 : Int32) (σ : pw_St) : Option (Int32 × pw_St) := (pw_bi (f_X11_isCut x1 σ) fun r1 σ1 => (if r1 = 0 then (some ((-1 : Int32), σ1)) else (pw_bi (f_X11_isCut x2 σ1) fun r2 σ2 => (if r2 = 0 then (some ((-1 : Int32), σ2)) else (pw_bi (f_X11_in x3 (0 : Int32) (1 : Int32) σ2) fun r3 σ3 => (if r3 = 0 then (some ((-2 : Int32), σ3)) else (if x3 = (1 : Int32) then (b_X11_join_39  (1 : Int32) x2 x1 σ3) else (b_X11_join_39  (0 : Int32) x2 x1 σ3))))))))
def rm_X11_join : Room := { frames := 3, cells := 0, slots := 0, locals := 67 }
set_option maxHeartbeats 4000000 in
set_option maxRecDepth 100000 in
theorem t_X11_join_39 (hC : pw_CX G RX11 cX11_join 4 (some .int) p s m args meth c) {r : Int32} {τ : pw_St} {y0 : Int32} {y1 : Int32} {y2 : Int32} {σ : pw_St} {H : Heap} {locs : List Loc} {ls : Array Slot} (hw : pw_WH G σ s.heap H locs) (hl : lv_has ls 4 []) (hf : b_X11_join_39 y0 y1 y2 σ = some (r, τ)) : W p l e rm_X11_join s m args below meth c H locs 0 0 (MQ below (pw_Qi G r τ) args s 0 0 (pw_gA G)) (F0 m 39 ls [.int y0, .int y1, .int y2]) := by
  have hx := hC.1
  have hb := hC.2.1
  unfold b_X11_join_39 at hf
  obtain ⟨r1, σ1, h1, hf⟩ := pw_bi_some hf
  refine pw_ci hw (pw_runS (As := [.int y2, .int y1, .int y0]) (rest := []) hC hw (c_X11_joined  h1) mw_926 wm_X11_joined ⟨Nat.zero_le _, Nat.zero_le _⟩ ⟨rfl, rfl, Nat.le_of_ble_eq_true rfl, Nat.le_of_ble_eq_true rfl⟩ rfl hl.1 rfl (Nat.le_of_ble_eq_true rfl) dX11_join_39) (fun H locs hw => ?_)
  refine lv_goto (tgt := 47) hx hb dX11_join_42 (by decide) ?_
  exact pw_iret hC hw hf dX11_join_47
set_option maxHeartbeats 4000000 in
set_option maxRecDepth 100000 in
theorem c_X11_join {l : Launch} {G : pw_Gh} {x1 : Int32} {x2 : Int32} {x3 : Int32} {σ : pw_St} {r : Int32} {τ : pw_St} (hf : f_X11_join x1 x2 x3 σ = some (r, τ)) : Met l yX11_join (.code yX11_join cX11_join 4 (some .int) :: pw_BW) rm_X11_join (pw_Pc G [.ref (pw_ad G 10), .int x1, .int x2, .int x3] σ) (pw_Qi G r τ) 0 0 (pw_gA G) := by
  refine pw_met (by decide +kernel) (Nat.le_of_ble_eq_true rfl) ?_
  intro p e s m args below meth c ls hC hw hl
  replace hl : lv_has ls 4 [(0, .ref (pw_ad G 10)), (1, .int x1), (2, .int x2), (3, .int x3)] := hl
  have hx := hC.1
  have hb := hC.2.1
  unfold f_X11_join at hf
  refine lv_aload_n hx hb dX11_join_0 rfl (lv_at hl 0 rfl) ?_
  refine lv_iload_n hx hb dX11_join_1 rfl (lv_at hl 1 rfl) ?_
  obtain ⟨r1, σ1, h1, hf⟩ := pw_bi_some hf
  refine pw_ci hw (pw_runV (As := [.int x1]) (rest := []) hC hw (c_X11_isCut  h1) mw_897 wm_X11_isCut ⟨Nat.zero_le _, Nat.zero_le _⟩ ⟨rfl, rfl, Nat.le_of_ble_eq_true rfl, Nat.le_of_ble_eq_true rfl⟩ (by decide) rfl rfl rfl hl.1 rfl (Nat.le_of_ble_eq_true rfl) dX11_join_2) (fun H locs hw => ?_)
  refine lv_if_eq (tgt := 16) hx hb dX11_join_5 (by decide) (fun hc => ?_) (fun hc => ?_)
  · replace hf := pw_ifp hc hf
    refine lv_iconst (v := -1) hx hb dX11_join_16 (by decide) ?_
    exact pw_iret hC hw hf dX11_join_17
  · replace hf := pw_ifn hc hf
    refine lv_aload_n hx hb dX11_join_8 rfl (lv_at hl 0 rfl) ?_
    refine lv_iload_n hx hb dX11_join_9 rfl (lv_at hl 2 rfl) ?_
    obtain ⟨r2, σ2, h2, hf⟩ := pw_bi_some hf
    refine pw_ci hw (pw_runV (As := [.int x2]) (rest := []) hC hw (c_X11_isCut  h2) mw_897 wm_X11_isCut ⟨Nat.zero_le _, Nat.zero_le _⟩ ⟨rfl, rfl, Nat.le_of_ble_eq_true rfl, Nat.le_of_ble_eq_true rfl⟩ (by decide) rfl rfl rfl hl.1 rfl (Nat.le_of_ble_eq_true rfl) dX11_join_10) (fun H locs hw => ?_)
    refine lv_if_ne (tgt := 18) hx hb dX11_join_13 (by decide) (fun hc => ?_) (fun hc => ?_)
    · replace hf := pw_ifn hc hf
      refine lv_iload_n hx hb dX11_join_18 rfl (lv_at hl 3 rfl) ?_
      refine lv_iconst (v := 0) hx hb dX11_join_19 (by decide) ?_
      refine lv_iconst (v := 1) hx hb dX11_join_20 (by decide) ?_
      obtain ⟨r3, σ3, h3, hf⟩ := pw_bi_some hf
      refine pw_ci hw (pw_runS (As := [.int x3, .int (0 : Int32), .int (1 : Int32)]) (rest := []) hC hw (c_X11_in  h3) mw_846 wm_X11_in ⟨Nat.zero_le _, Nat.zero_le _⟩ ⟨rfl, rfl, Nat.le_of_ble_eq_true rfl, Nat.le_of_ble_eq_true rfl⟩ rfl hl.1 rfl (Nat.le_of_ble_eq_true rfl) dX11_join_21) (fun H locs hw => ?_)
      refine lv_if_eq (tgt := 45) hx hb dX11_join_24 (by decide) (fun hc => ?_) (fun hc => ?_)
      · replace hf := pw_ifp hc hf
        refine lv_bipush (v := -2) hx hb dX11_join_45 (by decide) ?_
        exact pw_iret hC hw hf dX11_join_47
      · replace hf := pw_ifn hc hf
        refine lv_iload_n hx hb dX11_join_27 rfl (lv_at hl 1 rfl) ?_
        refine lv_iload_n hx hb dX11_join_28 rfl (lv_at hl 2 rfl) ?_
        refine lv_iload_n hx hb dX11_join_29 rfl (lv_at hl 3 rfl) ?_
        refine lv_iconst (v := 1) hx hb dX11_join_30 (by decide) ?_
        refine lv_icmp_ne (tgt := 38) hx hb dX11_join_31 (by decide) (fun hc => ?_) (fun hc => ?_)
        · replace hf := pw_ifn hc hf
          refine lv_iconst (v := 0) hx hb dX11_join_38 (by decide) ?_
          exact t_X11_join_39 hC   hw (lv_sub hl [] rfl) hf
        · replace hf := pw_ifp hc hf
          refine lv_iconst (v := 1) hx hb dX11_join_34 (by decide) ?_
          refine lv_goto (tgt := 39) hx hb dX11_join_35 (by decide) ?_
          exact t_X11_join_39 hC   hw (lv_sub hl [] rfl) hf
    · replace hf := pw_ifp hc hf
      refine lv_iconst (v := -1) hx hb dX11_join_16 (by decide) ?_
      exact pw_iret hC hw hf dX11_join_17
-- PerhapsWasModel least
def b_X11_least_29 (k29 : Int32 → Int32 → Int32 → Int32 → pw_St → Option (Int32 × pw_St)) (x1 : Int32) (x2 : Int32) (x3 : Int32) (x4 : Int32) (σ : pw_St) : Option (Int32 × pw_St) := (if (4 : Int32) ≤ x4 then (some (x3, σ)) else (if x2 ≤ 0 then (some (x3, σ)) else (pw_bi (f_X11_unit x4 σ) fun r1 σ1 => (if pw_in (((4 : Int32) * ((((6 : Int32) * x1) + x2) - (1 : Int32))) + x4) 96 = true then (k29 x1 x2 (x3 + (r1 * (σ1.1 39 (((4 : Int32) * ((((6 : Int32) * x1) + x2) - (1 : Int32))) + x4).toNatClampNeg))) (x4 + (1 : Int32)) σ1) else none))))
def l_X11_least_29 : Nat → Int32 → Int32 → Int32 → Int32 → pw_St → Option (Int32 × pw_St)
  | 0 => fun _ _ _ _ _ => none
  | n + 1 => fun x1 x2 x3 x4 σ => b_X11_least_29  (l_X11_least_29  n) x1 x2 x3 x4 σ
def f_X11_least (x1 : Int32) (x2 : Int32) (σ : pw_St) : Option (Int32 × pw_St) := (pw_bi (f_X11_isProcess x1 σ) fun r1 σ1 => (if r1 = 0 then (some ((-1 : Int32), σ1)) else (if pw_in x1 4 = true then (pw_bi (f_X11_in x2 (0 : Int32) (σ1.1 34 x1.toNatClampNeg) σ1) fun r2 σ2 => (if r2 = 0 then (some ((-1 : Int32), σ2)) else (l_X11_least_29  pw_FU x1 x2 (0 : Int32) (0 : Int32) σ2))) else none)))
def rm_X11_least : Room := { frames := 2, cells := 0, slots := 0, locals := 43 }
set_option maxHeartbeats 4000000 in
set_option maxRecDepth 100000 in
theorem t_X11_least_29 (hC : pw_CX G RX11 cX11_least 5 (some .int) p s m args meth c) {k29 : Int32 → Int32 → Int32 → Int32 → pw_St → Option (Int32 × pw_St)} {r : Int32} {τ : pw_St} (hk29 : ∀ (x1 : Int32), ∀ (x2 : Int32), ∀ (x3 : Int32), ∀ (x4 : Int32), ∀ (σ : pw_St) (H : Heap) (locs : List Loc) (ls : Array Slot), pw_WH G σ s.heap H locs → lv_has ls 5 [(0, .ref (pw_ad G 10)), (1, .int x1), (2, .int x2), (3, .int x3), (4, .int x4)] → k29 x1 x2 x3 x4 σ = some (r, τ) → W p l e rm_X11_least s m args below meth c H locs 0 0 (MQ below (pw_Qi G r τ) args s 0 0 (pw_gA G)) (F0 m 29 ls [])) {x1 : Int32} {x2 : Int32} {x3 : Int32} {x4 : Int32} {σ : pw_St} {H : Heap} {locs : List Loc} {ls : Array Slot} (hw : pw_WH G σ s.heap H locs) (hl : lv_has ls 5 [(0, .ref (pw_ad G 10)), (1, .int x1), (2, .int x2), (3, .int x3), (4, .int x4)]) (hf : b_X11_least_29 k29 x1 x2 x3 x4 σ = some (r, τ)) : W p l e rm_X11_least s m args below meth c H locs 0 0 (MQ below (pw_Qi G r τ) args s 0 0 (pw_gA G)) (F0 m 29 ls []) := by
  have hx := hC.1
  have hb := hC.2.1
  unfold b_X11_least_29 at hf
  refine lv_iload hx hb dX11_least_29 (lv_at hl 4 rfl) ?_
  refine lv_iconst (v := 4) hx hb dX11_least_31 (by decide) ?_
  refine lv_icmp_ge (tgt := 72) hx hb dX11_least_32 (by decide) (fun hc => ?_) (fun hc => ?_)
  · replace hf := pw_ifp hc hf
    refine lv_iload_n hx hb dX11_least_72 rfl (lv_at hl 3 rfl) ?_
    exact pw_iret hC hw hf dX11_least_73
  · replace hf := pw_ifn hc hf
    refine lv_iload_n hx hb dX11_least_35 rfl (lv_at hl 2 rfl) ?_
    refine lv_if_le (tgt := 72) hx hb dX11_least_36 (by decide) (fun hc => ?_) (fun hc => ?_)
    · replace hf := pw_ifp hc hf
      refine lv_iload_n hx hb dX11_least_72 rfl (lv_at hl 3 rfl) ?_
      exact pw_iret hC hw hf dX11_least_73
    · replace hf := pw_ifn hc hf
      refine lv_iload_n hx hb dX11_least_39 rfl (lv_at hl 3 rfl) ?_
      refine lv_iload hx hb dX11_least_40 (lv_at hl 4 rfl) ?_
      obtain ⟨r1, σ1, h1, hf⟩ := pw_bi_some hf
      refine pw_ci hw (pw_runS (As := [.int x4]) (rest := [.int x3]) hC hw (c_X11_unit  h1) mw_904 wm_X11_unit ⟨Nat.zero_le _, Nat.zero_le _⟩ ⟨rfl, rfl, Nat.le_of_ble_eq_true rfl, Nat.le_of_ble_eq_true rfl⟩ rfl hl.1 rfl (Nat.le_of_ble_eq_true rfl) dX11_least_42) (fun H locs hw => ?_)
      refine lv_aload_n hx hb dX11_least_45 rfl (lv_at hl 0 rfl) ?_
      refine pg_10_7 hC hw mw_756 dX11_least_46 ?_
      refine lv_iconst (v := 4) hx hb dX11_least_49 (by decide) ?_
      refine lv_bipush (v := 6) hx hb dX11_least_50 (by decide) ?_
      refine lv_iload_n hx hb dX11_least_52 rfl (lv_at hl 1 rfl) ?_
      refine lv_imul hx hb dX11_least_53 ?_
      refine lv_iload_n hx hb dX11_least_54 rfl (lv_at hl 2 rfl) ?_
      refine lv_iadd hx hb dX11_least_55 ?_
      refine lv_iconst (v := 1) hx hb dX11_least_56 (by decide) ?_
      refine lv_isub hx hb dX11_least_57 ?_
      refine lv_imul hx hb dX11_least_58 ?_
      refine lv_iload hx hb dX11_least_59 (lv_at hl 4 rfl) ?_
      refine lv_iadd hx hb dX11_least_61 ?_
      obtain ⟨hin, hf⟩ := pw_gd hf
      refine pw_ild hC hw ca_39 hin dX11_least_62 ?_
      refine lv_imul hx hb dX11_least_63 ?_
      refine lv_iadd hx hb dX11_least_64 ?_
      refine lv_istore_n (lv' := [(3, .int (x3 + (r1 * (σ1.1 39 (((4 : Int32) * ((((6 : Int32) * x1) + x2) - (1 : Int32))) + x4).toNatClampNeg)))), (0, .ref (pw_ad G 10)), (1, .int x1), (2, .int x2), (4, .int x4)]) hx hb dX11_least_65 rfl hl (by decide) rfl (fun ls hl => ?_)
      refine lv_iinc (v := (x4 + (1 : Int32))) (lv' := [(4, .int (x4 + (1 : Int32))), (3, .int (x3 + (r1 * (σ1.1 39 (((4 : Int32) * ((((6 : Int32) * x1) + x2) - (1 : Int32))) + x4).toNatClampNeg)))), (0, .ref (pw_ad G 10)), (1, .int x1), (2, .int x2)]) hx hb dX11_least_66 hl (k := 4) rfl rfl (by decide) rfl (fun ls hl => ?_)
      refine lv_goto (tgt := 29) hx hb dX11_least_69 (by decide) ?_
      exact hk29 _ _ _ _ _ _ _ _ hw (lv_sub hl [2, 3, 4, 1, 0] rfl) hf
set_option maxHeartbeats 4000000 in
theorem tl_X11_least_29 (hC : pw_CX G RX11 cX11_least 5 (some .int) p s m args meth c) {r : Int32} {τ : pw_St} : ∀ (n : Nat) (x1 : Int32) (x2 : Int32) (x3 : Int32) (x4 : Int32) (σ : pw_St) (H : Heap) (locs : List Loc) (ls : Array Slot), pw_WH G σ s.heap H locs → lv_has ls 5 [(0, .ref (pw_ad G 10)), (1, .int x1), (2, .int x2), (3, .int x3), (4, .int x4)] → l_X11_least_29  n x1 x2 x3 x4 σ = some (r, τ) → W p l e rm_X11_least s m args below meth c H locs 0 0 (MQ below (pw_Qi G r τ) args s 0 0 (pw_gA G)) (F0 m 29 ls []) := by
  intro n
  induction n with
  | zero => intro x1 x2 x3 x4 σ H locs ls hw hl hf; cases hf
  | succ n ih => intro x1 x2 x3 x4 σ H locs ls hw hl hf; exact t_X11_least_29 hC ih  hw hl hf
set_option maxHeartbeats 4000000 in
set_option maxRecDepth 100000 in
theorem c_X11_least {l : Launch} {G : pw_Gh} {x1 : Int32} {x2 : Int32} {σ : pw_St} {r : Int32} {τ : pw_St} (hf : f_X11_least x1 x2 σ = some (r, τ)) : Met l yX11_least (.code yX11_least cX11_least 5 (some .int) :: pw_BW) rm_X11_least (pw_Pc G [.ref (pw_ad G 10), .int x1, .int x2] σ) (pw_Qi G r τ) 0 0 (pw_gA G) := by
  refine pw_met (by decide +kernel) (Nat.le_of_ble_eq_true rfl) ?_
  intro p e s m args below meth c ls hC hw hl
  replace hl : lv_has ls 5 [(0, .ref (pw_ad G 10)), (1, .int x1), (2, .int x2)] := hl
  have hx := hC.1
  have hb := hC.2.1
  unfold f_X11_least at hf
  refine lv_aload_n hx hb dX11_least_0 rfl (lv_at hl 0 rfl) ?_
  refine lv_iload_n hx hb dX11_least_1 rfl (lv_at hl 1 rfl) ?_
  obtain ⟨r1, σ1, h1, hf⟩ := pw_bi_some hf
  refine pw_ci hw (pw_runV (As := [.int x1]) (rest := []) hC hw (c_X11_isProcess  h1) mw_842 wm_X11_isProcess ⟨Nat.zero_le _, Nat.zero_le _⟩ ⟨rfl, rfl, Nat.le_of_ble_eq_true rfl, Nat.le_of_ble_eq_true rfl⟩ (by decide) rfl rfl rfl hl.1 rfl (Nat.le_of_ble_eq_true rfl) dX11_least_2) (fun H locs hw => ?_)
  refine lv_if_eq (tgt := 22) hx hb dX11_least_5 (by decide) (fun hc => ?_) (fun hc => ?_)
  · replace hf := pw_ifp hc hf
    refine lv_iconst (v := -1) hx hb dX11_least_22 (by decide) ?_
    exact pw_iret hC hw hf dX11_least_23
  · replace hf := pw_ifn hc hf
    refine lv_iload_n hx hb dX11_least_8 rfl (lv_at hl 2 rfl) ?_
    refine lv_iconst (v := 0) hx hb dX11_least_9 (by decide) ?_
    refine lv_aload_n hx hb dX11_least_10 rfl (lv_at hl 0 rfl) ?_
    refine pg_10_2 hC hw mw_751 dX11_least_11 ?_
    refine lv_iload_n hx hb dX11_least_14 rfl (lv_at hl 1 rfl) ?_
    obtain ⟨hin, hf⟩ := pw_gd hf
    refine pw_ild hC hw ca_34 hin dX11_least_15 ?_
    obtain ⟨r2, σ2, h2, hf⟩ := pw_bi_some hf
    refine pw_ci hw (pw_runS (As := [.int x2, .int (0 : Int32), .int (σ1.1 34 x1.toNatClampNeg)]) (rest := []) hC hw (c_X11_in  h2) mw_846 wm_X11_in ⟨Nat.zero_le _, Nat.zero_le _⟩ ⟨rfl, rfl, Nat.le_of_ble_eq_true rfl, Nat.le_of_ble_eq_true rfl⟩ rfl hl.1 rfl (Nat.le_of_ble_eq_true rfl) dX11_least_16) (fun H locs hw => ?_)
    refine lv_if_ne (tgt := 24) hx hb dX11_least_19 (by decide) (fun hc => ?_) (fun hc => ?_)
    · replace hf := pw_ifn hc hf
      refine lv_iconst (v := 0) hx hb dX11_least_24 (by decide) ?_
      refine lv_istore_n (lv' := [(3, .int (0 : Int32)), (0, .ref (pw_ad G 10)), (1, .int x1), (2, .int x2)]) hx hb dX11_least_25 rfl hl (by decide) rfl (fun ls hl => ?_)
      refine lv_iconst (v := 0) hx hb dX11_least_26 (by decide) ?_
      refine lv_istore (lv' := [(4, .int (0 : Int32)), (3, .int (0 : Int32)), (0, .ref (pw_ad G 10)), (1, .int x1), (2, .int x2)]) hx hb dX11_least_27 hl (by decide) rfl (fun ls hl => ?_)
      exact tl_X11_least_29 hC  pw_FU _ _ _ _ _ _ _ _ hw (lv_sub hl [2, 3, 4, 1, 0] rfl) hf
    · replace hf := pw_ifp hc hf
      refine lv_iconst (v := -1) hx hb dX11_least_22 (by decide) ?_
      exact pw_iret hC hw hf dX11_least_23
-- PerhapsWasModel open
def b_X11_open_2 (k2 : Int32 → pw_St → Option pw_St) (x1 : Int32) (σ : pw_St) : Option pw_St := (if (2401 : Int32) ≤ x1 then (some σ) else (if pw_in x1 2401 = true then (pw_lt (pw_sM σ 44 x1.toNatClampNeg (vp_nar .boolean (0 : Int32))) fun σ1 => (k2 (x1 + (1 : Int32)) σ1)) else none))
def l_X11_open_2 : Nat → Int32 → pw_St → Option pw_St
  | 0 => fun _ _ => none
  | n + 1 => fun x1 σ => b_X11_open_2  (l_X11_open_2  n) x1 σ
def f_X11_open (σ : pw_St) : Option pw_St := (l_X11_open_2  pw_FU (0 : Int32) σ)
def rm_X11_open : Room := { frames := 0, cells := 0, slots := 0, locals := 0 }
set_option maxHeartbeats 4000000 in
set_option maxRecDepth 100000 in
theorem t_X11_open_2 (hC : pw_CX G RX11 cX11_open 2 none p s m args meth c) {k2 : Int32 → pw_St → Option pw_St} {τ : pw_St} (hk2 : ∀ (x1 : Int32), ∀ (σ : pw_St) (H : Heap) (locs : List Loc) (ls : Array Slot), pw_WH G σ s.heap H locs → lv_has ls 2 [(0, .ref (pw_ad G 10)), (1, .int x1)] → k2 x1 σ = some τ → W p l e rm_X11_open s m args below meth c H locs 0 0 (MQ below (pw_Qv G τ) args s 0 0 (pw_gA G)) (F0 m 2 ls [])) {x1 : Int32} {σ : pw_St} {H : Heap} {locs : List Loc} {ls : Array Slot} (hw : pw_WH G σ s.heap H locs) (hl : lv_has ls 2 [(0, .ref (pw_ad G 10)), (1, .int x1)]) (hf : b_X11_open_2 k2 x1 σ = some τ) : W p l e rm_X11_open s m args below meth c H locs 0 0 (MQ below (pw_Qv G τ) args s 0 0 (pw_gA G)) (F0 m 2 ls []) := by
  have hx := hC.1
  have hb := hC.2.1
  unfold b_X11_open_2 at hf
  refine lv_iload_n hx hb dX11_open_2 rfl (lv_at hl 1 rfl) ?_
  refine lv_sipush (v := 2401) hx hb dX11_open_3 (by decide) ?_
  refine lv_icmp_ge (tgt := 22) hx hb dX11_open_6 (by decide) (fun hc => ?_) (fun hc => ?_)
  · replace hf := pw_ifp hc hf
    exact pw_vret hC hw hf dX11_open_22
  · replace hf := pw_ifn hc hf
    refine lv_aload_n hx hb dX11_open_9 rfl (lv_at hl 0 rfl) ?_
    refine pg_10_14 hC hw mw_763 dX11_open_10 ?_
    refine lv_iload_n hx hb dX11_open_13 rfl (lv_at hl 1 rfl) ?_
    refine lv_iconst (v := 0) hx hb dX11_open_14 (by decide) ?_
    obtain ⟨hin, hf⟩ := pw_gd hf
    refine pw_zst hC hw ca_44 hin dX11_open_15 (fun H locs hw => ?_)
    obtain ⟨σ1, e1, hf⟩ := pw_lts hf
    replace hw := pw_WHe e1 hw
    refine lv_iinc (v := (x1 + (1 : Int32))) (lv' := [(1, .int (x1 + (1 : Int32))), (0, .ref (pw_ad G 10))]) hx hb dX11_open_16 hl (k := 1) rfl rfl (by decide) rfl (fun ls hl => ?_)
    refine lv_goto (tgt := 2) hx hb dX11_open_19 (by decide) ?_
    exact hk2 _ _ _ _ _ hw (lv_sub hl [1, 0] rfl) hf
set_option maxHeartbeats 4000000 in
theorem tl_X11_open_2 (hC : pw_CX G RX11 cX11_open 2 none p s m args meth c) {τ : pw_St} : ∀ (n : Nat) (x1 : Int32) (σ : pw_St) (H : Heap) (locs : List Loc) (ls : Array Slot), pw_WH G σ s.heap H locs → lv_has ls 2 [(0, .ref (pw_ad G 10)), (1, .int x1)] → l_X11_open_2  n x1 σ = some τ → W p l e rm_X11_open s m args below meth c H locs 0 0 (MQ below (pw_Qv G τ) args s 0 0 (pw_gA G)) (F0 m 2 ls []) := by
  intro n
  induction n with
  | zero => intro x1 σ H locs ls hw hl hf; cases hf
  | succ n ih => intro x1 σ H locs ls hw hl hf; exact t_X11_open_2 hC ih  hw hl hf
set_option maxHeartbeats 4000000 in
set_option maxRecDepth 100000 in
theorem c_X11_open {l : Launch} {G : pw_Gh} {σ : pw_St} {τ : pw_St} (hf : f_X11_open σ = some τ) : Met l yX11_open (.code yX11_open cX11_open 2 none :: pw_BW) rm_X11_open (pw_Pc G [.ref (pw_ad G 10)] σ) (pw_Qv G τ) 0 0 (pw_gA G) := by
  refine pw_met (by decide +kernel) (Nat.le_of_ble_eq_true rfl) ?_
  intro p e s m args below meth c ls hC hw hl
  replace hl : lv_has ls 2 [(0, .ref (pw_ad G 10))] := hl
  have hx := hC.1
  have hb := hC.2.1
  unfold f_X11_open at hf
  refine lv_iconst (v := 0) hx hb dX11_open_0 (by decide) ?_
  refine lv_istore_n (lv' := [(1, .int (0 : Int32)), (0, .ref (pw_ad G 10))]) hx hb dX11_open_1 rfl hl (by decide) rfl (fun ls hl => ?_)
  exact tl_X11_open_2 hC  pw_FU _ _ _ _ _ hw (lv_sub hl [1, 0] rfl) hf
-- PerhapsWasModel count
def b_X11_count_132 (k9 : Int32 → Int32 → pw_St → Option pw_St) (x1 : Int32) (x2 : Int32) (y0 : Int64) (y1 : Int32) (σ : pw_St) : Option pw_St := (if pw_in y1 2401 = true then (pw_lt (pw_sL σ 45 y1.toNatClampNeg y0) fun σ1 => (k9 x1 (x2 + (-1 : Int32)) σ1)) else none)
def b_X11_count_102 (k9 : Int32 → Int32 → pw_St → Option pw_St) (x1 : Int32) (x2 : Int32) (σ : pw_St) : Option pw_St := (if pw_in x2 2401 = true then (if (lg_cmp (σ.2 45 x2.toNatClampNeg) (1000000000000000000 : Int64)) ≤ 0 then (if pw_in x2 2401 = true then (b_X11_count_132 k9 x1 x2 (σ.2 45 x2.toNatClampNeg) x2 σ) else none) else (b_X11_count_132 k9 x1 x2 (1000000000000000000 : Int64) x2 σ)) else none)
def b_X11_count_54 (k9 : Int32 → Int32 → pw_St → Option pw_St) (k54 : Int32 → Int32 → Int32 → pw_St → Option pw_St) (x1 : Int32) (x2 : Int32) (x3 : Int32) (σ : pw_St) : Option pw_St := (if (σ.1 10 1) ≤ x3 then (b_X11_count_102 k9 x1 x2 σ) else (pw_bi (f_X11_part x2 x3 σ) fun r1 σ1 => (if pw_in x3 4 = true then (if (σ1.1 34 x3.toNatClampNeg) ≤ r1 then (k54 x1 x2 (x3 + (1 : Int32)) σ1) else (if pw_in x2 2401 = true then (pw_bi (f_X11_unit x3 σ1) fun r2 σ2 => (if pw_in (x2 + r2) 2401 = true then (if pw_in x2 2401 = true then (pw_lt (pw_sL σ2 45 x2.toNatClampNeg ((σ1.2 45 x2.toNatClampNeg) + (σ2.2 45 (x2 + r2).toNatClampNeg))) fun σ3 => (k54 x1 x2 (x3 + (1 : Int32)) σ3)) else none) else none)) else none)) else none)))
def l_X11_count_54 (k9 : Int32 → Int32 → pw_St → Option pw_St) : Nat → Int32 → Int32 → Int32 → pw_St → Option pw_St
  | 0 => fun _ _ _ _ => none
  | n + 1 => fun x1 x2 x3 σ => b_X11_count_54 k9 (l_X11_count_54 k9 n) x1 x2 x3 σ
def b_X11_count_9 (k9 : Int32 → Int32 → pw_St → Option pw_St) (x1 : Int32) (x2 : Int32) (σ : pw_St) : Option pw_St := (if x2 < 0 then (some σ) else (if pw_in x2 2401 = true then (pw_lt (pw_sL σ 45 x2.toNatClampNeg (0 : Int64)) fun σ1 => (pw_bi (f_X11_isPossible x2 σ1) fun r2 σ2 => (if r2 = 0 then (k9 x1 (x2 + (-1 : Int32)) σ2) else (if pw_in x2 2401 = true then (if (σ2.1 44 x2.toNatClampNeg) = 0 then (if x2 = x1 then (if pw_in x2 2401 = true then (pw_lt (pw_sL σ2 45 x2.toNatClampNeg (1 : Int64)) fun σ3 => (l_X11_count_54 k9 pw_FU x1 x2 (0 : Int32) σ3)) else none) else (l_X11_count_54 k9 pw_FU x1 x2 (0 : Int32) σ2)) else (k9 x1 (x2 + (-1 : Int32)) σ2)) else none)))) else none))
def l_X11_count_9 : Nat → Int32 → Int32 → pw_St → Option pw_St
  | 0 => fun _ _ _ => none
  | n + 1 => fun x1 x2 σ => b_X11_count_9  (l_X11_count_9  n) x1 x2 σ
def f_X11_count (σ : pw_St) : Option pw_St := (pw_bi (f_X11_whole σ) fun r1 σ1 => (l_X11_count_9  pw_FU r1 (2400 : Int32) σ1))
def rm_X11_count : Room := { frames := 4, cells := 0, slots := 0, locals := 87 }
set_option maxHeartbeats 4000000 in
set_option maxRecDepth 100000 in
theorem t_X11_count_132 (hC : pw_CX G RX11 cX11_count 4 none p s m args meth c) {k9 : Int32 → Int32 → pw_St → Option pw_St} {τ : pw_St} (hk9 : ∀ (x1 : Int32), ∀ (x2 : Int32), ∀ (σ : pw_St) (H : Heap) (locs : List Loc) (ls : Array Slot), pw_WH G σ s.heap H locs → lv_has ls 4 [(0, .ref (pw_ad G 10)), (1, .int x1), (2, .int x2)] → k9 x1 x2 σ = some τ → W p l e rm_X11_count s m args below meth c H locs 0 0 (MQ below (pw_Qv G τ) args s 0 0 (pw_gA G)) (F0 m 9 ls [])) {x1 : Int32} {x2 : Int32} {y0 : Int64} {y1 : Int32} {σ : pw_St} {H : Heap} {locs : List Loc} {ls : Array Slot} (hw : pw_WH G σ s.heap H locs) (hl : lv_has ls 4 [(0, .ref (pw_ad G 10)), (1, .int x1), (2, .int x2)]) (hf : b_X11_count_132 k9 x1 x2 y0 y1 σ = some τ) : W p l e rm_X11_count s m args below meth c H locs 0 0 (MQ below (pw_Qv G τ) args s 0 0 (pw_gA G)) (F0 m 132 ls [.long y0, .int y1, .ref (pw_ad G 45)]) := by
  have hx := hC.1
  have hb := hC.2.1
  unfold b_X11_count_132 at hf
  obtain ⟨hin, hf⟩ := pw_gd hf
  refine pw_lst hC hw ca_45 hin dX11_count_132 (fun H locs hw => ?_)
  obtain ⟨σ1, e1, hf⟩ := pw_lts hf
  replace hw := pw_WHe e1 hw
  refine lv_iinc (v := (x2 + (-1 : Int32))) (lv' := [(2, .int (x2 + (-1 : Int32))), (0, .ref (pw_ad G 10)), (1, .int x1)]) hx hb dX11_count_133 hl (k := 2) rfl rfl (by decide) rfl (fun ls hl => ?_)
  refine lv_goto (tgt := 9) hx hb dX11_count_136 (by decide) ?_
  exact hk9 _ _ _ _ _ _ hw (lv_sub hl [1, 2, 0] rfl) hf
set_option maxHeartbeats 4000000 in
set_option maxRecDepth 100000 in
theorem t_X11_count_102 (hC : pw_CX G RX11 cX11_count 4 none p s m args meth c) {k9 : Int32 → Int32 → pw_St → Option pw_St} {τ : pw_St} (hk9 : ∀ (x1 : Int32), ∀ (x2 : Int32), ∀ (σ : pw_St) (H : Heap) (locs : List Loc) (ls : Array Slot), pw_WH G σ s.heap H locs → lv_has ls 4 [(0, .ref (pw_ad G 10)), (1, .int x1), (2, .int x2)] → k9 x1 x2 σ = some τ → W p l e rm_X11_count s m args below meth c H locs 0 0 (MQ below (pw_Qv G τ) args s 0 0 (pw_gA G)) (F0 m 9 ls [])) {x1 : Int32} {x2 : Int32} {σ : pw_St} {H : Heap} {locs : List Loc} {ls : Array Slot} (hw : pw_WH G σ s.heap H locs) (hl : lv_has ls 4 [(0, .ref (pw_ad G 10)), (1, .int x1), (2, .int x2)]) (hf : b_X11_count_102 k9 x1 x2 σ = some τ) : W p l e rm_X11_count s m args below meth c H locs 0 0 (MQ below (pw_Qv G τ) args s 0 0 (pw_gA G)) (F0 m 102 ls []) := by
  have hx := hC.1
  have hb := hC.2.1
  unfold b_X11_count_102 at hf
  refine lv_aload_n hx hb dX11_count_102 rfl (lv_at hl 0 rfl) ?_
  refine pg_10_15 hC hw mw_764 dX11_count_103 ?_
  refine lv_iload_n hx hb dX11_count_106 rfl (lv_at hl 2 rfl) ?_
  refine lv_aload_n hx hb dX11_count_107 rfl (lv_at hl 0 rfl) ?_
  refine pg_10_15 hC hw mw_764 dX11_count_108 ?_
  refine lv_iload_n hx hb dX11_count_111 rfl (lv_at hl 2 rfl) ?_
  obtain ⟨hin, hf⟩ := pw_gd hf
  refine pw_lld hC hw ca_45 hin dX11_count_112 ?_
  refine lv_ldc2 hx hb hC.2.2.2.1 (hC.2.2.2.2.1 _ mw_949) dX11_count_113 ?_
  refine W.lcmp hx hb dX11_count_116 ?_
  refine lv_if_le (tgt := 126) hx hb dX11_count_117 (by decide) (fun hc => ?_) (fun hc => ?_)
  · replace hf := pw_ifp hc hf
    refine lv_aload_n hx hb dX11_count_126 rfl (lv_at hl 0 rfl) ?_
    refine pg_10_15 hC hw mw_764 dX11_count_127 ?_
    refine lv_iload_n hx hb dX11_count_130 rfl (lv_at hl 2 rfl) ?_
    obtain ⟨hin, hf⟩ := pw_gd hf
    refine pw_lld hC hw ca_45 hin dX11_count_131 ?_
    exact t_X11_count_132 hC hk9  hw (lv_sub hl [0, 1, 2] rfl) hf
  · replace hf := pw_ifn hc hf
    refine lv_ldc2 hx hb hC.2.2.2.1 (hC.2.2.2.2.1 _ mw_949) dX11_count_120 ?_
    refine lv_goto (tgt := 132) hx hb dX11_count_123 (by decide) ?_
    exact t_X11_count_132 hC hk9  hw (lv_sub hl [0, 1, 2] rfl) hf
set_option maxHeartbeats 4000000 in
set_option maxRecDepth 100000 in
theorem t_X11_count_54 (hC : pw_CX G RX11 cX11_count 4 none p s m args meth c) {k9 : Int32 → Int32 → pw_St → Option pw_St} {k54 : Int32 → Int32 → Int32 → pw_St → Option pw_St} {τ : pw_St} (hk9 : ∀ (x1 : Int32), ∀ (x2 : Int32), ∀ (σ : pw_St) (H : Heap) (locs : List Loc) (ls : Array Slot), pw_WH G σ s.heap H locs → lv_has ls 4 [(0, .ref (pw_ad G 10)), (1, .int x1), (2, .int x2)] → k9 x1 x2 σ = some τ → W p l e rm_X11_count s m args below meth c H locs 0 0 (MQ below (pw_Qv G τ) args s 0 0 (pw_gA G)) (F0 m 9 ls [])) (hk54 : ∀ (x1 : Int32), ∀ (x2 : Int32), ∀ (x3 : Int32), ∀ (σ : pw_St) (H : Heap) (locs : List Loc) (ls : Array Slot), pw_WH G σ s.heap H locs → lv_has ls 4 [(0, .ref (pw_ad G 10)), (1, .int x1), (2, .int x2), (3, .int x3)] → k54 x1 x2 x3 σ = some τ → W p l e rm_X11_count s m args below meth c H locs 0 0 (MQ below (pw_Qv G τ) args s 0 0 (pw_gA G)) (F0 m 54 ls [])) {x1 : Int32} {x2 : Int32} {x3 : Int32} {σ : pw_St} {H : Heap} {locs : List Loc} {ls : Array Slot} (hw : pw_WH G σ s.heap H locs) (hl : lv_has ls 4 [(0, .ref (pw_ad G 10)), (1, .int x1), (2, .int x2), (3, .int x3)]) (hf : b_X11_count_54 k9 k54 x1 x2 x3 σ = some τ) : W p l e rm_X11_count s m args below meth c H locs 0 0 (MQ below (pw_Qv G τ) args s 0 0 (pw_gA G)) (F0 m 54 ls []) := by
  have hx := hC.1
  have hb := hC.2.1
  unfold b_X11_count_54 at hf
  refine lv_iload_n hx hb dX11_count_54 rfl (lv_at hl 3 rfl) ?_
  refine lv_aload_n hx hb dX11_count_55 rfl (lv_at hl 0 rfl) ?_
  refine pg_10_1 hC hw mw_750 dX11_count_56 ?_
  refine lv_icmp_ge (tgt := 102) hx hb dX11_count_59 (by decide) (fun hc => ?_) (fun hc => ?_)
  · replace hf := pw_ifp hc hf
    exact t_X11_count_102 hC hk9  hw (lv_sub hl [0, 1, 2] rfl) hf
  · replace hf := pw_ifn hc hf
    refine lv_iload_n hx hb dX11_count_62 rfl (lv_at hl 2 rfl) ?_
    refine lv_iload_n hx hb dX11_count_63 rfl (lv_at hl 3 rfl) ?_
    obtain ⟨r1, σ1, h1, hf⟩ := pw_bi_some hf
    refine pw_ci hw (pw_runS (As := [.int x2, .int x3]) (rest := []) hC hw (c_X11_part  h1) mw_901 wm_X11_part ⟨Nat.zero_le _, Nat.zero_le _⟩ ⟨rfl, rfl, Nat.le_of_ble_eq_true rfl, Nat.le_of_ble_eq_true rfl⟩ rfl hl.1 rfl (Nat.le_of_ble_eq_true rfl) dX11_count_64) (fun H locs hw => ?_)
    refine lv_aload_n hx hb dX11_count_67 rfl (lv_at hl 0 rfl) ?_
    refine pg_10_2 hC hw mw_751 dX11_count_68 ?_
    refine lv_iload_n hx hb dX11_count_71 rfl (lv_at hl 3 rfl) ?_
    obtain ⟨hin, hf⟩ := pw_gd hf
    refine pw_ild hC hw ca_34 hin dX11_count_72 ?_
    refine lv_icmp_ge (tgt := 96) hx hb dX11_count_73 (by decide) (fun hc => ?_) (fun hc => ?_)
    · replace hf := pw_ifp hc hf
      refine lv_iinc (v := (x3 + (1 : Int32))) (lv' := [(3, .int (x3 + (1 : Int32))), (0, .ref (pw_ad G 10)), (1, .int x1), (2, .int x2)]) hx hb dX11_count_96 hl (k := 3) rfl rfl (by decide) rfl (fun ls hl => ?_)
      refine lv_goto (tgt := 54) hx hb dX11_count_99 (by decide) ?_
      exact hk54 _ _ _ _ _ _ _ hw (lv_sub hl [1, 2, 3, 0] rfl) hf
    · replace hf := pw_ifn hc hf
      refine lv_aload_n hx hb dX11_count_76 rfl (lv_at hl 0 rfl) ?_
      refine pg_10_15 hC hw mw_764 dX11_count_77 ?_
      refine lv_iload_n hx hb dX11_count_80 rfl (lv_at hl 2 rfl) ?_
      refine lv_dup2_11 hx hb dX11_count_81 rfl rfl ?_
      obtain ⟨hin, hf⟩ := pw_gd hf
      refine pw_lld hC hw ca_45 hin dX11_count_82 ?_
      refine lv_aload_n hx hb dX11_count_83 rfl (lv_at hl 0 rfl) ?_
      refine pg_10_15 hC hw mw_764 dX11_count_84 ?_
      refine lv_iload_n hx hb dX11_count_87 rfl (lv_at hl 2 rfl) ?_
      refine lv_iload_n hx hb dX11_count_88 rfl (lv_at hl 3 rfl) ?_
      obtain ⟨r2, σ2, h2, hf⟩ := pw_bi_some hf
      refine pw_ci hw (pw_runS (As := [.int x3]) (rest := [.int x2, .ref (pw_ad G 45), .long (σ1.2 45 x2.toNatClampNeg), .int x2, .ref (pw_ad G 45)]) hC hw (c_X11_unit  h2) mw_904 wm_X11_unit ⟨Nat.zero_le _, Nat.zero_le _⟩ ⟨rfl, rfl, Nat.le_of_ble_eq_true rfl, Nat.le_of_ble_eq_true rfl⟩ rfl hl.1 rfl (Nat.le_of_ble_eq_true rfl) dX11_count_89) (fun H locs hw => ?_)
      refine lv_iadd hx hb dX11_count_92 ?_
      obtain ⟨hin, hf⟩ := pw_gd hf
      refine pw_lld hC hw ca_45 hin dX11_count_93 ?_
      refine lv_ladd hx hb dX11_count_94 ?_
      obtain ⟨hin, hf⟩ := pw_gd hf
      refine pw_lst hC hw ca_45 hin dX11_count_95 (fun H locs hw => ?_)
      obtain ⟨σ3, e3, hf⟩ := pw_lts hf
      replace hw := pw_WHe e3 hw
      refine lv_iinc (v := (x3 + (1 : Int32))) (lv' := [(3, .int (x3 + (1 : Int32))), (0, .ref (pw_ad G 10)), (1, .int x1), (2, .int x2)]) hx hb dX11_count_96 hl (k := 3) rfl rfl (by decide) rfl (fun ls hl => ?_)
      refine lv_goto (tgt := 54) hx hb dX11_count_99 (by decide) ?_
      exact hk54 _ _ _ _ _ _ _ hw (lv_sub hl [1, 2, 3, 0] rfl) hf
set_option maxHeartbeats 4000000 in
theorem tl_X11_count_54 (hC : pw_CX G RX11 cX11_count 4 none p s m args meth c) {k9 : Int32 → Int32 → pw_St → Option pw_St} {τ : pw_St} (hk9 : ∀ (x1 : Int32), ∀ (x2 : Int32), ∀ (σ : pw_St) (H : Heap) (locs : List Loc) (ls : Array Slot), pw_WH G σ s.heap H locs → lv_has ls 4 [(0, .ref (pw_ad G 10)), (1, .int x1), (2, .int x2)] → k9 x1 x2 σ = some τ → W p l e rm_X11_count s m args below meth c H locs 0 0 (MQ below (pw_Qv G τ) args s 0 0 (pw_gA G)) (F0 m 9 ls [])) : ∀ (n : Nat) (x1 : Int32) (x2 : Int32) (x3 : Int32) (σ : pw_St) (H : Heap) (locs : List Loc) (ls : Array Slot), pw_WH G σ s.heap H locs → lv_has ls 4 [(0, .ref (pw_ad G 10)), (1, .int x1), (2, .int x2), (3, .int x3)] → l_X11_count_54 k9 n x1 x2 x3 σ = some τ → W p l e rm_X11_count s m args below meth c H locs 0 0 (MQ below (pw_Qv G τ) args s 0 0 (pw_gA G)) (F0 m 54 ls []) := by
  intro n
  induction n with
  | zero => intro x1 x2 x3 σ H locs ls hw hl hf; cases hf
  | succ n ih => intro x1 x2 x3 σ H locs ls hw hl hf; exact t_X11_count_54 hC hk9 ih  hw hl hf
set_option maxHeartbeats 4000000 in
set_option maxRecDepth 100000 in
theorem t_X11_count_9 (hC : pw_CX G RX11 cX11_count 4 none p s m args meth c) {k9 : Int32 → Int32 → pw_St → Option pw_St} {τ : pw_St} (hk9 : ∀ (x1 : Int32), ∀ (x2 : Int32), ∀ (σ : pw_St) (H : Heap) (locs : List Loc) (ls : Array Slot), pw_WH G σ s.heap H locs → lv_has ls 4 [(0, .ref (pw_ad G 10)), (1, .int x1), (2, .int x2)] → k9 x1 x2 σ = some τ → W p l e rm_X11_count s m args below meth c H locs 0 0 (MQ below (pw_Qv G τ) args s 0 0 (pw_gA G)) (F0 m 9 ls [])) {x1 : Int32} {x2 : Int32} {σ : pw_St} {H : Heap} {locs : List Loc} {ls : Array Slot} (hw : pw_WH G σ s.heap H locs) (hl : lv_has ls 4 [(0, .ref (pw_ad G 10)), (1, .int x1), (2, .int x2)]) (hf : b_X11_count_9 k9 x1 x2 σ = some τ) : W p l e rm_X11_count s m args below meth c H locs 0 0 (MQ below (pw_Qv G τ) args s 0 0 (pw_gA G)) (F0 m 9 ls []) := by
  have hx := hC.1
  have hb := hC.2.1
  unfold b_X11_count_9 at hf
  refine lv_iload_n hx hb dX11_count_9 rfl (lv_at hl 2 rfl) ?_
  refine lv_if_lt (tgt := 139) hx hb dX11_count_10 (by decide) (fun hc => ?_) (fun hc => ?_)
  · replace hf := pw_ifp hc hf
    exact pw_vret hC hw hf dX11_count_139
  · replace hf := pw_ifn hc hf
    refine lv_aload_n hx hb dX11_count_13 rfl (lv_at hl 0 rfl) ?_
    refine pg_10_15 hC hw mw_764 dX11_count_14 ?_
    refine lv_iload_n hx hb dX11_count_17 rfl (lv_at hl 2 rfl) ?_
    refine lv_lconst (v := 0) hx hb dX11_count_18 (by decide) ?_
    obtain ⟨hin, hf⟩ := pw_gd hf
    refine pw_lst hC hw ca_45 hin dX11_count_19 (fun H locs hw => ?_)
    obtain ⟨σ1, e1, hf⟩ := pw_lts hf
    replace hw := pw_WHe e1 hw
    refine lv_aload_n hx hb dX11_count_20 rfl (lv_at hl 0 rfl) ?_
    refine lv_iload_n hx hb dX11_count_21 rfl (lv_at hl 2 rfl) ?_
    obtain ⟨r2, σ2, h2, hf⟩ := pw_bi_some hf
    refine pw_ci hw (pw_runV (As := [.int x2]) (rest := []) hC hw (c_X11_isPossible  h2) mw_907 wm_X11_isPossible ⟨Nat.zero_le _, Nat.zero_le _⟩ ⟨rfl, rfl, Nat.le_of_ble_eq_true rfl, Nat.le_of_ble_eq_true rfl⟩ (by decide) rfl rfl rfl hl.1 rfl (Nat.le_of_ble_eq_true rfl) dX11_count_22) (fun H locs hw => ?_)
    refine lv_if_eq (tgt := 133) hx hb dX11_count_25 (by decide) (fun hc => ?_) (fun hc => ?_)
    · replace hf := pw_ifp hc hf
      refine lv_iinc (v := (x2 + (-1 : Int32))) (lv' := [(2, .int (x2 + (-1 : Int32))), (0, .ref (pw_ad G 10)), (1, .int x1)]) hx hb dX11_count_133 hl (k := 2) rfl rfl (by decide) rfl (fun ls hl => ?_)
      refine lv_goto (tgt := 9) hx hb dX11_count_136 (by decide) ?_
      exact hk9 _ _ _ _ _ _ hw (lv_sub hl [1, 2, 0] rfl) hf
    · replace hf := pw_ifn hc hf
      refine lv_aload_n hx hb dX11_count_28 rfl (lv_at hl 0 rfl) ?_
      refine pg_10_14 hC hw mw_763 dX11_count_29 ?_
      refine lv_iload_n hx hb dX11_count_32 rfl (lv_at hl 2 rfl) ?_
      obtain ⟨hin, hf⟩ := pw_gd hf
      refine pw_zld hC hw ca_44 hin dX11_count_33 ?_
      refine lv_if_eq (tgt := 40) hx hb dX11_count_34 (by decide) (fun hc => ?_) (fun hc => ?_)
      · replace hf := pw_ifp hc hf
        refine lv_iload_n hx hb dX11_count_40 rfl (lv_at hl 2 rfl) ?_
        refine lv_iload_n hx hb dX11_count_41 rfl (lv_at hl 1 rfl) ?_
        refine lv_icmp_ne (tgt := 52) hx hb dX11_count_42 (by decide) (fun hc => ?_) (fun hc => ?_)
        · replace hf := pw_ifn hc hf
          refine lv_iconst (v := 0) hx hb dX11_count_52 (by decide) ?_
          refine lv_istore_n (lv' := [(3, .int (0 : Int32)), (0, .ref (pw_ad G 10)), (1, .int x1), (2, .int x2)]) hx hb dX11_count_53 rfl hl (by decide) rfl (fun ls hl => ?_)
          exact tl_X11_count_54 hC hk9 pw_FU _ _ _ _ _ _ _ hw (lv_sub hl [1, 2, 3, 0] rfl) hf
        · replace hf := pw_ifp hc hf
          refine lv_aload_n hx hb dX11_count_45 rfl (lv_at hl 0 rfl) ?_
          refine pg_10_15 hC hw mw_764 dX11_count_46 ?_
          refine lv_iload_n hx hb dX11_count_49 rfl (lv_at hl 2 rfl) ?_
          refine lv_lconst (v := 1) hx hb dX11_count_50 (by decide) ?_
          obtain ⟨hin, hf⟩ := pw_gd hf
          refine pw_lst hC hw ca_45 hin dX11_count_51 (fun H locs hw => ?_)
          obtain ⟨σ3, e3, hf⟩ := pw_lts hf
          replace hw := pw_WHe e3 hw
          refine lv_iconst (v := 0) hx hb dX11_count_52 (by decide) ?_
          refine lv_istore_n (lv' := [(3, .int (0 : Int32)), (0, .ref (pw_ad G 10)), (1, .int x1), (2, .int x2)]) hx hb dX11_count_53 rfl hl (by decide) rfl (fun ls hl => ?_)
          exact tl_X11_count_54 hC hk9 pw_FU _ _ _ _ _ _ _ hw (lv_sub hl [1, 2, 3, 0] rfl) hf
      · replace hf := pw_ifn hc hf
        refine lv_goto (tgt := 133) hx hb dX11_count_37 (by decide) ?_
        refine lv_iinc (v := (x2 + (-1 : Int32))) (lv' := [(2, .int (x2 + (-1 : Int32))), (0, .ref (pw_ad G 10)), (1, .int x1)]) hx hb dX11_count_133 hl (k := 2) rfl rfl (by decide) rfl (fun ls hl => ?_)
        refine lv_goto (tgt := 9) hx hb dX11_count_136 (by decide) ?_
        exact hk9 _ _ _ _ _ _ hw (lv_sub hl [1, 2, 0] rfl) hf
set_option maxHeartbeats 4000000 in
theorem tl_X11_count_9 (hC : pw_CX G RX11 cX11_count 4 none p s m args meth c) {τ : pw_St} : ∀ (n : Nat) (x1 : Int32) (x2 : Int32) (σ : pw_St) (H : Heap) (locs : List Loc) (ls : Array Slot), pw_WH G σ s.heap H locs → lv_has ls 4 [(0, .ref (pw_ad G 10)), (1, .int x1), (2, .int x2)] → l_X11_count_9  n x1 x2 σ = some τ → W p l e rm_X11_count s m args below meth c H locs 0 0 (MQ below (pw_Qv G τ) args s 0 0 (pw_gA G)) (F0 m 9 ls []) := by
  intro n
  induction n with
  | zero => intro x1 x2 σ H locs ls hw hl hf; cases hf
  | succ n ih => intro x1 x2 σ H locs ls hw hl hf; exact t_X11_count_9 hC ih  hw hl hf
set_option maxHeartbeats 4000000 in
set_option maxRecDepth 100000 in
theorem c_X11_count {l : Launch} {G : pw_Gh} {σ : pw_St} {τ : pw_St} (hf : f_X11_count σ = some τ) : Met l yX11_count (.code yX11_count cX11_count 4 none :: pw_BW) rm_X11_count (pw_Pc G [.ref (pw_ad G 10)] σ) (pw_Qv G τ) 0 0 (pw_gA G) := by
  refine pw_met (by decide +kernel) (Nat.le_of_ble_eq_true rfl) ?_
  intro p e s m args below meth c ls hC hw hl
  replace hl : lv_has ls 4 [(0, .ref (pw_ad G 10))] := hl
  have hx := hC.1
  have hb := hC.2.1
  unfold f_X11_count at hf
  refine lv_aload_n hx hb dX11_count_0 rfl (lv_at hl 0 rfl) ?_
  obtain ⟨r1, σ1, h1, hf⟩ := pw_bi_some hf
  refine pw_ci hw (pw_runV (As := []) (rest := []) hC hw (c_X11_whole  h1) mw_945 wm_X11_whole ⟨Nat.zero_le _, Nat.zero_le _⟩ ⟨rfl, rfl, Nat.le_of_ble_eq_true rfl, Nat.le_of_ble_eq_true rfl⟩ (by decide) rfl rfl rfl hl.1 rfl (Nat.le_of_ble_eq_true rfl) dX11_count_1) (fun H locs hw => ?_)
  refine lv_istore_n (lv' := [(1, .int r1), (0, .ref (pw_ad G 10))]) hx hb dX11_count_4 rfl hl (by decide) rfl (fun ls hl => ?_)
  refine lv_sipush (v := 2400) hx hb dX11_count_5 (by decide) ?_
  refine lv_istore_n (lv' := [(2, .int (2400 : Int32)), (1, .int r1), (0, .ref (pw_ad G 10))]) hx hb dX11_count_8 rfl hl (by decide) rfl (fun ls hl => ?_)
  exact tl_X11_count_9 hC  pw_FU _ _ _ _ _ _ hw (lv_sub hl [2, 1, 0] rfl) hf
-- PerhapsWasModel orders
def f_X11_orders (σ : pw_St) : Option (Int64 × pw_St) := (pw_bv (f_X11_open σ) fun σ1 => (pw_bv (f_X11_count σ1) fun σ2 => (if pw_in (0 : Int32) 2401 = true then (some ((σ2.2 45 (0 : Int32).toNatClampNeg), σ2)) else none)))
def rm_X11_orders : Room := { frames := 5, cells := 0, slots := 0, locals := 110 }
set_option maxHeartbeats 4000000 in
set_option maxRecDepth 100000 in
theorem c_X11_orders {l : Launch} {G : pw_Gh} {σ : pw_St} {r : Int64} {τ : pw_St} (hf : f_X11_orders σ = some (r, τ)) : Met l yX11_orders (.code yX11_orders cX11_orders 1 (some .long) :: pw_BW) rm_X11_orders (pw_Pc G [.ref (pw_ad G 10)] σ) (pw_Ql G r τ) 0 0 (pw_gA G) := by
  refine pw_met (by decide +kernel) (Nat.le_of_ble_eq_true rfl) ?_
  intro p e s m args below meth c ls hC hw hl
  replace hl : lv_has ls 1 [(0, .ref (pw_ad G 10))] := hl
  have hx := hC.1
  have hb := hC.2.1
  unfold f_X11_orders at hf
  refine lv_aload_n hx hb dX11_orders_0 rfl (lv_at hl 0 rfl) ?_
  obtain ⟨σ1, h1, hf⟩ := pw_bv_some hf
  refine pw_cv hw (pw_runV (As := []) (rest := []) hC hw (c_X11_open  h1) mw_937 wm_X11_open ⟨Nat.zero_le _, Nat.zero_le _⟩ ⟨rfl, rfl, Nat.le_of_ble_eq_true rfl, Nat.le_of_ble_eq_true rfl⟩ (by decide) rfl rfl rfl hl.1 rfl (Nat.le_of_ble_eq_true rfl) dX11_orders_1) (fun H locs hw => ?_)
  refine lv_aload_n hx hb dX11_orders_4 rfl (lv_at hl 0 rfl) ?_
  obtain ⟨σ2, h2, hf⟩ := pw_bv_some hf
  refine pw_cv hw (pw_runV (As := []) (rest := []) hC hw (c_X11_count  h2) mw_941 wm_X11_count ⟨Nat.zero_le _, Nat.zero_le _⟩ ⟨rfl, rfl, Nat.le_of_ble_eq_true rfl, Nat.le_of_ble_eq_true rfl⟩ (by decide) rfl rfl rfl hl.1 rfl (Nat.le_of_ble_eq_true rfl) dX11_orders_5) (fun H locs hw => ?_)
  refine lv_aload_n hx hb dX11_orders_8 rfl (lv_at hl 0 rfl) ?_
  refine pg_10_15 hC hw mw_764 dX11_orders_9 ?_
  refine lv_iconst (v := 0) hx hb dX11_orders_12 (by decide) ?_
  obtain ⟨hin, hf⟩ := pw_gd hf
  refine pw_lld hC hw ca_45 hin dX11_orders_13 ?_
  exact pw_lret hC hw hf dX11_orders_14
-- PerhapsWasModel walk
def b_X11_walk_99 (k9 : Int32 → Int32 → Int64 → Int32 → pw_St → Option (Int32 × pw_St)) (x3 : Int32) (x4 : Int32) (x5 : Int64) (x7 : Int32) (x8 : Int32) (σ : pw_St) : Option (Int32 × pw_St) := (pw_bi (f_X11_unit x8 σ) fun r1 σ1 => (if x7 = x3 then (some (x8, σ1)) else (k9 x3 (x4 + r1) x5 (x7 + (1 : Int32)) σ1)))
def b_X11_walk_90 (k9 : Int32 → Int32 → Int64 → Int32 → pw_St → Option (Int32 × pw_St)) (k18 : Int32 → Int32 → Int64 → Int32 → Int32 → pw_St → Option (Int32 × pw_St)) (x3 : Int32) (x4 : Int32) (x7 : Int32) (x8 : Int32) (y0 : Int64) (y1 : Int64) (σ : pw_St) : Option (Int32 × pw_St) := (k18 x3 x4 (y1 - y0) x7 (x8 + (1 : Int32)) σ)
def b_X11_walk_54 (k9 : Int32 → Int32 → Int64 → Int32 → pw_St → Option (Int32 × pw_St)) (k18 : Int32 → Int32 → Int64 → Int32 → Int32 → pw_St → Option (Int32 × pw_St)) (x3 : Int32) (x4 : Int32) (x5 : Int64) (x7 : Int32) (x8 : Int32) (σ : pw_St) : Option (Int32 × pw_St) := (pw_bi (f_X11_part x4 x8 σ) fun r1 σ1 => (if pw_in x8 4 = true then (if r1 = (σ1.1 34 x8.toNatClampNeg) then (b_X11_walk_90 k9 k18 x3 x4 x7 x8 (0 : Int64) x5 σ1) else (pw_bi (f_X11_unit x8 σ1) fun r2 σ2 => (if pw_in (x4 + r2) 2401 = true then (b_X11_walk_90 k9 k18 x3 x4 x7 x8 (σ2.2 45 (x4 + r2).toNatClampNeg) x5 σ2) else none))) else none))
def b_X11_walk_18 (k9 : Int32 → Int32 → Int64 → Int32 → pw_St → Option (Int32 × pw_St)) (k18 : Int32 → Int32 → Int64 → Int32 → Int32 → pw_St → Option (Int32 × pw_St)) (x3 : Int32) (x4 : Int32) (x5 : Int64) (x7 : Int32) (x8 : Int32) (σ : pw_St) : Option (Int32 × pw_St) := (pw_bi (f_X11_part x4 x8 σ) fun r1 σ1 => (if pw_in x8 4 = true then (if r1 = (σ1.1 34 x8.toNatClampNeg) then (b_X11_walk_54 k9 k18 x3 x4 x5 x7 x8 σ1) else (pw_bi (f_X11_unit x8 σ1) fun r2 σ2 => (if pw_in (x4 + r2) 2401 = true then (if (lg_cmp x5 (σ2.2 45 (x4 + r2).toNatClampNeg)) < 0 then (b_X11_walk_99 k9 x3 x4 x5 x7 x8 σ2) else (b_X11_walk_54 k9 k18 x3 x4 x5 x7 x8 σ2)) else none))) else none))
def l_X11_walk_18 (k9 : Int32 → Int32 → Int64 → Int32 → pw_St → Option (Int32 × pw_St)) : Nat → Int32 → Int32 → Int64 → Int32 → Int32 → pw_St → Option (Int32 × pw_St)
  | 0 => fun _ _ _ _ _ _ => none
  | n + 1 => fun x3 x4 x5 x7 x8 σ => b_X11_walk_18 k9 (l_X11_walk_18 k9 n) x3 x4 x5 x7 x8 σ
def b_X11_walk_9 (k9 : Int32 → Int32 → Int64 → Int32 → pw_St → Option (Int32 × pw_St)) (x3 : Int32) (x4 : Int32) (x5 : Int64) (x7 : Int32) (σ : pw_St) : Option (Int32 × pw_St) := (if x3 < x7 then (some ((-1 : Int32), σ)) else (l_X11_walk_18 k9 pw_FU x3 x4 x5 x7 (0 : Int32) σ))
def l_X11_walk_9 : Nat → Int32 → Int32 → Int64 → Int32 → pw_St → Option (Int32 × pw_St)
  | 0 => fun _ _ _ _ _ => none
  | n + 1 => fun x3 x4 x5 x7 σ => b_X11_walk_9  (l_X11_walk_9  n) x3 x4 x5 x7 σ
def f_X11_walk (x1 : Int64) (x3 : Int32) (σ : pw_St) : Option (Int32 × pw_St) := (l_X11_walk_9  pw_FU x3 (0 : Int32) x1 (0 : Int32) σ)
def rm_X11_walk : Room := { frames := 2, cells := 0, slots := 0, locals := 41 }
set_option maxHeartbeats 4000000 in
set_option maxRecDepth 100000 in
theorem t_X11_walk_99 (hC : pw_CX G RX11 cX11_walk 9 (some .int) p s m args meth c) {k9 : Int32 → Int32 → Int64 → Int32 → pw_St → Option (Int32 × pw_St)} {r : Int32} {τ : pw_St} (hk9 : ∀ (x3 : Int32), ∀ (x4 : Int32), ∀ (x5 : Int64), ∀ (x7 : Int32), ∀ (σ : pw_St) (H : Heap) (locs : List Loc) (ls : Array Slot), pw_WH G σ s.heap H locs → lv_has ls 9 [(0, .ref (pw_ad G 10)), (3, .int x3), (4, .int x4), (5, .long x5), (7, .int x7)] → k9 x3 x4 x5 x7 σ = some (r, τ) → W p l e rm_X11_walk s m args below meth c H locs 0 0 (MQ below (pw_Qi G r τ) args s 0 0 (pw_gA G)) (F0 m 9 ls [])) {x3 : Int32} {x4 : Int32} {x5 : Int64} {x7 : Int32} {x8 : Int32} {σ : pw_St} {H : Heap} {locs : List Loc} {ls : Array Slot} (hw : pw_WH G σ s.heap H locs) (hl : lv_has ls 9 [(0, .ref (pw_ad G 10)), (3, .int x3), (4, .int x4), (5, .long x5), (7, .int x7), (8, .int x8)]) (hf : b_X11_walk_99 k9 x3 x4 x5 x7 x8 σ = some (r, τ)) : W p l e rm_X11_walk s m args below meth c H locs 0 0 (MQ below (pw_Qi G r τ) args s 0 0 (pw_gA G)) (F0 m 99 ls []) := by
  have hx := hC.1
  have hb := hC.2.1
  unfold b_X11_walk_99 at hf
  refine lv_iload hx hb dX11_walk_99 (lv_at hl 2 rfl) ?_
  refine lv_iload hx hb dX11_walk_101 (lv_at hl 5 rfl) ?_
  obtain ⟨r1, σ1, h1, hf⟩ := pw_bi_some hf
  refine pw_ci hw (pw_runS (As := [.int x8]) (rest := [.int x4]) hC hw (c_X11_unit  h1) mw_904 wm_X11_unit ⟨Nat.zero_le _, Nat.zero_le _⟩ ⟨rfl, rfl, Nat.le_of_ble_eq_true rfl, Nat.le_of_ble_eq_true rfl⟩ rfl hl.1 rfl (Nat.le_of_ble_eq_true rfl) dX11_walk_103) (fun H locs hw => ?_)
  refine lv_iadd hx hb dX11_walk_106 ?_
  refine lv_istore (lv' := [(4, .int (x4 + r1)), (0, .ref (pw_ad G 10)), (3, .int x3), (5, .long x5), (7, .int x7), (8, .int x8)]) hx hb dX11_walk_107 hl (by decide) rfl (fun ls hl => ?_)
  refine lv_iload hx hb dX11_walk_109 (lv_at hl 4 rfl) ?_
  refine lv_iload_n hx hb dX11_walk_111 rfl (lv_at hl 2 rfl) ?_
  refine lv_icmp_ne (tgt := 118) hx hb dX11_walk_112 (by decide) (fun hc => ?_) (fun hc => ?_)
  · replace hf := pw_ifn hc hf
    refine lv_iinc (v := (x7 + (1 : Int32))) (lv' := [(7, .int (x7 + (1 : Int32))), (4, .int (x4 + r1)), (0, .ref (pw_ad G 10)), (3, .int x3), (5, .long x5), (8, .int x8)]) hx hb dX11_walk_118 hl (k := 4) rfl rfl (by decide) rfl (fun ls hl => ?_)
    refine lv_goto (tgt := 9) hx hb dX11_walk_121 (by decide) ?_
    exact hk9 _ _ _ _ _ _ _ _ hw (lv_sub hl [2, 3, 1, 4, 0] rfl) hf
  · replace hf := pw_ifp hc hf
    refine lv_iload hx hb dX11_walk_115 (lv_at hl 5 rfl) ?_
    exact pw_iret hC hw hf dX11_walk_117
set_option maxHeartbeats 4000000 in
set_option maxRecDepth 100000 in
theorem t_X11_walk_90 (hC : pw_CX G RX11 cX11_walk 9 (some .int) p s m args meth c) {k9 : Int32 → Int32 → Int64 → Int32 → pw_St → Option (Int32 × pw_St)} {k18 : Int32 → Int32 → Int64 → Int32 → Int32 → pw_St → Option (Int32 × pw_St)} {r : Int32} {τ : pw_St} (hk9 : ∀ (x3 : Int32), ∀ (x4 : Int32), ∀ (x5 : Int64), ∀ (x7 : Int32), ∀ (σ : pw_St) (H : Heap) (locs : List Loc) (ls : Array Slot), pw_WH G σ s.heap H locs → lv_has ls 9 [(0, .ref (pw_ad G 10)), (3, .int x3), (4, .int x4), (5, .long x5), (7, .int x7)] → k9 x3 x4 x5 x7 σ = some (r, τ) → W p l e rm_X11_walk s m args below meth c H locs 0 0 (MQ below (pw_Qi G r τ) args s 0 0 (pw_gA G)) (F0 m 9 ls [])) (hk18 : ∀ (x3 : Int32), ∀ (x4 : Int32), ∀ (x5 : Int64), ∀ (x7 : Int32), ∀ (x8 : Int32), ∀ (σ : pw_St) (H : Heap) (locs : List Loc) (ls : Array Slot), pw_WH G σ s.heap H locs → lv_has ls 9 [(0, .ref (pw_ad G 10)), (3, .int x3), (4, .int x4), (5, .long x5), (7, .int x7), (8, .int x8)] → k18 x3 x4 x5 x7 x8 σ = some (r, τ) → W p l e rm_X11_walk s m args below meth c H locs 0 0 (MQ below (pw_Qi G r τ) args s 0 0 (pw_gA G)) (F0 m 18 ls [])) {x3 : Int32} {x4 : Int32} {x7 : Int32} {x8 : Int32} {y0 : Int64} {y1 : Int64} {σ : pw_St} {H : Heap} {locs : List Loc} {ls : Array Slot} (hw : pw_WH G σ s.heap H locs) (hl : lv_has ls 9 [(0, .ref (pw_ad G 10)), (3, .int x3), (4, .int x4), (7, .int x7), (8, .int x8)]) (hf : b_X11_walk_90 k9 k18 x3 x4 x7 x8 y0 y1 σ = some (r, τ)) : W p l e rm_X11_walk s m args below meth c H locs 0 0 (MQ below (pw_Qi G r τ) args s 0 0 (pw_gA G)) (F0 m 90 ls [.long y0, .long y1]) := by
  have hx := hC.1
  have hb := hC.2.1
  unfold b_X11_walk_90 at hf
  refine lv_lsub hx hb dX11_walk_90 ?_
  refine lv_lstore (lv' := [(5, .long (y1 - y0)), (0, .ref (pw_ad G 10)), (3, .int x3), (4, .int x4), (7, .int x7), (8, .int x8)]) hx hb dX11_walk_91 hl (by decide) rfl (fun ls hl => ?_)
  refine lv_iinc (v := (x8 + (1 : Int32))) (lv' := [(8, .int (x8 + (1 : Int32))), (5, .long (y1 - y0)), (0, .ref (pw_ad G 10)), (3, .int x3), (4, .int x4), (7, .int x7)]) hx hb dX11_walk_93 hl (k := 5) rfl rfl (by decide) rfl (fun ls hl => ?_)
  refine lv_goto (tgt := 18) hx hb dX11_walk_96 (by decide) ?_
  exact hk18 _ _ _ _ _ _ _ _ _ hw (lv_sub hl [2, 3, 4, 1, 5, 0] rfl) hf
set_option maxHeartbeats 4000000 in
set_option maxRecDepth 100000 in
theorem t_X11_walk_54 (hC : pw_CX G RX11 cX11_walk 9 (some .int) p s m args meth c) {k9 : Int32 → Int32 → Int64 → Int32 → pw_St → Option (Int32 × pw_St)} {k18 : Int32 → Int32 → Int64 → Int32 → Int32 → pw_St → Option (Int32 × pw_St)} {r : Int32} {τ : pw_St} (hk9 : ∀ (x3 : Int32), ∀ (x4 : Int32), ∀ (x5 : Int64), ∀ (x7 : Int32), ∀ (σ : pw_St) (H : Heap) (locs : List Loc) (ls : Array Slot), pw_WH G σ s.heap H locs → lv_has ls 9 [(0, .ref (pw_ad G 10)), (3, .int x3), (4, .int x4), (5, .long x5), (7, .int x7)] → k9 x3 x4 x5 x7 σ = some (r, τ) → W p l e rm_X11_walk s m args below meth c H locs 0 0 (MQ below (pw_Qi G r τ) args s 0 0 (pw_gA G)) (F0 m 9 ls [])) (hk18 : ∀ (x3 : Int32), ∀ (x4 : Int32), ∀ (x5 : Int64), ∀ (x7 : Int32), ∀ (x8 : Int32), ∀ (σ : pw_St) (H : Heap) (locs : List Loc) (ls : Array Slot), pw_WH G σ s.heap H locs → lv_has ls 9 [(0, .ref (pw_ad G 10)), (3, .int x3), (4, .int x4), (5, .long x5), (7, .int x7), (8, .int x8)] → k18 x3 x4 x5 x7 x8 σ = some (r, τ) → W p l e rm_X11_walk s m args below meth c H locs 0 0 (MQ below (pw_Qi G r τ) args s 0 0 (pw_gA G)) (F0 m 18 ls [])) {x3 : Int32} {x4 : Int32} {x5 : Int64} {x7 : Int32} {x8 : Int32} {σ : pw_St} {H : Heap} {locs : List Loc} {ls : Array Slot} (hw : pw_WH G σ s.heap H locs) (hl : lv_has ls 9 [(0, .ref (pw_ad G 10)), (3, .int x3), (4, .int x4), (5, .long x5), (7, .int x7), (8, .int x8)]) (hf : b_X11_walk_54 k9 k18 x3 x4 x5 x7 x8 σ = some (r, τ)) : W p l e rm_X11_walk s m args below meth c H locs 0 0 (MQ below (pw_Qi G r τ) args s 0 0 (pw_gA G)) (F0 m 54 ls []) := by
  have hx := hC.1
  have hb := hC.2.1
  unfold b_X11_walk_54 at hf
  refine lv_lload hx hb dX11_walk_54 (lv_at hl 3 rfl) ?_
  refine lv_iload hx hb dX11_walk_56 (lv_at hl 2 rfl) ?_
  refine lv_iload hx hb dX11_walk_58 (lv_at hl 5 rfl) ?_
  obtain ⟨r1, σ1, h1, hf⟩ := pw_bi_some hf
  refine pw_ci hw (pw_runS (As := [.int x4, .int x8]) (rest := [.long x5]) hC hw (c_X11_part  h1) mw_901 wm_X11_part ⟨Nat.zero_le _, Nat.zero_le _⟩ ⟨rfl, rfl, Nat.le_of_ble_eq_true rfl, Nat.le_of_ble_eq_true rfl⟩ rfl hl.1 rfl (Nat.le_of_ble_eq_true rfl) dX11_walk_60) (fun H locs hw => ?_)
  refine lv_aload_n hx hb dX11_walk_63 rfl (lv_at hl 0 rfl) ?_
  refine pg_10_2 hC hw mw_751 dX11_walk_64 ?_
  refine lv_iload hx hb dX11_walk_67 (lv_at hl 5 rfl) ?_
  obtain ⟨hin, hf⟩ := pw_gd hf
  refine pw_ild hC hw ca_34 hin dX11_walk_69 ?_
  refine lv_icmp_ne (tgt := 77) hx hb dX11_walk_70 (by decide) (fun hc => ?_) (fun hc => ?_)
  · replace hf := pw_ifn hc hf
    refine lv_aload_n hx hb dX11_walk_77 rfl (lv_at hl 0 rfl) ?_
    refine pg_10_15 hC hw mw_764 dX11_walk_78 ?_
    refine lv_iload hx hb dX11_walk_81 (lv_at hl 2 rfl) ?_
    refine lv_iload hx hb dX11_walk_83 (lv_at hl 5 rfl) ?_
    obtain ⟨r2, σ2, h2, hf⟩ := pw_bi_some hf
    refine pw_ci hw (pw_runS (As := [.int x8]) (rest := [.int x4, .ref (pw_ad G 45), .long x5]) hC hw (c_X11_unit  h2) mw_904 wm_X11_unit ⟨Nat.zero_le _, Nat.zero_le _⟩ ⟨rfl, rfl, Nat.le_of_ble_eq_true rfl, Nat.le_of_ble_eq_true rfl⟩ rfl hl.1 rfl (Nat.le_of_ble_eq_true rfl) dX11_walk_85) (fun H locs hw => ?_)
    refine lv_iadd hx hb dX11_walk_88 ?_
    obtain ⟨hin, hf⟩ := pw_gd hf
    refine pw_lld hC hw ca_45 hin dX11_walk_89 ?_
    exact t_X11_walk_90 hC hk9 hk18  hw (lv_sub hl [0, 1, 2, 4, 5] rfl) hf
  · replace hf := pw_ifp hc hf
    refine lv_lconst (v := 0) hx hb dX11_walk_73 (by decide) ?_
    refine lv_goto (tgt := 90) hx hb dX11_walk_74 (by decide) ?_
    exact t_X11_walk_90 hC hk9 hk18  hw (lv_sub hl [0, 1, 2, 4, 5] rfl) hf
set_option maxHeartbeats 4000000 in
set_option maxRecDepth 100000 in
theorem t_X11_walk_18 (hC : pw_CX G RX11 cX11_walk 9 (some .int) p s m args meth c) {k9 : Int32 → Int32 → Int64 → Int32 → pw_St → Option (Int32 × pw_St)} {k18 : Int32 → Int32 → Int64 → Int32 → Int32 → pw_St → Option (Int32 × pw_St)} {r : Int32} {τ : pw_St} (hk9 : ∀ (x3 : Int32), ∀ (x4 : Int32), ∀ (x5 : Int64), ∀ (x7 : Int32), ∀ (σ : pw_St) (H : Heap) (locs : List Loc) (ls : Array Slot), pw_WH G σ s.heap H locs → lv_has ls 9 [(0, .ref (pw_ad G 10)), (3, .int x3), (4, .int x4), (5, .long x5), (7, .int x7)] → k9 x3 x4 x5 x7 σ = some (r, τ) → W p l e rm_X11_walk s m args below meth c H locs 0 0 (MQ below (pw_Qi G r τ) args s 0 0 (pw_gA G)) (F0 m 9 ls [])) (hk18 : ∀ (x3 : Int32), ∀ (x4 : Int32), ∀ (x5 : Int64), ∀ (x7 : Int32), ∀ (x8 : Int32), ∀ (σ : pw_St) (H : Heap) (locs : List Loc) (ls : Array Slot), pw_WH G σ s.heap H locs → lv_has ls 9 [(0, .ref (pw_ad G 10)), (3, .int x3), (4, .int x4), (5, .long x5), (7, .int x7), (8, .int x8)] → k18 x3 x4 x5 x7 x8 σ = some (r, τ) → W p l e rm_X11_walk s m args below meth c H locs 0 0 (MQ below (pw_Qi G r τ) args s 0 0 (pw_gA G)) (F0 m 18 ls [])) {x3 : Int32} {x4 : Int32} {x5 : Int64} {x7 : Int32} {x8 : Int32} {σ : pw_St} {H : Heap} {locs : List Loc} {ls : Array Slot} (hw : pw_WH G σ s.heap H locs) (hl : lv_has ls 9 [(0, .ref (pw_ad G 10)), (3, .int x3), (4, .int x4), (5, .long x5), (7, .int x7), (8, .int x8)]) (hf : b_X11_walk_18 k9 k18 x3 x4 x5 x7 x8 σ = some (r, τ)) : W p l e rm_X11_walk s m args below meth c H locs 0 0 (MQ below (pw_Qi G r τ) args s 0 0 (pw_gA G)) (F0 m 18 ls []) := by
  have hx := hC.1
  have hb := hC.2.1
  unfold b_X11_walk_18 at hf
  refine lv_iload hx hb dX11_walk_18 (lv_at hl 2 rfl) ?_
  refine lv_iload hx hb dX11_walk_20 (lv_at hl 5 rfl) ?_
  obtain ⟨r1, σ1, h1, hf⟩ := pw_bi_some hf
  refine pw_ci hw (pw_runS (As := [.int x4, .int x8]) (rest := []) hC hw (c_X11_part  h1) mw_901 wm_X11_part ⟨Nat.zero_le _, Nat.zero_le _⟩ ⟨rfl, rfl, Nat.le_of_ble_eq_true rfl, Nat.le_of_ble_eq_true rfl⟩ rfl hl.1 rfl (Nat.le_of_ble_eq_true rfl) dX11_walk_22) (fun H locs hw => ?_)
  refine lv_aload_n hx hb dX11_walk_25 rfl (lv_at hl 0 rfl) ?_
  refine pg_10_2 hC hw mw_751 dX11_walk_26 ?_
  refine lv_iload hx hb dX11_walk_29 (lv_at hl 5 rfl) ?_
  obtain ⟨hin, hf⟩ := pw_gd hf
  refine pw_ild hC hw ca_34 hin dX11_walk_31 ?_
  refine lv_icmp_eq (tgt := 54) hx hb dX11_walk_32 (by decide) (fun hc => ?_) (fun hc => ?_)
  · replace hf := pw_ifp hc hf
    exact t_X11_walk_54 hC hk9 hk18  hw (lv_sub hl [0, 1, 2, 3, 4, 5] rfl) hf
  · replace hf := pw_ifn hc hf
    refine lv_lload hx hb dX11_walk_35 (lv_at hl 3 rfl) ?_
    refine lv_aload_n hx hb dX11_walk_37 rfl (lv_at hl 0 rfl) ?_
    refine pg_10_15 hC hw mw_764 dX11_walk_38 ?_
    refine lv_iload hx hb dX11_walk_41 (lv_at hl 2 rfl) ?_
    refine lv_iload hx hb dX11_walk_43 (lv_at hl 5 rfl) ?_
    obtain ⟨r2, σ2, h2, hf⟩ := pw_bi_some hf
    refine pw_ci hw (pw_runS (As := [.int x8]) (rest := [.int x4, .ref (pw_ad G 45), .long x5]) hC hw (c_X11_unit  h2) mw_904 wm_X11_unit ⟨Nat.zero_le _, Nat.zero_le _⟩ ⟨rfl, rfl, Nat.le_of_ble_eq_true rfl, Nat.le_of_ble_eq_true rfl⟩ rfl hl.1 rfl (Nat.le_of_ble_eq_true rfl) dX11_walk_45) (fun H locs hw => ?_)
    refine lv_iadd hx hb dX11_walk_48 ?_
    obtain ⟨hin, hf⟩ := pw_gd hf
    refine pw_lld hC hw ca_45 hin dX11_walk_49 ?_
    refine W.lcmp hx hb dX11_walk_50 ?_
    refine lv_if_lt (tgt := 99) hx hb dX11_walk_51 (by decide) (fun hc => ?_) (fun hc => ?_)
    · replace hf := pw_ifp hc hf
      exact t_X11_walk_99 hC hk9  hw (lv_sub hl [0, 1, 2, 3, 4, 5] rfl) hf
    · replace hf := pw_ifn hc hf
      exact t_X11_walk_54 hC hk9 hk18  hw (lv_sub hl [0, 1, 2, 3, 4, 5] rfl) hf
set_option maxHeartbeats 4000000 in
theorem tl_X11_walk_18 (hC : pw_CX G RX11 cX11_walk 9 (some .int) p s m args meth c) {k9 : Int32 → Int32 → Int64 → Int32 → pw_St → Option (Int32 × pw_St)} {r : Int32} {τ : pw_St} (hk9 : ∀ (x3 : Int32), ∀ (x4 : Int32), ∀ (x5 : Int64), ∀ (x7 : Int32), ∀ (σ : pw_St) (H : Heap) (locs : List Loc) (ls : Array Slot), pw_WH G σ s.heap H locs → lv_has ls 9 [(0, .ref (pw_ad G 10)), (3, .int x3), (4, .int x4), (5, .long x5), (7, .int x7)] → k9 x3 x4 x5 x7 σ = some (r, τ) → W p l e rm_X11_walk s m args below meth c H locs 0 0 (MQ below (pw_Qi G r τ) args s 0 0 (pw_gA G)) (F0 m 9 ls [])) : ∀ (n : Nat) (x3 : Int32) (x4 : Int32) (x5 : Int64) (x7 : Int32) (x8 : Int32) (σ : pw_St) (H : Heap) (locs : List Loc) (ls : Array Slot), pw_WH G σ s.heap H locs → lv_has ls 9 [(0, .ref (pw_ad G 10)), (3, .int x3), (4, .int x4), (5, .long x5), (7, .int x7), (8, .int x8)] → l_X11_walk_18 k9 n x3 x4 x5 x7 x8 σ = some (r, τ) → W p l e rm_X11_walk s m args below meth c H locs 0 0 (MQ below (pw_Qi G r τ) args s 0 0 (pw_gA G)) (F0 m 18 ls []) := by
  intro n
  induction n with
  | zero => intro x3 x4 x5 x7 x8 σ H locs ls hw hl hf; cases hf
  | succ n ih => intro x3 x4 x5 x7 x8 σ H locs ls hw hl hf; exact t_X11_walk_18 hC hk9 ih  hw hl hf
set_option maxHeartbeats 4000000 in
set_option maxRecDepth 100000 in
theorem t_X11_walk_9 (hC : pw_CX G RX11 cX11_walk 9 (some .int) p s m args meth c) {k9 : Int32 → Int32 → Int64 → Int32 → pw_St → Option (Int32 × pw_St)} {r : Int32} {τ : pw_St} (hk9 : ∀ (x3 : Int32), ∀ (x4 : Int32), ∀ (x5 : Int64), ∀ (x7 : Int32), ∀ (σ : pw_St) (H : Heap) (locs : List Loc) (ls : Array Slot), pw_WH G σ s.heap H locs → lv_has ls 9 [(0, .ref (pw_ad G 10)), (3, .int x3), (4, .int x4), (5, .long x5), (7, .int x7)] → k9 x3 x4 x5 x7 σ = some (r, τ) → W p l e rm_X11_walk s m args below meth c H locs 0 0 (MQ below (pw_Qi G r τ) args s 0 0 (pw_gA G)) (F0 m 9 ls [])) {x3 : Int32} {x4 : Int32} {x5 : Int64} {x7 : Int32} {σ : pw_St} {H : Heap} {locs : List Loc} {ls : Array Slot} (hw : pw_WH G σ s.heap H locs) (hl : lv_has ls 9 [(0, .ref (pw_ad G 10)), (3, .int x3), (4, .int x4), (5, .long x5), (7, .int x7)]) (hf : b_X11_walk_9 k9 x3 x4 x5 x7 σ = some (r, τ)) : W p l e rm_X11_walk s m args below meth c H locs 0 0 (MQ below (pw_Qi G r τ) args s 0 0 (pw_gA G)) (F0 m 9 ls []) := by
  have hx := hC.1
  have hb := hC.2.1
  unfold b_X11_walk_9 at hf
  refine lv_iload hx hb dX11_walk_9 (lv_at hl 4 rfl) ?_
  refine lv_iload_n hx hb dX11_walk_11 rfl (lv_at hl 1 rfl) ?_
  refine lv_icmp_gt (tgt := 124) hx hb dX11_walk_12 (by decide) (fun hc => ?_) (fun hc => ?_)
  · replace hf := pw_ifp hc hf
    refine lv_iconst (v := -1) hx hb dX11_walk_124 (by decide) ?_
    exact pw_iret hC hw hf dX11_walk_125
  · replace hf := pw_ifn hc hf
    refine lv_iconst (v := 0) hx hb dX11_walk_15 (by decide) ?_
    refine lv_istore (lv' := [(8, .int (0 : Int32)), (0, .ref (pw_ad G 10)), (3, .int x3), (4, .int x4), (5, .long x5), (7, .int x7)]) hx hb dX11_walk_16 hl (by decide) rfl (fun ls hl => ?_)
    exact tl_X11_walk_18 hC hk9 pw_FU _ _ _ _ _ _ _ _ _ hw (lv_sub hl [1, 2, 3, 4, 5, 0] rfl) hf
set_option maxHeartbeats 4000000 in
theorem tl_X11_walk_9 (hC : pw_CX G RX11 cX11_walk 9 (some .int) p s m args meth c) {r : Int32} {τ : pw_St} : ∀ (n : Nat) (x3 : Int32) (x4 : Int32) (x5 : Int64) (x7 : Int32) (σ : pw_St) (H : Heap) (locs : List Loc) (ls : Array Slot), pw_WH G σ s.heap H locs → lv_has ls 9 [(0, .ref (pw_ad G 10)), (3, .int x3), (4, .int x4), (5, .long x5), (7, .int x7)] → l_X11_walk_9  n x3 x4 x5 x7 σ = some (r, τ) → W p l e rm_X11_walk s m args below meth c H locs 0 0 (MQ below (pw_Qi G r τ) args s 0 0 (pw_gA G)) (F0 m 9 ls []) := by
  intro n
  induction n with
  | zero => intro x3 x4 x5 x7 σ H locs ls hw hl hf; cases hf
  | succ n ih => intro x3 x4 x5 x7 σ H locs ls hw hl hf; exact t_X11_walk_9 hC ih  hw hl hf
set_option maxHeartbeats 4000000 in
set_option maxRecDepth 100000 in
theorem c_X11_walk {l : Launch} {G : pw_Gh} {x1 : Int64} {x3 : Int32} {σ : pw_St} {r : Int32} {τ : pw_St} (hf : f_X11_walk x1 x3 σ = some (r, τ)) : Met l yX11_walk (.code yX11_walk cX11_walk 9 (some .int) :: pw_BW) rm_X11_walk (pw_Pc G [.ref (pw_ad G 10), .long x1, .int x3] σ) (pw_Qi G r τ) 0 0 (pw_gA G) := by
  refine pw_met (by decide +kernel) (Nat.le_of_ble_eq_true rfl) ?_
  intro p e s m args below meth c ls hC hw hl
  replace hl : lv_has ls 9 [(0, .ref (pw_ad G 10)), (1, .long x1), (3, .int x3)] := hl
  have hx := hC.1
  have hb := hC.2.1
  unfold f_X11_walk at hf
  refine lv_iconst (v := 0) hx hb dX11_walk_0 (by decide) ?_
  refine lv_istore (lv' := [(4, .int (0 : Int32)), (0, .ref (pw_ad G 10)), (1, .long x1), (3, .int x3)]) hx hb dX11_walk_1 hl (by decide) rfl (fun ls hl => ?_)
  refine lv_lload_n hx hb dX11_walk_3 rfl (lv_at hl 2 rfl) ?_
  refine lv_lstore (lv' := [(5, .long x1), (4, .int (0 : Int32)), (0, .ref (pw_ad G 10)), (1, .long x1), (3, .int x3)]) hx hb dX11_walk_4 hl (by decide) rfl (fun ls hl => ?_)
  refine lv_iconst (v := 0) hx hb dX11_walk_6 (by decide) ?_
  refine lv_istore (lv' := [(7, .int (0 : Int32)), (5, .long x1), (4, .int (0 : Int32)), (0, .ref (pw_ad G 10)), (1, .long x1), (3, .int x3)]) hx hb dX11_walk_7 hl (by decide) rfl (fun ls hl => ?_)
  exact tl_X11_walk_9 hC  pw_FU _ _ _ _ _ _ _ _ hw (lv_sub hl [3, 5, 2, 1, 0] rfl) hf
end PM
