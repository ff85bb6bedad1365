section PM
variable {p : Program} {l : Launch} {e : Env} {s : State} {m : MethodId} {args : Array Value} {below : List Frame} {meth : Method} {c : Code} {G : pw_Gh}
-- PerhapsWasModel isClosed
def b_X11_isClosed_11 (k2 : Int32 → Int32 → pw_St → Option (Int32 × pw_St)) (k11 : Int32 → Int32 → Int32 → pw_St → Option (Int32 × pw_St)) (x1 : Int32) (x2 : Int32) (x3 : Int32) (σ : pw_St) : Option (Int32 × pw_St) := (if x2 ≤ x3 then (k2 x1 (x2 + (1 : Int32)) σ) else (if pw_in x2 2401 = true then (if (σ.1 51 x2.toNatClampNeg) = 0 then (k2 x1 (x2 + (1 : Int32)) σ) else (if pw_in x3 2401 = true then (if (σ.1 51 x3.toNatClampNeg) = 0 then (k11 x1 x2 (x3 + (1 : Int32)) σ) else (pw_bi (f_X11_joined x2 x3 x1 σ) fun r1 σ1 => (if pw_in r1 2401 = true then (if (σ1.1 51 r1.toNatClampNeg) = 0 then (if pw_isb (0 : Int32) = true then some ((0 : Int32), σ1) else none) else (k11 x1 x2 (x3 + (1 : Int32)) σ1)) else none))) else none)) else none))
def l_X11_isClosed_11 (k2 : Int32 → Int32 → pw_St → Option (Int32 × pw_St)) : Nat → Int32 → Int32 → Int32 → pw_St → Option (Int32 × pw_St)
  | 0 => fun _ _ _ _ => none
  | n + 1 => fun x1 x2 x3 σ => b_X11_isClosed_11 k2 (l_X11_isClosed_11 k2 n) x1 x2 x3 σ
def b_X11_isClosed_2 (k2 : Int32 → Int32 → pw_St → Option (Int32 × pw_St)) (x1 : Int32) (x2 : Int32) (σ : pw_St) : Option (Int32 × pw_St) := (if (2401 : Int32) ≤ x2 then (if pw_isb (1 : Int32) = true then some ((1 : Int32), σ) else none) else (l_X11_isClosed_11 k2 pw_FU x1 x2 (0 : Int32) σ))
def l_X11_isClosed_2 : Nat → Int32 → Int32 → pw_St → Option (Int32 × pw_St)
  | 0 => fun _ _ _ => none
  | n + 1 => fun x1 x2 σ => b_X11_isClosed_2  (l_X11_isClosed_2  n) x1 x2 σ
def f_X11_isClosed (x1 : Int32) (σ : pw_St) : Option (Int32 × pw_St) := (l_X11_isClosed_2  pw_FU x1 (0 : Int32) σ)
def rm_X11_isClosed : Room := { frames := 3, cells := 0, slots := 0, locals := 67 }
set_option maxHeartbeats 4000000 in
set_option maxRecDepth 100000 in
theorem t_X11_isClosed_11 (hC : pw_CX G RX11 cX11_isClosed 4 (some .boolean) p s m args meth c) {k2 : Int32 → Int32 → pw_St → Option (Int32 × pw_St)} {k11 : Int32 → Int32 → Int32 → pw_St → Option (Int32 × pw_St)} {r : Int32} {τ : pw_St} (hk2 : ∀ (x1 : Int32), ∀ (x2 : Int32), ∀ (σ : pw_St) (H : Heap) (locs : List Loc) (ls : Array Slot), pw_WH G σ s.heap H locs → lv_has ls 4 [(0, .ref (pw_ad G 10)), (1, .int x1), (2, .int x2)] → k2 x1 x2 σ = some (r, τ) → W p l e rm_X11_isClosed s m args below meth c H locs 0 0 (MQ below (pw_Qi G r τ) args s 0 0 (pw_gA G)) (F0 m 2 ls [])) (hk11 : ∀ (x1 : Int32), ∀ (x2 : Int32), ∀ (x3 : Int32), ∀ (σ : pw_St) (H : Heap) (locs : List Loc) (ls : Array Slot), pw_WH G σ s.heap H locs → lv_has ls 4 [(0, .ref (pw_ad G 10)), (1, .int x1), (2, .int x2), (3, .int x3)] → k11 x1 x2 x3 σ = some (r, τ) → W p l e rm_X11_isClosed s m args below meth c H locs 0 0 (MQ below (pw_Qi G r τ) args s 0 0 (pw_gA G)) (F0 m 11 ls [])) {x1 : Int32} {x2 : Int32} {x3 : Int32} {σ : pw_St} {H : Heap} {locs : List Loc} {ls : Array Slot} (hw : pw_WH G σ s.heap H locs) (hl : lv_has ls 4 [(0, .ref (pw_ad G 10)), (1, .int x1), (2, .int x2), (3, .int x3)]) (hf : b_X11_isClosed_11 k2 k11 x1 x2 x3 σ = some (r, τ)) : W p l e rm_X11_isClosed s m args below meth c H locs 0 0 (MQ below (pw_Qi G r τ) args s 0 0 (pw_gA G)) (F0 m 11 ls []) := by
  have hx := hC.1
  have hb := hC.2.1
  unfold b_X11_isClosed_11 at hf
  refine lv_iload_n hx hb dX11_isClosed_11 rfl (lv_at hl 3 rfl) ?_
  refine lv_iload_n hx hb dX11_isClosed_12 rfl (lv_at hl 2 rfl) ?_
  refine lv_icmp_ge (tgt := 56) hx hb dX11_isClosed_13 (by decide) (fun hc => ?_) (fun hc => ?_)
  · replace hf := pw_ifp hc hf
    refine lv_iinc (v := (x2 + (1 : Int32))) (lv' := [(2, .int (x2 + (1 : Int32))), (0, .ref (pw_ad G 10)), (1, .int x1), (3, .int x3)]) hx hb dX11_isClosed_56 hl (k := 2) rfl rfl (by decide) rfl (fun ls hl => ?_)
    refine lv_goto (tgt := 2) hx hb dX11_isClosed_59 (by decide) ?_
    exact hk2 _ _ _ _ _ _ hw (lv_sub hl [1, 2, 0] rfl) hf
  · replace hf := pw_ifn hc hf
    refine lv_aload_n hx hb dX11_isClosed_16 rfl (lv_at hl 0 rfl) ?_
    refine pg_10_24 hC hw mw_773 dX11_isClosed_17 ?_
    refine lv_iload_n hx hb dX11_isClosed_20 rfl (lv_at hl 2 rfl) ?_
    obtain ⟨hin, hf⟩ := pw_gd hf
    refine pw_zld hC hw ca_51 hin dX11_isClosed_21 ?_
    refine lv_if_eq (tgt := 56) hx hb dX11_isClosed_22 (by decide) (fun hc => ?_) (fun hc => ?_)
    · replace hf := pw_ifp hc hf
      refine lv_iinc (v := (x2 + (1 : Int32))) (lv' := [(2, .int (x2 + (1 : Int32))), (0, .ref (pw_ad G 10)), (1, .int x1), (3, .int x3)]) hx hb dX11_isClosed_56 hl (k := 2) rfl rfl (by decide) rfl (fun ls hl => ?_)
      refine lv_goto (tgt := 2) hx hb dX11_isClosed_59 (by decide) ?_
      exact hk2 _ _ _ _ _ _ hw (lv_sub hl [1, 2, 0] rfl) hf
    · replace hf := pw_ifn hc hf
      refine lv_aload_n hx hb dX11_isClosed_25 rfl (lv_at hl 0 rfl) ?_
      refine pg_10_24 hC hw mw_773 dX11_isClosed_26 ?_
      refine lv_iload_n hx hb dX11_isClosed_29 rfl (lv_at hl 3 rfl) ?_
      obtain ⟨hin, hf⟩ := pw_gd hf
      refine pw_zld hC hw ca_51 hin dX11_isClosed_30 ?_
      refine lv_if_eq (tgt := 50) hx hb dX11_isClosed_31 (by decide) (fun hc => ?_) (fun hc => ?_)
      · replace hf := pw_ifp hc hf
        refine lv_iinc (v := (x3 + (1 : Int32))) (lv' := [(3, .int (x3 + (1 : Int32))), (0, .ref (pw_ad G 10)), (1, .int x1), (2, .int x2)]) hx hb dX11_isClosed_50 hl (k := 3) rfl rfl (by decide) rfl (fun ls hl => ?_)
        refine lv_goto (tgt := 11) hx hb dX11_isClosed_53 (by decide) ?_
        exact hk11 _ _ _ _ _ _ _ hw (lv_sub hl [1, 2, 3, 0] rfl) hf
      · replace hf := pw_ifn hc hf
        refine lv_aload_n hx hb dX11_isClosed_34 rfl (lv_at hl 0 rfl) ?_
        refine pg_10_24 hC hw mw_773 dX11_isClosed_35 ?_
        refine lv_iload_n hx hb dX11_isClosed_38 rfl (lv_at hl 2 rfl) ?_
        refine lv_iload_n hx hb dX11_isClosed_39 rfl (lv_at hl 3 rfl) ?_
        refine lv_iload_n hx hb dX11_isClosed_40 rfl (lv_at hl 1 rfl) ?_
        obtain ⟨r1, σ1, h1, hf⟩ := pw_bi_some hf
        refine pw_ci hw (pw_runS (As := [.int x2, .int x3, .int x1]) (rest := [.ref (pw_ad G 51)]) hC hw (c_X11_joined  h1) mw_926 wm_X11_joined ⟨Nat.zero_le _, Nat.zero_le _⟩ ⟨rfl, rfl, Nat.le_of_ble_eq_true rfl, Nat.le_of_ble_eq_true rfl⟩ rfl hl.1 rfl (Nat.le_of_ble_eq_true rfl) dX11_isClosed_41) (fun H locs hw => ?_)
        obtain ⟨hin, hf⟩ := pw_gd hf
        refine pw_zld hC hw ca_51 hin dX11_isClosed_44 ?_
        refine lv_if_ne (tgt := 50) hx hb dX11_isClosed_45 (by decide) (fun hc => ?_) (fun hc => ?_)
        · replace hf := pw_ifn hc hf
          refine lv_iinc (v := (x3 + (1 : Int32))) (lv' := [(3, .int (x3 + (1 : Int32))), (0, .ref (pw_ad G 10)), (1, .int x1), (2, .int x2)]) hx hb dX11_isClosed_50 hl (k := 3) rfl rfl (by decide) rfl (fun ls hl => ?_)
          refine lv_goto (tgt := 11) hx hb dX11_isClosed_53 (by decide) ?_
          exact hk11 _ _ _ _ _ _ _ hw (lv_sub hl [1, 2, 3, 0] rfl) hf
        · replace hf := pw_ifp hc hf
          refine lv_iconst (v := 0) hx hb dX11_isClosed_48 (by decide) ?_
          exact pw_zret hC hw hf dX11_isClosed_49
set_option maxHeartbeats 4000000 in
theorem tl_X11_isClosed_11 (hC : pw_CX G RX11 cX11_isClosed 4 (some .boolean) p s m args meth c) {k2 : Int32 → Int32 → pw_St → Option (Int32 × pw_St)} {r : Int32} {τ : pw_St} (hk2 : ∀ (x1 : Int32), ∀ (x2 : Int32), ∀ (σ : pw_St) (H : Heap) (locs : List Loc) (ls : Array Slot), pw_WH G σ s.heap H locs → lv_has ls 4 [(0, .ref (pw_ad G 10)), (1, .int x1), (2, .int x2)] → k2 x1 x2 σ = some (r, τ) → W p l e rm_X11_isClosed s m args below meth c H locs 0 0 (MQ below (pw_Qi G r τ) args s 0 0 (pw_gA G)) (F0 m 2 ls [])) : ∀ (n : Nat) (x1 : Int32) (x2 : Int32) (x3 : Int32) (σ : pw_St) (H : Heap) (locs : List Loc) (ls : Array Slot), pw_WH G σ s.heap H locs → lv_has ls 4 [(0, .ref (pw_ad G 10)), (1, .int x1), (2, .int x2), (3, .int x3)] → l_X11_isClosed_11 k2 n x1 x2 x3 σ = some (r, τ) → W p l e rm_X11_isClosed s m args below meth c H locs 0 0 (MQ below (pw_Qi G r τ) args s 0 0 (pw_gA G)) (F0 m 11 ls []) := by
  intro n
  induction n with
  | zero => intro x1 x2 x3 σ H locs ls hw hl hf; cases hf
  | succ n ih => intro x1 x2 x3 σ H locs ls hw hl hf; exact t_X11_isClosed_11 hC hk2 ih  hw hl hf
set_option maxHeartbeats 4000000 in
set_option maxRecDepth 100000 in
theorem t_X11_isClosed_2 (hC : pw_CX G RX11 cX11_isClosed 4 (some .boolean) p s m args meth c) {k2 : Int32 → Int32 → pw_St → Option (Int32 × pw_St)} {r : Int32} {τ : pw_St} (hk2 : ∀ (x1 : Int32), ∀ (x2 : Int32), ∀ (σ : pw_St) (H : Heap) (locs : List Loc) (ls : Array Slot), pw_WH G σ s.heap H locs → lv_has ls 4 [(0, .ref (pw_ad G 10)), (1, .int x1), (2, .int x2)] → k2 x1 x2 σ = some (r, τ) → W p l e rm_X11_isClosed s m args below meth c H locs 0 0 (MQ below (pw_Qi G r τ) args s 0 0 (pw_gA G)) (F0 m 2 ls [])) {x1 : Int32} {x2 : Int32} {σ : pw_St} {H : Heap} {locs : List Loc} {ls : Array Slot} (hw : pw_WH G σ s.heap H locs) (hl : lv_has ls 4 [(0, .ref (pw_ad G 10)), (1, .int x1), (2, .int x2)]) (hf : b_X11_isClosed_2 k2 x1 x2 σ = some (r, τ)) : W p l e rm_X11_isClosed s m args below meth c H locs 0 0 (MQ below (pw_Qi G r τ) args s 0 0 (pw_gA G)) (F0 m 2 ls []) := by
  have hx := hC.1
  have hb := hC.2.1
  unfold b_X11_isClosed_2 at hf
  refine lv_iload_n hx hb dX11_isClosed_2 rfl (lv_at hl 2 rfl) ?_
  refine lv_sipush (v := 2401) hx hb dX11_isClosed_3 (by decide) ?_
  refine lv_icmp_ge (tgt := 62) hx hb dX11_isClosed_6 (by decide) (fun hc => ?_) (fun hc => ?_)
  · replace hf := pw_ifp hc hf
    refine lv_iconst (v := 1) hx hb dX11_isClosed_62 (by decide) ?_
    exact pw_zret hC hw hf dX11_isClosed_63
  · replace hf := pw_ifn hc hf
    refine lv_iconst (v := 0) hx hb dX11_isClosed_9 (by decide) ?_
    refine lv_istore_n (lv' := [(3, .int (0 : Int32)), (0, .ref (pw_ad G 10)), (1, .int x1), (2, .int x2)]) hx hb dX11_isClosed_10 rfl hl (by decide) rfl (fun ls hl => ?_)
    exact tl_X11_isClosed_11 hC hk2 pw_FU _ _ _ _ _ _ _ hw (lv_sub hl [1, 2, 3, 0] rfl) hf
set_option maxHeartbeats 4000000 in
theorem tl_X11_isClosed_2 (hC : pw_CX G RX11 cX11_isClosed 4 (some .boolean) p s m args meth c) {r : Int32} {τ : pw_St} : ∀ (n : Nat) (x1 : Int32) (x2 : Int32) (σ : pw_St) (H : Heap) (locs : List Loc) (ls : Array Slot), pw_WH G σ s.heap H locs → lv_has ls 4 [(0, .ref (pw_ad G 10)), (1, .int x1), (2, .int x2)] → l_X11_isClosed_2  n x1 x2 σ = some (r, τ) → W p l e rm_X11_isClosed s m args below meth c H locs 0 0 (MQ below (pw_Qi G r τ) args s 0 0 (pw_gA G)) (F0 m 2 ls []) := by
  intro n
  induction n with
  | zero => intro x1 x2 σ H locs ls hw hl hf; cases hf
  | succ n ih => intro x1 x2 σ H locs ls hw hl hf; exact t_X11_isClosed_2 hC ih  hw hl hf
set_option maxHeartbeats 4000000 in
set_option maxRecDepth 100000 in
theorem c_X11_isClosed {l : Launch} {G : pw_Gh} {x1 : Int32} {σ : pw_St} {r : Int32} {τ : pw_St} (hf : f_X11_isClosed x1 σ = some (r, τ)) : Met l yX11_isClosed (.code yX11_isClosed cX11_isClosed 4 (some .boolean) :: pw_BW) rm_X11_isClosed (pw_Pc G [.ref (pw_ad G 10), .int x1] σ) (pw_Qi G r τ) 0 0 (pw_gA G) := by
  refine pw_met (by decide +kernel) (Nat.le_of_ble_eq_true rfl) ?_
  intro p e s m args below meth c ls hC hw hl
  replace hl : lv_has ls 4 [(0, .ref (pw_ad G 10)), (1, .int x1)] := hl
  have hx := hC.1
  have hb := hC.2.1
  unfold f_X11_isClosed at hf
  refine lv_iconst (v := 0) hx hb dX11_isClosed_0 (by decide) ?_
  refine lv_istore_n (lv' := [(2, .int (0 : Int32)), (0, .ref (pw_ad G 10)), (1, .int x1)]) hx hb dX11_isClosed_1 rfl hl (by decide) rfl (fun ls hl => ?_)
  exact tl_X11_isClosed_2 hC  pw_FU _ _ _ _ _ _ hw (lv_sub hl [1, 2, 0] rfl) hf
-- PerhapsWasModel is
def b_X11_is_50 (σ : pw_St) : Option (Int32 × pw_St) := (some ((1 : Int32), σ))
def b_X11_is_44 (y0 : Int32) (σ : pw_St) : Option (Int32 × pw_St) := (pw_bi (f_X11_isClosed y0 σ) fun r1 σ1 => (if r1 = 0 then (some ((0 : Int32), σ1)) else (b_X11_is_50  σ1)))
def f_X11_is (x1 : Int32) (x2 : Int32) (σ : pw_St) : Option (Int32 × pw_St) := (pw_bi (f_X11_in x2 (0 : Int32) (2 : Int32) σ) fun r1 σ1 => (if r1 = 0 then (some ((-1 : Int32), σ1)) else (pw_bi (f_X11_study x1 σ1) fun r2 σ2 => (if r2 = 0 then (some ((-1 : Int32), σ2)) else (if x2 = 0 then (pw_bi (f_X11_isKept σ2) fun r3 σ3 => (if r3 = 0 then (some ((0 : Int32), σ3)) else (b_X11_is_50  σ3))) else (if x2 = (1 : Int32) then (b_X11_is_44  (1 : Int32) σ2) else (b_X11_is_44  (0 : Int32) σ2)))))))
def rm_X11_is : Room := { frames := 5, cells := 0, slots := 0, locals := 114 }
set_option maxHeartbeats 4000000 in
set_option maxRecDepth 100000 in
theorem t_X11_is_50 (hC : pw_CX G RX11 cX11_is 3 (some .int) p s m args meth c) {r : Int32} {τ : pw_St} {σ : pw_St} {H : Heap} {locs : List Loc} {ls : Array Slot} (hw : pw_WH G σ s.heap H locs) (hl : lv_has ls 3 []) (hf : b_X11_is_50 σ = some (r, τ)) : W p l e rm_X11_is s m args below meth c H locs 0 0 (MQ below (pw_Qi G r τ) args s 0 0 (pw_gA G)) (F0 m 50 ls []) := by
  have hx := hC.1
  have hb := hC.2.1
  unfold b_X11_is_50 at hf
  refine lv_iconst (v := 1) hx hb dX11_is_50 (by decide) ?_
  refine lv_goto (tgt := 55) hx hb dX11_is_51 (by decide) ?_
  exact pw_iret hC hw hf dX11_is_55
set_option maxHeartbeats 4000000 in
set_option maxRecDepth 100000 in
theorem t_X11_is_44 (hC : pw_CX G RX11 cX11_is 3 (some .int) p s m args meth c) {r : Int32} {τ : pw_St} {y0 : Int32} {σ : pw_St} {H : Heap} {locs : List Loc} {ls : Array Slot} (hw : pw_WH G σ s.heap H locs) (hl : lv_has ls 3 []) (hf : b_X11_is_44 y0 σ = some (r, τ)) : W p l e rm_X11_is s m args below meth c H locs 0 0 (MQ below (pw_Qi G r τ) args s 0 0 (pw_gA G)) (F0 m 44 ls [.int y0, .ref (pw_ad G 10)]) := by
  have hx := hC.1
  have hb := hC.2.1
  unfold b_X11_is_44 at hf
  obtain ⟨r1, σ1, h1, hf⟩ := pw_bi_some hf
  refine pw_ci hw (pw_runV (As := [.int y0]) (rest := []) hC hw (c_X11_isClosed  h1) mw_1054 wm_X11_isClosed ⟨Nat.zero_le _, Nat.zero_le _⟩ ⟨rfl, rfl, Nat.le_of_ble_eq_true rfl, Nat.le_of_ble_eq_true rfl⟩ (by decide) rfl rfl rfl hl.1 rfl (Nat.le_of_ble_eq_true rfl) dX11_is_44) (fun H locs hw => ?_)
  refine lv_if_eq (tgt := 54) hx hb dX11_is_47 (by decide) (fun hc => ?_) (fun hc => ?_)
  · replace hf := pw_ifp hc hf
    refine lv_iconst (v := 0) hx hb dX11_is_54 (by decide) ?_
    exact pw_iret hC hw hf dX11_is_55
  · replace hf := pw_ifn hc hf
    exact t_X11_is_50 hC   hw (lv_sub hl [] rfl) hf
set_option maxHeartbeats 4000000 in
set_option maxRecDepth 100000 in
theorem c_X11_is {l : Launch} {G : pw_Gh} {x1 : Int32} {x2 : Int32} {σ : pw_St} {r : Int32} {τ : pw_St} (hf : f_X11_is x1 x2 σ = some (r, τ)) : Met l yX11_is (.code yX11_is cX11_is 3 (some .int) :: pw_BW) rm_X11_is (pw_Pc G [.ref (pw_ad G 10), .int x1, .int x2] σ) (pw_Qi G r τ) 0 0 (pw_gA G) := by
  refine pw_met (by decide +kernel) (Nat.le_of_ble_eq_true rfl) ?_
  intro p e s m args below meth c ls hC hw hl
  replace hl : lv_has ls 3 [(0, .ref (pw_ad G 10)), (1, .int x1), (2, .int x2)] := hl
  have hx := hC.1
  have hb := hC.2.1
  unfold f_X11_is at hf
  refine lv_iload_n hx hb dX11_is_0 rfl (lv_at hl 2 rfl) ?_
  refine lv_iconst (v := 0) hx hb dX11_is_1 (by decide) ?_
  refine lv_iconst (v := 2) hx hb dX11_is_2 (by decide) ?_
  obtain ⟨r1, σ1, h1, hf⟩ := pw_bi_some hf
  refine pw_ci hw (pw_runS (As := [.int x2, .int (0 : Int32), .int (2 : Int32)]) (rest := []) hC hw (c_X11_in  h1) mw_846 wm_X11_in ⟨Nat.zero_le _, Nat.zero_le _⟩ ⟨rfl, rfl, Nat.le_of_ble_eq_true rfl, Nat.le_of_ble_eq_true rfl⟩ rfl hl.1 rfl (Nat.le_of_ble_eq_true rfl) dX11_is_3) (fun H locs hw => ?_)
  refine lv_if_eq (tgt := 17) hx hb dX11_is_6 (by decide) (fun hc => ?_) (fun hc => ?_)
  · replace hf := pw_ifp hc hf
    refine lv_iconst (v := -1) hx hb dX11_is_17 (by decide) ?_
    exact pw_iret hC hw hf dX11_is_18
  · replace hf := pw_ifn hc hf
    refine lv_aload_n hx hb dX11_is_9 rfl (lv_at hl 0 rfl) ?_
    refine lv_iload_n hx hb dX11_is_10 rfl (lv_at hl 1 rfl) ?_
    obtain ⟨r2, σ2, h2, hf⟩ := pw_bi_some hf
    refine pw_ci hw (pw_runV (As := [.int x1]) (rest := []) hC hw (c_X11_study  h2) mw_1017 wm_X11_study ⟨Nat.zero_le _, Nat.zero_le _⟩ ⟨rfl, rfl, Nat.le_of_ble_eq_true rfl, Nat.le_of_ble_eq_true rfl⟩ (by decide) rfl rfl rfl hl.1 rfl (Nat.le_of_ble_eq_true rfl) dX11_is_11) (fun H locs hw => ?_)
    refine lv_if_ne (tgt := 19) hx hb dX11_is_14 (by decide) (fun hc => ?_) (fun hc => ?_)
    · replace hf := pw_ifn hc hf
      refine lv_iload_n hx hb dX11_is_19 rfl (lv_at hl 2 rfl) ?_
      refine lv_if_ne (tgt := 33) hx hb dX11_is_20 (by decide) (fun hc => ?_) (fun hc => ?_)
      · replace hf := pw_ifn hc hf
        refine lv_aload_n hx hb dX11_is_33 rfl (lv_at hl 0 rfl) ?_
        refine lv_iload_n hx hb dX11_is_34 rfl (lv_at hl 2 rfl) ?_
        refine lv_iconst (v := 1) hx hb dX11_is_35 (by decide) ?_
        refine lv_icmp_ne (tgt := 43) hx hb dX11_is_36 (by decide) (fun hc => ?_) (fun hc => ?_)
        · replace hf := pw_ifn hc hf
          refine lv_iconst (v := 0) hx hb dX11_is_43 (by decide) ?_
          exact t_X11_is_44 hC   hw (lv_sub hl [] rfl) hf
        · replace hf := pw_ifp hc hf
          refine lv_iconst (v := 1) hx hb dX11_is_39 (by decide) ?_
          refine lv_goto (tgt := 44) hx hb dX11_is_40 (by decide) ?_
          exact t_X11_is_44 hC   hw (lv_sub hl [] rfl) hf
      · replace hf := pw_ifp hc hf
        refine lv_aload_n hx hb dX11_is_23 rfl (lv_at hl 0 rfl) ?_
        obtain ⟨r3, σ3, h3, hf⟩ := pw_bi_some hf
        refine pw_ci hw (pw_runV (As := []) (rest := []) hC hw (c_X11_isKept  h3) mw_1050 wm_X11_isKept ⟨Nat.zero_le _, Nat.zero_le _⟩ ⟨rfl, rfl, Nat.le_of_ble_eq_true rfl, Nat.le_of_ble_eq_true rfl⟩ (by decide) rfl rfl rfl hl.1 rfl (Nat.le_of_ble_eq_true rfl) dX11_is_24) (fun H locs hw => ?_)
        refine lv_if_eq (tgt := 54) hx hb dX11_is_27 (by decide) (fun hc => ?_) (fun hc => ?_)
        · replace hf := pw_ifp hc hf
          refine lv_iconst (v := 0) hx hb dX11_is_54 (by decide) ?_
          exact pw_iret hC hw hf dX11_is_55
        · replace hf := pw_ifn hc hf
          refine lv_goto (tgt := 50) hx hb dX11_is_30 (by decide) ?_
          exact t_X11_is_50 hC   hw (lv_sub hl [] rfl) hf
    · replace hf := pw_ifp hc hf
      refine lv_iconst (v := -1) hx hb dX11_is_17 (by decide) ?_
      exact pw_iret hC hw hf dX11_is_18
-- PerhapsWasModel before
def b_X11_before_124 (k26 : Int32 → Int32 → pw_St → Option (Int32 × pw_St)) (x2 : Int32) (x3 : Int32) (σ : pw_St) : Option (Int32 × pw_St) := (if pw_in x3 2401 = true then (if (σ.1 52 x3.toNatClampNeg) = 0 then (k26 x2 (x3 + (1 : Int32)) σ) else (pw_bi (f_X11_worthOf x2 x3 σ) fun r1 σ1 => (if r1 = 0 then (k26 x2 (x3 + (1 : Int32)) σ1) else (some ((0 : Int32), σ1))))) else none)
def b_X11_before_78 (k26 : Int32 → Int32 → pw_St → Option (Int32 × pw_St)) (k78 : Int32 → Int32 → Int32 → pw_St → Option (Int32 × pw_St)) (x2 : Int32) (x3 : Int32) (x4 : Int32) (σ : pw_St) : Option (Int32 × pw_St) := (if (σ.1 10 1) ≤ x4 then (b_X11_before_124 k26 x2 x3 σ) else (pw_bi (f_X11_part x3 x4 σ) fun r1 σ1 => (if r1 ≤ 0 then (k78 x2 x3 (x4 + (1 : Int32)) σ1) else (pw_bi (f_X11_unit x4 σ1) fun r2 σ2 => (if pw_in (x3 - r2) 2401 = true then (if (σ2.1 52 (x3 - r2).toNatClampNeg) = 0 then (k78 x2 x3 (x4 + (1 : Int32)) σ2) else (if pw_in x3 2401 = true then (pw_lt (pw_sM σ2 52 x3.toNatClampNeg (vp_nar .boolean (1 : Int32))) fun σ3 => (k78 x2 x3 (x4 + (1 : Int32)) σ3)) else none)) else none)))))
def l_X11_before_78 (k26 : Int32 → Int32 → pw_St → Option (Int32 × pw_St)) : Nat → Int32 → Int32 → Int32 → pw_St → Option (Int32 × pw_St)
  | 0 => fun _ _ _ _ => none
  | n + 1 => fun x2 x3 x4 σ => b_X11_before_78 k26 (l_X11_before_78 k26 n) x2 x3 x4 σ
def b_X11_before_74 (k26 : Int32 → Int32 → pw_St → Option (Int32 × pw_St)) (x2 : Int32) (x3 : Int32) (y0 : Int32) (y1 : Int32) (σ : pw_St) : Option (Int32 × pw_St) := (if pw_in y1 2401 = true then (pw_lt (pw_sM σ 52 y1.toNatClampNeg (vp_nar .boolean y0)) fun σ1 => (l_X11_before_78 k26 pw_FU x2 x3 (0 : Int32) σ1)) else none)
def b_X11_before_26 (k26 : Int32 → Int32 → pw_St → Option (Int32 × pw_St)) (x2 : Int32) (x3 : Int32) (σ : pw_St) : Option (Int32 × pw_St) := (if (2401 : Int32) ≤ x3 then (some ((1 : Int32), σ)) else (if pw_in x3 2401 = true then (pw_lt (pw_sM σ 52 x3.toNatClampNeg (vp_nar .boolean (0 : Int32))) fun σ1 => (pw_bi (f_X11_isPossible x3 σ1) fun r2 σ2 => (if r2 = 0 then (k26 x2 (x3 + (1 : Int32)) σ2) else (if pw_in x3 2401 = true then (if (σ2.1 51 x3.toNatClampNeg) = 0 then (if x3 = 0 then (b_X11_before_74 k26 x2 x3 (1 : Int32) x3 σ2) else (b_X11_before_74 k26 x2 x3 (0 : Int32) x3 σ2)) else (k26 x2 (x3 + (1 : Int32)) σ2)) else none)))) else none))
def l_X11_before_26 : Nat → Int32 → Int32 → pw_St → Option (Int32 × pw_St)
  | 0 => fun _ _ _ => none
  | n + 1 => fun x2 x3 σ => b_X11_before_26  (l_X11_before_26  n) x2 x3 σ
def f_X11_before (x1 : Int32) (x2 : Int32) (σ : pw_St) : Option (Int32 × pw_St) := (pw_bi (f_X11_in x2 (0 : Int32) ((σ.1 10 20) - (1 : Int32)) σ) fun r1 σ1 => (if r1 = 0 then (some ((-1 : Int32), σ1)) else (pw_bi (f_X11_study x1 σ1) fun r2 σ2 => (if r2 = 0 then (some ((-1 : Int32), σ2)) else (l_X11_before_26  pw_FU x2 (0 : Int32) σ2)))))
def rm_X11_before : Room := { frames := 5, cells := 0, slots := 0, locals := 114 }
set_option maxHeartbeats 4000000 in
set_option maxRecDepth 100000 in
theorem t_X11_before_124 (hC : pw_CX G RX11 cX11_before 5 (some .int) p s m args meth c) {k26 : Int32 → Int32 → pw_St → Option (Int32 × pw_St)} {r : Int32} {τ : pw_St} (hk26 : ∀ (x2 : Int32), ∀ (x3 : Int32), ∀ (σ : pw_St) (H : Heap) (locs : List Loc) (ls : Array Slot), pw_WH G σ s.heap H locs → lv_has ls 5 [(0, .ref (pw_ad G 10)), (2, .int x2), (3, .int x3)] → k26 x2 x3 σ = some (r, τ) → W p l e rm_X11_before s m args below meth c H locs 0 0 (MQ below (pw_Qi G r τ) args s 0 0 (pw_gA G)) (F0 m 26 ls [])) {x2 : Int32} {x3 : Int32} {σ : pw_St} {H : Heap} {locs : List Loc} {ls : Array Slot} (hw : pw_WH G σ s.heap H locs) (hl : lv_has ls 5 [(0, .ref (pw_ad G 10)), (2, .int x2), (3, .int x3)]) (hf : b_X11_before_124 k26 x2 x3 σ = some (r, τ)) : W p l e rm_X11_before s m args below meth c H locs 0 0 (MQ below (pw_Qi G r τ) args s 0 0 (pw_gA G)) (F0 m 124 ls []) := by
  have hx := hC.1
  have hb := hC.2.1
  unfold b_X11_before_124 at hf
  refine lv_aload_n hx hb dX11_before_124 rfl (lv_at hl 0 rfl) ?_
  refine pg_10_25 hC hw mw_774 dX11_before_125 ?_
  refine lv_iload_n hx hb dX11_before_128 rfl (lv_at hl 2 rfl) ?_
  obtain ⟨hin, hf⟩ := pw_gd hf
  refine pw_zld hC hw ca_52 hin dX11_before_129 ?_
  refine lv_if_eq (tgt := 144) hx hb dX11_before_130 (by decide) (fun hc => ?_) (fun hc => ?_)
  · replace hf := pw_ifp hc hf
    refine lv_iinc (v := (x3 + (1 : Int32))) (lv' := [(3, .int (x3 + (1 : Int32))), (0, .ref (pw_ad G 10)), (2, .int x2)]) hx hb dX11_before_144 hl (k := 2) rfl rfl (by decide) rfl (fun ls hl => ?_)
    refine lv_goto (tgt := 26) hx hb dX11_before_147 (by decide) ?_
    exact hk26 _ _ _ _ _ _ hw (lv_sub hl [1, 2, 0] rfl) hf
  · replace hf := pw_ifn hc hf
    refine lv_aload_n hx hb dX11_before_133 rfl (lv_at hl 0 rfl) ?_
    refine lv_iload_n hx hb dX11_before_134 rfl (lv_at hl 1 rfl) ?_
    refine lv_iload_n hx hb dX11_before_135 rfl (lv_at hl 2 rfl) ?_
    obtain ⟨r1, σ1, h1, hf⟩ := pw_bi_some hf
    refine pw_ci hw (pw_runV (As := [.int x2, .int x3]) (rest := []) hC hw (c_X11_worthOf  h1) mw_990 wm_X11_worthOf ⟨Nat.zero_le _, Nat.zero_le _⟩ ⟨rfl, rfl, Nat.le_of_ble_eq_true rfl, Nat.le_of_ble_eq_true rfl⟩ (by decide) rfl rfl rfl hl.1 rfl (Nat.le_of_ble_eq_true rfl) dX11_before_136) (fun H locs hw => ?_)
    refine lv_if_eq (tgt := 144) hx hb dX11_before_139 (by decide) (fun hc => ?_) (fun hc => ?_)
    · replace hf := pw_ifp hc hf
      refine lv_iinc (v := (x3 + (1 : Int32))) (lv' := [(3, .int (x3 + (1 : Int32))), (0, .ref (pw_ad G 10)), (2, .int x2)]) hx hb dX11_before_144 hl (k := 2) rfl rfl (by decide) rfl (fun ls hl => ?_)
      refine lv_goto (tgt := 26) hx hb dX11_before_147 (by decide) ?_
      exact hk26 _ _ _ _ _ _ hw (lv_sub hl [1, 2, 0] rfl) hf
    · replace hf := pw_ifn hc hf
      refine lv_iconst (v := 0) hx hb dX11_before_142 (by decide) ?_
      exact pw_iret hC hw hf dX11_before_143
set_option maxHeartbeats 4000000 in
set_option maxRecDepth 100000 in
theorem t_X11_before_78 (hC : pw_CX G RX11 cX11_before 5 (some .int) p s m args meth c) {k26 : Int32 → Int32 → pw_St → Option (Int32 × pw_St)} {k78 : Int32 → Int32 → Int32 → pw_St → Option (Int32 × pw_St)} {r : Int32} {τ : pw_St} (hk26 : ∀ (x2 : Int32), ∀ (x3 : Int32), ∀ (σ : pw_St) (H : Heap) (locs : List Loc) (ls : Array Slot), pw_WH G σ s.heap H locs → lv_has ls 5 [(0, .ref (pw_ad G 10)), (2, .int x2), (3, .int x3)] → k26 x2 x3 σ = some (r, τ) → W p l e rm_X11_before s m args below meth c H locs 0 0 (MQ below (pw_Qi G r τ) args s 0 0 (pw_gA G)) (F0 m 26 ls [])) (hk78 : ∀ (x2 : Int32), ∀ (x3 : Int32), ∀ (x4 : Int32), ∀ (σ : pw_St) (H : Heap) (locs : List Loc) (ls : Array Slot), pw_WH G σ s.heap H locs → lv_has ls 5 [(0, .ref (pw_ad G 10)), (2, .int x2), (3, .int x3), (4, .int x4)] → k78 x2 x3 x4 σ = some (r, τ) → W p l e rm_X11_before s m args below meth c H locs 0 0 (MQ below (pw_Qi G r τ) args s 0 0 (pw_gA G)) (F0 m 78 ls [])) {x2 : Int32} {x3 : Int32} {x4 : Int32} {σ : pw_St} {H : Heap} {locs : List Loc} {ls : Array Slot} (hw : pw_WH G σ s.heap H locs) (hl : lv_has ls 5 [(0, .ref (pw_ad G 10)), (2, .int x2), (3, .int x3), (4, .int x4)]) (hf : b_X11_before_78 k26 k78 x2 x3 x4 σ = some (r, τ)) : W p l e rm_X11_before s m args below meth c H locs 0 0 (MQ below (pw_Qi G r τ) args s 0 0 (pw_gA G)) (F0 m 78 ls []) := by
  have hx := hC.1
  have hb := hC.2.1
  unfold b_X11_before_78 at hf
  refine lv_iload hx hb dX11_before_78 (lv_at hl 3 rfl) ?_
  refine lv_aload_n hx hb dX11_before_80 rfl (lv_at hl 0 rfl) ?_
  refine pg_10_1 hC hw mw_750 dX11_before_81 ?_
  refine lv_icmp_ge (tgt := 124) hx hb dX11_before_84 (by decide) (fun hc => ?_) (fun hc => ?_)
  · replace hf := pw_ifp hc hf
    exact t_X11_before_124 hC hk26  hw (lv_sub hl [0, 1, 2] rfl) hf
  · replace hf := pw_ifn hc hf
    refine lv_iload_n hx hb dX11_before_87 rfl (lv_at hl 2 rfl) ?_
    refine lv_iload hx hb dX11_before_88 (lv_at hl 3 rfl) ?_
    obtain ⟨r1, σ1, h1, hf⟩ := pw_bi_some hf
    refine pw_ci hw (pw_runS (As := [.int x3, .int x4]) (rest := []) hC hw (c_X11_part  h1) mw_901 wm_X11_part ⟨Nat.zero_le _, Nat.zero_le _⟩ ⟨rfl, rfl, Nat.le_of_ble_eq_true rfl, Nat.le_of_ble_eq_true rfl⟩ rfl hl.1 rfl (Nat.le_of_ble_eq_true rfl) dX11_before_90) (fun H locs hw => ?_)
    refine lv_if_le (tgt := 118) hx hb dX11_before_93 (by decide) (fun hc => ?_) (fun hc => ?_)
    · replace hf := pw_ifp hc hf
      refine lv_iinc (v := (x4 + (1 : Int32))) (lv' := [(4, .int (x4 + (1 : Int32))), (0, .ref (pw_ad G 10)), (2, .int x2), (3, .int x3)]) hx hb dX11_before_118 hl (k := 3) rfl rfl (by decide) rfl (fun ls hl => ?_)
      refine lv_goto (tgt := 78) hx hb dX11_before_121 (by decide) ?_
      exact hk78 _ _ _ _ _ _ _ hw (lv_sub hl [1, 2, 3, 0] rfl) hf
    · replace hf := pw_ifn hc hf
      refine lv_aload_n hx hb dX11_before_96 rfl (lv_at hl 0 rfl) ?_
      refine pg_10_25 hC hw mw_774 dX11_before_97 ?_
      refine lv_iload_n hx hb dX11_before_100 rfl (lv_at hl 2 rfl) ?_
      refine lv_iload hx hb dX11_before_101 (lv_at hl 3 rfl) ?_
      obtain ⟨r2, σ2, h2, hf⟩ := pw_bi_some hf
      refine pw_ci hw (pw_runS (As := [.int x4]) (rest := [.int x3, .ref (pw_ad G 52)]) hC hw (c_X11_unit  h2) mw_904 wm_X11_unit ⟨Nat.zero_le _, Nat.zero_le _⟩ ⟨rfl, rfl, Nat.le_of_ble_eq_true rfl, Nat.le_of_ble_eq_true rfl⟩ rfl hl.1 rfl (Nat.le_of_ble_eq_true rfl) dX11_before_103) (fun H locs hw => ?_)
      refine lv_isub hx hb dX11_before_106 ?_
      obtain ⟨hin, hf⟩ := pw_gd hf
      refine pw_zld hC hw ca_52 hin dX11_before_107 ?_
      refine lv_if_eq (tgt := 118) hx hb dX11_before_108 (by decide) (fun hc => ?_) (fun hc => ?_)
      · replace hf := pw_ifp hc hf
        refine lv_iinc (v := (x4 + (1 : Int32))) (lv' := [(4, .int (x4 + (1 : Int32))), (0, .ref (pw_ad G 10)), (2, .int x2), (3, .int x3)]) hx hb dX11_before_118 hl (k := 3) rfl rfl (by decide) rfl (fun ls hl => ?_)
        refine lv_goto (tgt := 78) hx hb dX11_before_121 (by decide) ?_
        exact hk78 _ _ _ _ _ _ _ hw (lv_sub hl [1, 2, 3, 0] rfl) hf
      · replace hf := pw_ifn hc hf
        refine lv_aload_n hx hb dX11_before_111 rfl (lv_at hl 0 rfl) ?_
        refine pg_10_25 hC hw mw_774 dX11_before_112 ?_
        refine lv_iload_n hx hb dX11_before_115 rfl (lv_at hl 2 rfl) ?_
        refine lv_iconst (v := 1) hx hb dX11_before_116 (by decide) ?_
        obtain ⟨hin, hf⟩ := pw_gd hf
        refine pw_zst hC hw ca_52 hin dX11_before_117 (fun H locs hw => ?_)
        obtain ⟨σ3, e3, hf⟩ := pw_lts hf
        replace hw := pw_WHe e3 hw
        refine lv_iinc (v := (x4 + (1 : Int32))) (lv' := [(4, .int (x4 + (1 : Int32))), (0, .ref (pw_ad G 10)), (2, .int x2), (3, .int x3)]) hx hb dX11_before_118 hl (k := 3) rfl rfl (by decide) rfl (fun ls hl => ?_)
        refine lv_goto (tgt := 78) hx hb dX11_before_121 (by decide) ?_
        exact hk78 _ _ _ _ _ _ _ hw (lv_sub hl [1, 2, 3, 0] rfl) hf
set_option maxHeartbeats 4000000 in
theorem tl_X11_before_78 (hC : pw_CX G RX11 cX11_before 5 (some .int) p s m args meth c) {k26 : Int32 → Int32 → pw_St → Option (Int32 × pw_St)} {r : Int32} {τ : pw_St} (hk26 : ∀ (x2 : Int32), ∀ (x3 : Int32), ∀ (σ : pw_St) (H : Heap) (locs : List Loc) (ls : Array Slot), pw_WH G σ s.heap H locs → lv_has ls 5 [(0, .ref (pw_ad G 10)), (2, .int x2), (3, .int x3)] → k26 x2 x3 σ = some (r, τ) → W p l e rm_X11_before s m args below meth c H locs 0 0 (MQ below (pw_Qi G r τ) args s 0 0 (pw_gA G)) (F0 m 26 ls [])) : ∀ (n : Nat) (x2 : Int32) (x3 : Int32) (x4 : Int32) (σ : pw_St) (H : Heap) (locs : List Loc) (ls : Array Slot), pw_WH G σ s.heap H locs → lv_has ls 5 [(0, .ref (pw_ad G 10)), (2, .int x2), (3, .int x3), (4, .int x4)] → l_X11_before_78 k26 n x2 x3 x4 σ = some (r, τ) → W p l e rm_X11_before s m args below meth c H locs 0 0 (MQ below (pw_Qi G r τ) args s 0 0 (pw_gA G)) (F0 m 78 ls []) := by
  intro n
  induction n with
  | zero => intro x2 x3 x4 σ H locs ls hw hl hf; cases hf
  | succ n ih => intro x2 x3 x4 σ H locs ls hw hl hf; exact t_X11_before_78 hC hk26 ih  hw hl hf
set_option maxHeartbeats 4000000 in
set_option maxRecDepth 100000 in
theorem t_X11_before_74 (hC : pw_CX G RX11 cX11_before 5 (some .int) p s m args meth c) {k26 : Int32 → Int32 → pw_St → Option (Int32 × pw_St)} {r : Int32} {τ : pw_St} (hk26 : ∀ (x2 : Int32), ∀ (x3 : Int32), ∀ (σ : pw_St) (H : Heap) (locs : List Loc) (ls : Array Slot), pw_WH G σ s.heap H locs → lv_has ls 5 [(0, .ref (pw_ad G 10)), (2, .int x2), (3, .int x3)] → k26 x2 x3 σ = some (r, τ) → W p l e rm_X11_before s m args below meth c H locs 0 0 (MQ below (pw_Qi G r τ) args s 0 0 (pw_gA G)) (F0 m 26 ls [])) {x2 : Int32} {x3 : Int32} {y0 : Int32} {y1 : Int32} {σ : pw_St} {H : Heap} {locs : List Loc} {ls : Array Slot} (hw : pw_WH G σ s.heap H locs) (hl : lv_has ls 5 [(0, .ref (pw_ad G 10)), (2, .int x2), (3, .int x3)]) (hf : b_X11_before_74 k26 x2 x3 y0 y1 σ = some (r, τ)) : W p l e rm_X11_before s m args below meth c H locs 0 0 (MQ below (pw_Qi G r τ) args s 0 0 (pw_gA G)) (F0 m 74 ls [.int y0, .int y1, .ref (pw_ad G 52)]) := by
  have hx := hC.1
  have hb := hC.2.1
  unfold b_X11_before_74 at hf
  obtain ⟨hin, hf⟩ := pw_gd hf
  refine pw_zst hC hw ca_52 hin dX11_before_74 (fun H locs hw => ?_)
  obtain ⟨σ1, e1, hf⟩ := pw_lts hf
  replace hw := pw_WHe e1 hw
  refine lv_iconst (v := 0) hx hb dX11_before_75 (by decide) ?_
  refine lv_istore (lv' := [(4, .int (0 : Int32)), (0, .ref (pw_ad G 10)), (2, .int x2), (3, .int x3)]) hx hb dX11_before_76 hl (by decide) rfl (fun ls hl => ?_)
  exact tl_X11_before_78 hC hk26 pw_FU _ _ _ _ _ _ _ hw (lv_sub hl [1, 2, 3, 0] rfl) hf
set_option maxHeartbeats 4000000 in
set_option maxRecDepth 100000 in
theorem t_X11_before_26 (hC : pw_CX G RX11 cX11_before 5 (some .int) p s m args meth c) {k26 : Int32 → Int32 → pw_St → Option (Int32 × pw_St)} {r : Int32} {τ : pw_St} (hk26 : ∀ (x2 : Int32), ∀ (x3 : Int32), ∀ (σ : pw_St) (H : Heap) (locs : List Loc) (ls : Array Slot), pw_WH G σ s.heap H locs → lv_has ls 5 [(0, .ref (pw_ad G 10)), (2, .int x2), (3, .int x3)] → k26 x2 x3 σ = some (r, τ) → W p l e rm_X11_before s m args below meth c H locs 0 0 (MQ below (pw_Qi G r τ) args s 0 0 (pw_gA G)) (F0 m 26 ls [])) {x2 : Int32} {x3 : Int32} {σ : pw_St} {H : Heap} {locs : List Loc} {ls : Array Slot} (hw : pw_WH G σ s.heap H locs) (hl : lv_has ls 5 [(0, .ref (pw_ad G 10)), (2, .int x2), (3, .int x3)]) (hf : b_X11_before_26 k26 x2 x3 σ = some (r, τ)) : W p l e rm_X11_before s m args below meth c H locs 0 0 (MQ below (pw_Qi G r τ) args s 0 0 (pw_gA G)) (F0 m 26 ls []) := by
  have hx := hC.1
  have hb := hC.2.1
  unfold b_X11_before_26 at hf
  refine lv_iload_n hx hb dX11_before_26 rfl (lv_at hl 2 rfl) ?_
  refine lv_sipush (v := 2401) hx hb dX11_before_27 (by decide) ?_
  refine lv_icmp_ge (tgt := 150) hx hb dX11_before_30 (by decide) (fun hc => ?_) (fun hc => ?_)
  · replace hf := pw_ifp hc hf
    refine lv_iconst (v := 1) hx hb dX11_before_150 (by decide) ?_
    exact pw_iret hC hw hf dX11_before_151
  · replace hf := pw_ifn hc hf
    refine lv_aload_n hx hb dX11_before_33 rfl (lv_at hl 0 rfl) ?_
    refine pg_10_25 hC hw mw_774 dX11_before_34 ?_
    refine lv_iload_n hx hb dX11_before_37 rfl (lv_at hl 2 rfl) ?_
    refine lv_iconst (v := 0) hx hb dX11_before_38 (by decide) ?_
    obtain ⟨hin, hf⟩ := pw_gd hf
    refine pw_zst hC hw ca_52 hin dX11_before_39 (fun H locs hw => ?_)
    obtain ⟨σ1, e1, hf⟩ := pw_lts hf
    replace hw := pw_WHe e1 hw
    refine lv_aload_n hx hb dX11_before_40 rfl (lv_at hl 0 rfl) ?_
    refine lv_iload_n hx hb dX11_before_41 rfl (lv_at hl 2 rfl) ?_
    obtain ⟨r2, σ2, h2, hf⟩ := pw_bi_some hf
    refine pw_ci hw (pw_runV (As := [.int x3]) (rest := []) hC hw (c_X11_isPossible  h2) mw_907 wm_X11_isPossible ⟨Nat.zero_le _, Nat.zero_le _⟩ ⟨rfl, rfl, Nat.le_of_ble_eq_true rfl, Nat.le_of_ble_eq_true rfl⟩ (by decide) rfl rfl rfl hl.1 rfl (Nat.le_of_ble_eq_true rfl) dX11_before_42) (fun H locs hw => ?_)
    refine lv_if_eq (tgt := 144) hx hb dX11_before_45 (by decide) (fun hc => ?_) (fun hc => ?_)
    · replace hf := pw_ifp hc hf
      refine lv_iinc (v := (x3 + (1 : Int32))) (lv' := [(3, .int (x3 + (1 : Int32))), (0, .ref (pw_ad G 10)), (2, .int x2)]) hx hb dX11_before_144 hl (k := 2) rfl rfl (by decide) rfl (fun ls hl => ?_)
      refine lv_goto (tgt := 26) hx hb dX11_before_147 (by decide) ?_
      exact hk26 _ _ _ _ _ _ hw (lv_sub hl [1, 2, 0] rfl) hf
    · replace hf := pw_ifn hc hf
      refine lv_aload_n hx hb dX11_before_48 rfl (lv_at hl 0 rfl) ?_
      refine pg_10_24 hC hw mw_773 dX11_before_49 ?_
      refine lv_iload_n hx hb dX11_before_52 rfl (lv_at hl 2 rfl) ?_
      obtain ⟨hin, hf⟩ := pw_gd hf
      refine pw_zld hC hw ca_51 hin dX11_before_53 ?_
      refine lv_if_eq (tgt := 60) hx hb dX11_before_54 (by decide) (fun hc => ?_) (fun hc => ?_)
      · replace hf := pw_ifp hc hf
        refine lv_aload_n hx hb dX11_before_60 rfl (lv_at hl 0 rfl) ?_
        refine pg_10_25 hC hw mw_774 dX11_before_61 ?_
        refine lv_iload_n hx hb dX11_before_64 rfl (lv_at hl 2 rfl) ?_
        refine lv_iload_n hx hb dX11_before_65 rfl (lv_at hl 2 rfl) ?_
        refine lv_if_ne (tgt := 73) hx hb dX11_before_66 (by decide) (fun hc => ?_) (fun hc => ?_)
        · replace hf := pw_ifn hc hf
          refine lv_iconst (v := 0) hx hb dX11_before_73 (by decide) ?_
          exact t_X11_before_74 hC hk26  hw (lv_sub hl [0, 1, 2] rfl) hf
        · replace hf := pw_ifp hc hf
          refine lv_iconst (v := 1) hx hb dX11_before_69 (by decide) ?_
          refine lv_goto (tgt := 74) hx hb dX11_before_70 (by decide) ?_
          exact t_X11_before_74 hC hk26  hw (lv_sub hl [0, 1, 2] rfl) hf
      · replace hf := pw_ifn hc hf
        refine lv_goto (tgt := 144) hx hb dX11_before_57 (by decide) ?_
        refine lv_iinc (v := (x3 + (1 : Int32))) (lv' := [(3, .int (x3 + (1 : Int32))), (0, .ref (pw_ad G 10)), (2, .int x2)]) hx hb dX11_before_144 hl (k := 2) rfl rfl (by decide) rfl (fun ls hl => ?_)
        refine lv_goto (tgt := 26) hx hb dX11_before_147 (by decide) ?_
        exact hk26 _ _ _ _ _ _ hw (lv_sub hl [1, 2, 0] rfl) hf
set_option maxHeartbeats 4000000 in
theorem tl_X11_before_26 (hC : pw_CX G RX11 cX11_before 5 (some .int) p s m args meth c) {r : Int32} {τ : pw_St} : ∀ (n : Nat) (x2 : Int32) (x3 : Int32) (σ : pw_St) (H : Heap) (locs : List Loc) (ls : Array Slot), pw_WH G σ s.heap H locs → lv_has ls 5 [(0, .ref (pw_ad G 10)), (2, .int x2), (3, .int x3)] → l_X11_before_26  n x2 x3 σ = some (r, τ) → W p l e rm_X11_before s m args below meth c H locs 0 0 (MQ below (pw_Qi G r τ) args s 0 0 (pw_gA G)) (F0 m 26 ls []) := by
  intro n
  induction n with
  | zero => intro x2 x3 σ H locs ls hw hl hf; cases hf
  | succ n ih => intro x2 x3 σ H locs ls hw hl hf; exact t_X11_before_26 hC ih  hw hl hf
set_option maxHeartbeats 4000000 in
set_option maxRecDepth 100000 in
theorem c_X11_before {l : Launch} {G : pw_Gh} {x1 : Int32} {x2 : Int32} {σ : pw_St} {r : Int32} {τ : pw_St} (hf : f_X11_before x1 x2 σ = some (r, τ)) : Met l yX11_before (.code yX11_before cX11_before 5 (some .int) :: pw_BW) rm_X11_before (pw_Pc G [.ref (pw_ad G 10), .int x1, .int x2] σ) (pw_Qi G r τ) 0 0 (pw_gA G) := by
  refine pw_met (by decide +kernel) (Nat.le_of_ble_eq_true rfl) ?_
  intro p e s m args below meth c ls hC hw hl
  replace hl : lv_has ls 5 [(0, .ref (pw_ad G 10)), (1, .int x1), (2, .int x2)] := hl
  have hx := hC.1
  have hb := hC.2.1
  unfold f_X11_before at hf
  refine lv_iload_n hx hb dX11_before_0 rfl (lv_at hl 2 rfl) ?_
  refine lv_iconst (v := 0) hx hb dX11_before_1 (by decide) ?_
  refine lv_aload_n hx hb dX11_before_2 rfl (lv_at hl 0 rfl) ?_
  refine pg_10_20 hC hw mw_769 dX11_before_3 ?_
  refine lv_iconst (v := 1) hx hb dX11_before_6 (by decide) ?_
  refine lv_isub hx hb dX11_before_7 ?_
  obtain ⟨r1, σ1, h1, hf⟩ := pw_bi_some hf
  refine pw_ci hw (pw_runS (As := [.int x2, .int (0 : Int32), .int ((σ.1 10 20) - (1 : Int32))]) (rest := []) hC hw (c_X11_in  h1) mw_846 wm_X11_in ⟨Nat.zero_le _, Nat.zero_le _⟩ ⟨rfl, rfl, Nat.le_of_ble_eq_true rfl, Nat.le_of_ble_eq_true rfl⟩ rfl hl.1 rfl (Nat.le_of_ble_eq_true rfl) dX11_before_8) (fun H locs hw => ?_)
  refine lv_if_eq (tgt := 22) hx hb dX11_before_11 (by decide) (fun hc => ?_) (fun hc => ?_)
  · replace hf := pw_ifp hc hf
    refine lv_iconst (v := -1) hx hb dX11_before_22 (by decide) ?_
    exact pw_iret hC hw hf dX11_before_23
  · replace hf := pw_ifn hc hf
    refine lv_aload_n hx hb dX11_before_14 rfl (lv_at hl 0 rfl) ?_
    refine lv_iload_n hx hb dX11_before_15 rfl (lv_at hl 1 rfl) ?_
    obtain ⟨r2, σ2, h2, hf⟩ := pw_bi_some hf
    refine pw_ci hw (pw_runV (As := [.int x1]) (rest := []) hC hw (c_X11_study  h2) mw_1017 wm_X11_study ⟨Nat.zero_le _, Nat.zero_le _⟩ ⟨rfl, rfl, Nat.le_of_ble_eq_true rfl, Nat.le_of_ble_eq_true rfl⟩ (by decide) rfl rfl rfl hl.1 rfl (Nat.le_of_ble_eq_true rfl) dX11_before_16) (fun H locs hw => ?_)
    refine lv_if_ne (tgt := 24) hx hb dX11_before_19 (by decide) (fun hc => ?_) (fun hc => ?_)
    · replace hf := pw_ifn hc hf
      refine lv_iconst (v := 0) hx hb dX11_before_24 (by decide) ?_
      refine lv_istore_n (lv' := [(3, .int (0 : Int32)), (0, .ref (pw_ad G 10)), (1, .int x1), (2, .int x2)]) hx hb dX11_before_25 rfl hl (by decide) rfl (fun ls hl => ?_)
      exact tl_X11_before_26 hC  pw_FU _ _ _ _ _ _ hw (lv_sub hl [1, 3, 0] rfl) hf
    · replace hf := pw_ifp hc hf
      refine lv_iconst (v := -1) hx hb dX11_before_22 (by decide) ?_
      exact pw_iret hC hw hf dX11_before_23
-- PerhapsWasModel say
def f_X11_say (x1 : Int32) (σ : pw_St) : Option (Int32 × pw_St) := (pw_bi (f_X11_in x1 (0 : Int32) (3 : Int32) σ) fun r1 σ1 => (if r1 = 0 then (some ((-2 : Int32), σ1)) else (if (σ1.1 10 27) = (24 : Int32) then (some ((-4 : Int32), σ1)) else (if pw_in (σ1.1 10 27) 24 = true then (pw_lt (pw_sM σ1 53 (σ1.1 10 27).toNatClampNeg x1) fun σ2 => (pw_lt (pw_sM σ2 10 27 ((σ2.1 10 27) + (1 : Int32))) fun σ3 => (some ((σ3.1 10 27), σ3)))) else none))))
def rm_X11_say : Room := { frames := 1, cells := 0, slots := 0, locals := 22 }
set_option maxHeartbeats 4000000 in
set_option maxRecDepth 100000 in
theorem c_X11_say {l : Launch} {G : pw_Gh} {x1 : Int32} {σ : pw_St} {r : Int32} {τ : pw_St} (hf : f_X11_say x1 σ = some (r, τ)) : Met l yX11_say (.code yX11_say cX11_say 2 (some .int) :: pw_BW) rm_X11_say (pw_Pc G [.ref (pw_ad G 10), .int x1] σ) (pw_Qi G r τ) 0 0 (pw_gA G) := by
  refine pw_met (by decide +kernel) (Nat.le_of_ble_eq_true rfl) ?_
  intro p e s m args below meth c ls hC hw hl
  replace hl : lv_has ls 2 [(0, .ref (pw_ad G 10)), (1, .int x1)] := hl
  have hx := hC.1
  have hb := hC.2.1
  unfold f_X11_say at hf
  refine lv_iload_n hx hb dX11_say_0 rfl (lv_at hl 1 rfl) ?_
  refine lv_iconst (v := 0) hx hb dX11_say_1 (by decide) ?_
  refine lv_iconst (v := 3) hx hb dX11_say_2 (by decide) ?_
  obtain ⟨r1, σ1, h1, hf⟩ := pw_bi_some hf
  refine pw_ci hw (pw_runS (As := [.int x1, .int (0 : Int32), .int (3 : Int32)]) (rest := []) hC hw (c_X11_in  h1) mw_846 wm_X11_in ⟨Nat.zero_le _, Nat.zero_le _⟩ ⟨rfl, rfl, Nat.le_of_ble_eq_true rfl, Nat.le_of_ble_eq_true rfl⟩ rfl hl.1 rfl (Nat.le_of_ble_eq_true rfl) dX11_say_3) (fun H locs hw => ?_)
  refine lv_if_ne (tgt := 12) hx hb dX11_say_6 (by decide) (fun hc => ?_) (fun hc => ?_)
  · replace hf := pw_ifn hc hf
    refine lv_aload_n hx hb dX11_say_12 rfl (lv_at hl 0 rfl) ?_
    refine pg_10_27 hC hw mw_776 dX11_say_13 ?_
    refine lv_bipush (v := 24) hx hb dX11_say_16 (by decide) ?_
    refine lv_icmp_ne (tgt := 24) hx hb dX11_say_18 (by decide) (fun hc => ?_) (fun hc => ?_)
    · replace hf := pw_ifn hc hf
      refine lv_aload_n hx hb dX11_say_24 rfl (lv_at hl 0 rfl) ?_
      refine pg_10_26 hC hw mw_775 dX11_say_25 ?_
      refine lv_aload_n hx hb dX11_say_28 rfl (lv_at hl 0 rfl) ?_
      refine pg_10_27 hC hw mw_776 dX11_say_29 ?_
      refine lv_iload_n hx hb dX11_say_32 rfl (lv_at hl 1 rfl) ?_
      obtain ⟨hin, hf⟩ := pw_gd hf
      refine pw_ist hC hw ca_53 hin dX11_say_33 (fun H locs hw => ?_)
      obtain ⟨σ2, e2, hf⟩ := pw_lts hf
      replace hw := pw_WHe e2 hw
      refine lv_aload_n hx hb dX11_say_34 rfl (lv_at hl 0 rfl) ?_
      refine lv_dup hx hb dX11_say_35 rfl ?_
      refine pg_10_27 hC hw mw_776 dX11_say_36 ?_
      refine lv_iconst (v := 1) hx hb dX11_say_39 (by decide) ?_
      refine lv_iadd hx hb dX11_say_40 ?_
      refine pp_10_27 hC hw mw_776 dX11_say_41 (fun H locs hw => ?_)
      obtain ⟨σ3, e3, hf⟩ := pw_lts hf
      replace hw := pw_WHe e3 hw
      refine lv_aload_n hx hb dX11_say_44 rfl (lv_at hl 0 rfl) ?_
      refine pg_10_27 hC hw mw_776 dX11_say_45 ?_
      exact pw_iret hC hw hf dX11_say_48
    · replace hf := pw_ifp hc hf
      refine lv_bipush (v := -4) hx hb dX11_say_21 (by decide) ?_
      exact pw_iret hC hw hf dX11_say_23
  · replace hf := pw_ifp hc hf
    refine lv_bipush (v := -2) hx hb dX11_say_9 (by decide) ?_
    exact pw_iret hC hw hf dX11_say_11
-- PerhapsWasModel firstWrong
def b_X11_firstWrong_4 (k4 : Int32 → Int32 → pw_St → Option (Int32 × pw_St)) (x1 : Int32) (x2 : Int32) (σ : pw_St) : Option (Int32 × pw_St) := (if (σ.1 10 27) ≤ x2 then (some ((σ.1 10 27), σ)) else (if pw_in x2 24 = true then (if (σ.1 10 1) ≤ (σ.1 53 x2.toNatClampNeg) then (some (x2, σ)) else (pw_bi (f_X11_part x1 (σ.1 53 x2.toNatClampNeg) σ) fun r1 σ1 => (if pw_in (σ.1 53 x2.toNatClampNeg) 4 = true then (if r1 = (σ1.1 34 (σ.1 53 x2.toNatClampNeg).toNatClampNeg) then (some (x2, σ1)) else (pw_bi (f_X11_unit (σ.1 53 x2.toNatClampNeg) σ1) fun r2 σ2 => (pw_bi (f_X11_isPossible (x1 + r2) σ2) fun r3 σ3 => (if r3 = 0 then (some (x2, σ3)) else (pw_bi (f_X11_unit (σ.1 53 x2.toNatClampNeg) σ3) fun r4 σ4 => (k4 (x1 + r4) (x2 + (1 : Int32)) σ4)))))) else none))) else none))
def l_X11_firstWrong_4 : Nat → Int32 → Int32 → pw_St → Option (Int32 × pw_St)
  | 0 => fun _ _ _ => none
  | n + 1 => fun x1 x2 σ => b_X11_firstWrong_4  (l_X11_firstWrong_4  n) x1 x2 σ
def f_X11_firstWrong (σ : pw_St) : Option (Int32 × pw_St) := (l_X11_firstWrong_4  pw_FU (0 : Int32) (0 : Int32) σ)
def rm_X11_firstWrong : Room := { frames := 4, cells := 0, slots := 0, locals := 87 }
set_option maxHeartbeats 4000000 in
set_option maxRecDepth 100000 in
theorem t_X11_firstWrong_4 (hC : pw_CX G RX11 cX11_firstWrong 4 (some .int) p s m args meth c) {k4 : Int32 → Int32 → pw_St → Option (Int32 × pw_St)} {r : Int32} {τ : pw_St} (hk4 : ∀ (x1 : Int32), ∀ (x2 : Int32), ∀ (σ : pw_St) (H : Heap) (locs : List Loc) (ls : Array Slot), pw_WH G σ s.heap H locs → lv_has ls 4 [(0, .ref (pw_ad G 10)), (1, .int x1), (2, .int x2)] → k4 x1 x2 σ = some (r, τ) → W p l e rm_X11_firstWrong s m args below meth c H locs 0 0 (MQ below (pw_Qi G r τ) args s 0 0 (pw_gA G)) (F0 m 4 ls [])) {x1 : Int32} {x2 : Int32} {σ : pw_St} {H : Heap} {locs : List Loc} {ls : Array Slot} (hw : pw_WH G σ s.heap H locs) (hl : lv_has ls 4 [(0, .ref (pw_ad G 10)), (1, .int x1), (2, .int x2)]) (hf : b_X11_firstWrong_4 k4 x1 x2 σ = some (r, τ)) : W p l e rm_X11_firstWrong s m args below meth c H locs 0 0 (MQ below (pw_Qi G r τ) args s 0 0 (pw_gA G)) (F0 m 4 ls []) := by
  have hx := hC.1
  have hb := hC.2.1
  unfold b_X11_firstWrong_4 at hf
  refine lv_iload_n hx hb dX11_firstWrong_4 rfl (lv_at hl 2 rfl) ?_
  refine lv_aload_n hx hb dX11_firstWrong_5 rfl (lv_at hl 0 rfl) ?_
  refine pg_10_27 hC hw mw_776 dX11_firstWrong_6 ?_
  refine lv_icmp_ge (tgt := 69) hx hb dX11_firstWrong_9 (by decide) (fun hc => ?_) (fun hc => ?_)
  · replace hf := pw_ifp hc hf
    refine lv_aload_n hx hb dX11_firstWrong_69 rfl (lv_at hl 0 rfl) ?_
    refine pg_10_27 hC hw mw_776 dX11_firstWrong_70 ?_
    exact pw_iret hC hw hf dX11_firstWrong_73
  · replace hf := pw_ifn hc hf
    refine lv_aload_n hx hb dX11_firstWrong_12 rfl (lv_at hl 0 rfl) ?_
    refine pg_10_26 hC hw mw_775 dX11_firstWrong_13 ?_
    refine lv_iload_n hx hb dX11_firstWrong_16 rfl (lv_at hl 2 rfl) ?_
    obtain ⟨hin, hf⟩ := pw_gd hf
    refine pw_ild hC hw ca_53 hin dX11_firstWrong_17 ?_
    refine lv_istore_n (lv' := [(3, .int (σ.1 53 x2.toNatClampNeg)), (0, .ref (pw_ad G 10)), (1, .int x1), (2, .int x2)]) hx hb dX11_firstWrong_18 rfl hl (by decide) rfl (fun ls hl => ?_)
    refine lv_iload_n hx hb dX11_firstWrong_19 rfl (lv_at hl 0 rfl) ?_
    refine lv_aload_n hx hb dX11_firstWrong_20 rfl (lv_at hl 1 rfl) ?_
    refine pg_10_1 hC hw mw_750 dX11_firstWrong_21 ?_
    refine lv_icmp_ge (tgt := 54) hx hb dX11_firstWrong_24 (by decide) (fun hc => ?_) (fun hc => ?_)
    · replace hf := pw_ifp hc hf
      refine lv_iload_n hx hb dX11_firstWrong_54 rfl (lv_at hl 3 rfl) ?_
      exact pw_iret hC hw hf dX11_firstWrong_55
    · replace hf := pw_ifn hc hf
      refine lv_iload_n hx hb dX11_firstWrong_27 rfl (lv_at hl 2 rfl) ?_
      refine lv_iload_n hx hb dX11_firstWrong_28 rfl (lv_at hl 0 rfl) ?_
      obtain ⟨r1, σ1, h1, hf⟩ := pw_bi_some hf
      refine pw_ci hw (pw_runS (As := [.int x1, .int (σ.1 53 x2.toNatClampNeg)]) (rest := []) hC hw (c_X11_part  h1) mw_901 wm_X11_part ⟨Nat.zero_le _, Nat.zero_le _⟩ ⟨rfl, rfl, Nat.le_of_ble_eq_true rfl, Nat.le_of_ble_eq_true rfl⟩ rfl hl.1 rfl (Nat.le_of_ble_eq_true rfl) dX11_firstWrong_29) (fun H locs hw => ?_)
      refine lv_aload_n hx hb dX11_firstWrong_32 rfl (lv_at hl 1 rfl) ?_
      refine pg_10_2 hC hw mw_751 dX11_firstWrong_33 ?_
      refine lv_iload_n hx hb dX11_firstWrong_36 rfl (lv_at hl 0 rfl) ?_
      obtain ⟨hin, hf⟩ := pw_gd hf
      refine pw_ild hC hw ca_34 hin dX11_firstWrong_37 ?_
      refine lv_icmp_eq (tgt := 54) hx hb dX11_firstWrong_38 (by decide) (fun hc => ?_) (fun hc => ?_)
      · replace hf := pw_ifp hc hf
        refine lv_iload_n hx hb dX11_firstWrong_54 rfl (lv_at hl 3 rfl) ?_
        exact pw_iret hC hw hf dX11_firstWrong_55
      · replace hf := pw_ifn hc hf
        refine lv_aload_n hx hb dX11_firstWrong_41 rfl (lv_at hl 1 rfl) ?_
        refine lv_iload_n hx hb dX11_firstWrong_42 rfl (lv_at hl 2 rfl) ?_
        refine lv_iload_n hx hb dX11_firstWrong_43 rfl (lv_at hl 0 rfl) ?_
        obtain ⟨r2, σ2, h2, hf⟩ := pw_bi_some hf
        refine pw_ci hw (pw_runS (As := [.int (σ.1 53 x2.toNatClampNeg)]) (rest := [.int x1, .ref (pw_ad G 10)]) hC hw (c_X11_unit  h2) mw_904 wm_X11_unit ⟨Nat.zero_le _, Nat.zero_le _⟩ ⟨rfl, rfl, Nat.le_of_ble_eq_true rfl, Nat.le_of_ble_eq_true rfl⟩ rfl hl.1 rfl (Nat.le_of_ble_eq_true rfl) dX11_firstWrong_44) (fun H locs hw => ?_)
        refine lv_iadd hx hb dX11_firstWrong_47 ?_
        obtain ⟨r3, σ3, h3, hf⟩ := pw_bi_some hf
        refine pw_ci hw (pw_runV (As := [.int (x1 + r2)]) (rest := []) hC hw (c_X11_isPossible  h3) mw_907 wm_X11_isPossible ⟨Nat.zero_le _, Nat.zero_le _⟩ ⟨rfl, rfl, Nat.le_of_ble_eq_true rfl, Nat.le_of_ble_eq_true rfl⟩ (by decide) rfl rfl rfl hl.1 rfl (Nat.le_of_ble_eq_true rfl) dX11_firstWrong_48) (fun H locs hw => ?_)
        refine lv_if_ne (tgt := 56) hx hb dX11_firstWrong_51 (by decide) (fun hc => ?_) (fun hc => ?_)
        · replace hf := pw_ifn hc hf
          refine lv_iload_n hx hb dX11_firstWrong_56 rfl (lv_at hl 2 rfl) ?_
          refine lv_iload_n hx hb dX11_firstWrong_57 rfl (lv_at hl 0 rfl) ?_
          obtain ⟨r4, σ4, h4, hf⟩ := pw_bi_some hf
          refine pw_ci hw (pw_runS (As := [.int (σ.1 53 x2.toNatClampNeg)]) (rest := [.int x1]) hC hw (c_X11_unit  h4) mw_904 wm_X11_unit ⟨Nat.zero_le _, Nat.zero_le _⟩ ⟨rfl, rfl, Nat.le_of_ble_eq_true rfl, Nat.le_of_ble_eq_true rfl⟩ rfl hl.1 rfl (Nat.le_of_ble_eq_true rfl) dX11_firstWrong_58) (fun H locs hw => ?_)
          refine lv_iadd hx hb dX11_firstWrong_61 ?_
          refine lv_istore_n (lv' := [(1, .int (x1 + r4)), (3, .int (σ.1 53 x2.toNatClampNeg)), (0, .ref (pw_ad G 10)), (2, .int x2)]) hx hb dX11_firstWrong_62 rfl hl (by decide) rfl (fun ls hl => ?_)
          refine lv_iinc (v := (x2 + (1 : Int32))) (lv' := [(2, .int (x2 + (1 : Int32))), (1, .int (x1 + r4)), (3, .int (σ.1 53 x2.toNatClampNeg)), (0, .ref (pw_ad G 10))]) hx hb dX11_firstWrong_63 hl (k := 3) rfl rfl (by decide) rfl (fun ls hl => ?_)
          refine lv_goto (tgt := 4) hx hb dX11_firstWrong_66 (by decide) ?_
          exact hk4 _ _ _ _ _ _ hw (lv_sub hl [3, 1, 0] rfl) hf
        · replace hf := pw_ifp hc hf
          refine lv_iload_n hx hb dX11_firstWrong_54 rfl (lv_at hl 3 rfl) ?_
          exact pw_iret hC hw hf dX11_firstWrong_55
set_option maxHeartbeats 4000000 in
theorem tl_X11_firstWrong_4 (hC : pw_CX G RX11 cX11_firstWrong 4 (some .int) p s m args meth c) {r : Int32} {τ : pw_St} : ∀ (n : Nat) (x1 : Int32) (x2 : Int32) (σ : pw_St) (H : Heap) (locs : List Loc) (ls : Array Slot), pw_WH G σ s.heap H locs → lv_has ls 4 [(0, .ref (pw_ad G 10)), (1, .int x1), (2, .int x2)] → l_X11_firstWrong_4  n x1 x2 σ = some (r, τ) → W p l e rm_X11_firstWrong s m args below meth c H locs 0 0 (MQ below (pw_Qi G r τ) args s 0 0 (pw_gA G)) (F0 m 4 ls []) := by
  intro n
  induction n with
  | zero => intro x1 x2 σ H locs ls hw hl hf; cases hf
  | succ n ih => intro x1 x2 σ H locs ls hw hl hf; exact t_X11_firstWrong_4 hC ih  hw hl hf
set_option maxHeartbeats 4000000 in
set_option maxRecDepth 100000 in
theorem c_X11_firstWrong {l : Launch} {G : pw_Gh} {σ : pw_St} {r : Int32} {τ : pw_St} (hf : f_X11_firstWrong σ = some (r, τ)) : Met l yX11_firstWrong (.code yX11_firstWrong cX11_firstWrong 4 (some .int) :: pw_BW) rm_X11_firstWrong (pw_Pc G [.ref (pw_ad G 10)] σ) (pw_Qi G r τ) 0 0 (pw_gA G) := by
  refine pw_met (by decide +kernel) (Nat.le_of_ble_eq_true rfl) ?_
  intro p e s m args below meth c ls hC hw hl
  replace hl : lv_has ls 4 [(0, .ref (pw_ad G 10))] := hl
  have hx := hC.1
  have hb := hC.2.1
  unfold f_X11_firstWrong at hf
  refine lv_iconst (v := 0) hx hb dX11_firstWrong_0 (by decide) ?_
  refine lv_istore_n (lv' := [(1, .int (0 : Int32)), (0, .ref (pw_ad G 10))]) hx hb dX11_firstWrong_1 rfl hl (by decide) rfl (fun ls hl => ?_)
  refine lv_iconst (v := 0) hx hb dX11_firstWrong_2 (by decide) ?_
  refine lv_istore_n (lv' := [(2, .int (0 : Int32)), (1, .int (0 : Int32)), (0, .ref (pw_ad G 10))]) hx hb dX11_firstWrong_3 rfl hl (by decide) rfl (fun ls hl => ?_)
  exact tl_X11_firstWrong_4 hC  pw_FU _ _ _ _ _ _ hw (lv_sub hl [2, 1, 0] rfl) hf
-- PerhapsWasModel check
def b_X11_check_29 (x1 : Int32) (y0 : Int32) (σ : pw_St) : Option (Int32 × pw_St) := (pw_lt (pw_sM σ 10 27 (0 : Int32)) fun σ1 => (if y0 = 0 then (some (x1, σ1)) else (some ((100 : Int32), σ1))))
def b_X11_check_28 (x1 : Int32) (σ : pw_St) : Option (Int32 × pw_St) := (b_X11_check_29  x1 (0 : Int32) σ)
def f_X11_check (σ : pw_St) : Option (Int32 × pw_St) := (pw_bi (f_X11_firstWrong σ) fun r1 σ1 => (if r1 = (σ1.1 10 27) then (if (σ1.1 10 27) = (σ1.1 10 8) then (b_X11_check_29  r1 (1 : Int32) σ1) else (b_X11_check_28  r1 σ1)) else (b_X11_check_28  r1 σ1)))
def rm_X11_check : Room := { frames := 5, cells := 0, slots := 0, locals := 110 }
set_option maxHeartbeats 4000000 in
set_option maxRecDepth 100000 in
theorem t_X11_check_29 (hC : pw_CX G RX11 cX11_check 3 (some .int) p s m args meth c) {r : Int32} {τ : pw_St} {x1 : Int32} {y0 : Int32} {σ : pw_St} {H : Heap} {locs : List Loc} {ls : Array Slot} (hw : pw_WH G σ s.heap H locs) (hl : lv_has ls 3 [(0, .ref (pw_ad G 10)), (1, .int x1)]) (hf : b_X11_check_29 x1 y0 σ = some (r, τ)) : W p l e rm_X11_check s m args below meth c H locs 0 0 (MQ below (pw_Qi G r τ) args s 0 0 (pw_gA G)) (F0 m 29 ls [.int y0]) := by
  have hx := hC.1
  have hb := hC.2.1
  unfold b_X11_check_29 at hf
  refine lv_istore_n (lv' := [(2, .int y0), (0, .ref (pw_ad G 10)), (1, .int x1)]) hx hb dX11_check_29 rfl hl (by decide) rfl (fun ls hl => ?_)
  refine lv_aload_n hx hb dX11_check_30 rfl (lv_at hl 1 rfl) ?_
  refine lv_iconst (v := 0) hx hb dX11_check_31 (by decide) ?_
  refine pp_10_27 hC hw mw_776 dX11_check_32 (fun H locs hw => ?_)
  obtain ⟨σ1, e1, hf⟩ := pw_lts hf
  replace hw := pw_WHe e1 hw
  refine lv_iload_n hx hb dX11_check_35 rfl (lv_at hl 0 rfl) ?_
  refine lv_if_eq (tgt := 44) hx hb dX11_check_36 (by decide) (fun hc => ?_) (fun hc => ?_)
  · replace hf := pw_ifp hc hf
    refine lv_iload_n hx hb dX11_check_44 rfl (lv_at hl 2 rfl) ?_
    exact pw_iret hC hw hf dX11_check_45
  · replace hf := pw_ifn hc hf
    refine lv_bipush (v := 100) hx hb dX11_check_39 (by decide) ?_
    refine lv_goto (tgt := 45) hx hb dX11_check_41 (by decide) ?_
    exact pw_iret hC hw hf dX11_check_45
set_option maxHeartbeats 4000000 in
set_option maxRecDepth 100000 in
theorem t_X11_check_28 (hC : pw_CX G RX11 cX11_check 3 (some .int) p s m args meth c) {r : Int32} {τ : pw_St} {x1 : Int32} {σ : pw_St} {H : Heap} {locs : List Loc} {ls : Array Slot} (hw : pw_WH G σ s.heap H locs) (hl : lv_has ls 3 [(0, .ref (pw_ad G 10)), (1, .int x1)]) (hf : b_X11_check_28 x1 σ = some (r, τ)) : W p l e rm_X11_check s m args below meth c H locs 0 0 (MQ below (pw_Qi G r τ) args s 0 0 (pw_gA G)) (F0 m 28 ls []) := by
  have hx := hC.1
  have hb := hC.2.1
  unfold b_X11_check_28 at hf
  refine lv_iconst (v := 0) hx hb dX11_check_28 (by decide) ?_
  exact t_X11_check_29 hC   hw (lv_sub hl [0, 1] rfl) hf
set_option maxHeartbeats 4000000 in
set_option maxRecDepth 100000 in
theorem c_X11_check {l : Launch} {G : pw_Gh} {σ : pw_St} {r : Int32} {τ : pw_St} (hf : f_X11_check σ = some (r, τ)) : Met l yX11_check (.code yX11_check cX11_check 3 (some .int) :: pw_BW) rm_X11_check (pw_Pc G [.ref (pw_ad G 10)] σ) (pw_Qi G r τ) 0 0 (pw_gA G) := by
  refine pw_met (by decide +kernel) (Nat.le_of_ble_eq_true rfl) ?_
  intro p e s m args below meth c ls hC hw hl
  replace hl : lv_has ls 3 [(0, .ref (pw_ad G 10))] := hl
  have hx := hC.1
  have hb := hC.2.1
  unfold f_X11_check at hf
  refine lv_aload_n hx hb dX11_check_0 rfl (lv_at hl 0 rfl) ?_
  obtain ⟨r1, σ1, h1, hf⟩ := pw_bi_some hf
  refine pw_ci hw (pw_runV (As := []) (rest := []) hC hw (c_X11_firstWrong  h1) mw_1070 wm_X11_firstWrong ⟨Nat.zero_le _, Nat.zero_le _⟩ ⟨rfl, rfl, Nat.le_of_ble_eq_true rfl, Nat.le_of_ble_eq_true rfl⟩ (by decide) rfl rfl rfl hl.1 rfl (Nat.le_of_ble_eq_true rfl) dX11_check_1) (fun H locs hw => ?_)
  refine lv_istore_n (lv' := [(1, .int r1), (0, .ref (pw_ad G 10))]) hx hb dX11_check_4 rfl hl (by decide) rfl (fun ls hl => ?_)
  refine lv_iload_n hx hb dX11_check_5 rfl (lv_at hl 0 rfl) ?_
  refine lv_aload_n hx hb dX11_check_6 rfl (lv_at hl 1 rfl) ?_
  refine pg_10_27 hC hw mw_776 dX11_check_7 ?_
  refine lv_icmp_ne (tgt := 28) hx hb dX11_check_10 (by decide) (fun hc => ?_) (fun hc => ?_)
  · replace hf := pw_ifn hc hf
    exact t_X11_check_28 hC   hw (lv_sub hl [1, 0] rfl) hf
  · replace hf := pw_ifp hc hf
    refine lv_aload_n hx hb dX11_check_13 rfl (lv_at hl 1 rfl) ?_
    refine pg_10_27 hC hw mw_776 dX11_check_14 ?_
    refine lv_aload_n hx hb dX11_check_17 rfl (lv_at hl 1 rfl) ?_
    refine pg_10_8 hC hw mw_757 dX11_check_18 ?_
    refine lv_icmp_ne (tgt := 28) hx hb dX11_check_21 (by decide) (fun hc => ?_) (fun hc => ?_)
    · replace hf := pw_ifn hc hf
      exact t_X11_check_28 hC   hw (lv_sub hl [1, 0] rfl) hf
    · replace hf := pw_ifp hc hf
      refine lv_iconst (v := 1) hx hb dX11_check_24 (by decide) ?_
      refine lv_goto (tgt := 29) hx hb dX11_check_25 (by decide) ?_
      exact t_X11_check_29 hC   hw (lv_sub hl [1, 0] rfl) hf
-- PerhapsWasModel passes
def b_X11_passes_34 (k34 : Int32 → Int32 → Int32 → pw_St → Option (Int32 × pw_St)) (x1 : Int32) (x2 : Int32) (x3 : Int32) (σ : pw_St) : Option (Int32 × pw_St) := (if (σ.1 10 27) < x3 then (some ((-1 : Int32), σ)) else (pw_bi (f_X11_worthOf x1 x2 σ) fun r1 σ1 => (if r1 = 0 then (if (σ1.1 10 27) ≤ x3 then (k34 x1 x2 (x3 + (1 : Int32)) σ1) else (if pw_in x3 24 = true then (pw_bi (f_X11_unit (σ1.1 53 x3.toNatClampNeg) σ1) fun r2 σ2 => (k34 x1 (x2 + r2) (x3 + (1 : Int32)) σ2)) else none)) else (some (x3, σ1)))))
def l_X11_passes_34 : Nat → Int32 → Int32 → Int32 → pw_St → Option (Int32 × pw_St)
  | 0 => fun _ _ _ _ => none
  | n + 1 => fun x1 x2 x3 σ => b_X11_passes_34  (l_X11_passes_34  n) x1 x2 x3 σ
def f_X11_passes (x1 : Int32) (σ : pw_St) : Option (Int32 × pw_St) := (pw_bi (f_X11_in x1 (0 : Int32) ((σ.1 10 20) - (1 : Int32)) σ) fun r1 σ1 => (if r1 = 0 then (some ((-1 : Int32), σ1)) else (pw_bi (f_X11_firstWrong σ1) fun r2 σ2 => (if (σ2.1 10 27) ≤ r2 then (l_X11_passes_34  pw_FU x1 (0 : Int32) (0 : Int32) σ2) else (some ((-3 : Int32), σ2))))))
def rm_X11_passes : Room := { frames := 5, cells := 0, slots := 0, locals := 110 }
set_option maxHeartbeats 4000000 in
set_option maxRecDepth 100000 in
theorem t_X11_passes_34 (hC : pw_CX G RX11 cX11_passes 4 (some .int) p s m args meth c) {k34 : Int32 → Int32 → Int32 → pw_St → Option (Int32 × pw_St)} {r : Int32} {τ : pw_St} (hk34 : ∀ (x1 : Int32), ∀ (x2 : Int32), ∀ (x3 : Int32), ∀ (σ : pw_St) (H : Heap) (locs : List Loc) (ls : Array Slot), pw_WH G σ s.heap H locs → lv_has ls 4 [(0, .ref (pw_ad G 10)), (1, .int x1), (2, .int x2), (3, .int x3)] → k34 x1 x2 x3 σ = some (r, τ) → W p l e rm_X11_passes s m args below meth c H locs 0 0 (MQ below (pw_Qi G r τ) args s 0 0 (pw_gA G)) (F0 m 34 ls [])) {x1 : Int32} {x2 : Int32} {x3 : Int32} {σ : pw_St} {H : Heap} {locs : List Loc} {ls : Array Slot} (hw : pw_WH G σ s.heap H locs) (hl : lv_has ls 4 [(0, .ref (pw_ad G 10)), (1, .int x1), (2, .int x2), (3, .int x3)]) (hf : b_X11_passes_34 k34 x1 x2 x3 σ = some (r, τ)) : W p l e rm_X11_passes s m args below meth c H locs 0 0 (MQ below (pw_Qi G r τ) args s 0 0 (pw_gA G)) (F0 m 34 ls []) := by
  have hx := hC.1
  have hb := hC.2.1
  unfold b_X11_passes_34 at hf
  refine lv_iload_n hx hb dX11_passes_34 rfl (lv_at hl 3 rfl) ?_
  refine lv_aload_n hx hb dX11_passes_35 rfl (lv_at hl 0 rfl) ?_
  refine pg_10_27 hC hw mw_776 dX11_passes_36 ?_
  refine lv_icmp_gt (tgt := 79) hx hb dX11_passes_39 (by decide) (fun hc => ?_) (fun hc => ?_)
  · replace hf := pw_ifp hc hf
    refine lv_iconst (v := -1) hx hb dX11_passes_79 (by decide) ?_
    exact pw_iret hC hw hf dX11_passes_80
  · replace hf := pw_ifn hc hf
    refine lv_aload_n hx hb dX11_passes_42 rfl (lv_at hl 0 rfl) ?_
    refine lv_iload_n hx hb dX11_passes_43 rfl (lv_at hl 1 rfl) ?_
    refine lv_iload_n hx hb dX11_passes_44 rfl (lv_at hl 2 rfl) ?_
    obtain ⟨r1, σ1, h1, hf⟩ := pw_bi_some hf
    refine pw_ci hw (pw_runV (As := [.int x1, .int x2]) (rest := []) hC hw (c_X11_worthOf  h1) mw_990 wm_X11_worthOf ⟨Nat.zero_le _, Nat.zero_le _⟩ ⟨rfl, rfl, Nat.le_of_ble_eq_true rfl, Nat.le_of_ble_eq_true rfl⟩ (by decide) rfl rfl rfl hl.1 rfl (Nat.le_of_ble_eq_true rfl) dX11_passes_45) (fun H locs hw => ?_)
    refine lv_if_eq (tgt := 53) hx hb dX11_passes_48 (by decide) (fun hc => ?_) (fun hc => ?_)
    · replace hf := pw_ifp hc hf
      refine lv_iload_n hx hb dX11_passes_53 rfl (lv_at hl 3 rfl) ?_
      refine lv_aload_n hx hb dX11_passes_54 rfl (lv_at hl 0 rfl) ?_
      refine pg_10_27 hC hw mw_776 dX11_passes_55 ?_
      refine lv_icmp_ge (tgt := 73) hx hb dX11_passes_58 (by decide) (fun hc => ?_) (fun hc => ?_)
      · replace hf := pw_ifp hc hf
        refine lv_iinc (v := (x3 + (1 : Int32))) (lv' := [(3, .int (x3 + (1 : Int32))), (0, .ref (pw_ad G 10)), (1, .int x1), (2, .int x2)]) hx hb dX11_passes_73 hl (k := 3) rfl rfl (by decide) rfl (fun ls hl => ?_)
        refine lv_goto (tgt := 34) hx hb dX11_passes_76 (by decide) ?_
        exact hk34 _ _ _ _ _ _ _ hw (lv_sub hl [1, 2, 3, 0] rfl) hf
      · replace hf := pw_ifn hc hf
        refine lv_iload_n hx hb dX11_passes_61 rfl (lv_at hl 2 rfl) ?_
        refine lv_aload_n hx hb dX11_passes_62 rfl (lv_at hl 0 rfl) ?_
        refine pg_10_26 hC hw mw_775 dX11_passes_63 ?_
        refine lv_iload_n hx hb dX11_passes_66 rfl (lv_at hl 3 rfl) ?_
        obtain ⟨hin, hf⟩ := pw_gd hf
        refine pw_ild hC hw ca_53 hin dX11_passes_67 ?_
        obtain ⟨r2, σ2, h2, hf⟩ := pw_bi_some hf
        refine pw_ci hw (pw_runS (As := [.int (σ1.1 53 x3.toNatClampNeg)]) (rest := [.int x2]) hC hw (c_X11_unit  h2) mw_904 wm_X11_unit ⟨Nat.zero_le _, Nat.zero_le _⟩ ⟨rfl, rfl, Nat.le_of_ble_eq_true rfl, Nat.le_of_ble_eq_true rfl⟩ rfl hl.1 rfl (Nat.le_of_ble_eq_true rfl) dX11_passes_68) (fun H locs hw => ?_)
        refine lv_iadd hx hb dX11_passes_71 ?_
        refine lv_istore_n (lv' := [(2, .int (x2 + r2)), (0, .ref (pw_ad G 10)), (1, .int x1), (3, .int x3)]) hx hb dX11_passes_72 rfl hl (by decide) rfl (fun ls hl => ?_)
        refine lv_iinc (v := (x3 + (1 : Int32))) (lv' := [(3, .int (x3 + (1 : Int32))), (2, .int (x2 + r2)), (0, .ref (pw_ad G 10)), (1, .int x1)]) hx hb dX11_passes_73 hl (k := 3) rfl rfl (by decide) rfl (fun ls hl => ?_)
        refine lv_goto (tgt := 34) hx hb dX11_passes_76 (by decide) ?_
        exact hk34 _ _ _ _ _ _ _ hw (lv_sub hl [2, 3, 1, 0] rfl) hf
    · replace hf := pw_ifn hc hf
      refine lv_iload_n hx hb dX11_passes_51 rfl (lv_at hl 3 rfl) ?_
      exact pw_iret hC hw hf dX11_passes_52
set_option maxHeartbeats 4000000 in
theorem tl_X11_passes_34 (hC : pw_CX G RX11 cX11_passes 4 (some .int) p s m args meth c) {r : Int32} {τ : pw_St} : ∀ (n : Nat) (x1 : Int32) (x2 : Int32) (x3 : Int32) (σ : pw_St) (H : Heap) (locs : List Loc) (ls : Array Slot), pw_WH G σ s.heap H locs → lv_has ls 4 [(0, .ref (pw_ad G 10)), (1, .int x1), (2, .int x2), (3, .int x3)] → l_X11_passes_34  n x1 x2 x3 σ = some (r, τ) → W p l e rm_X11_passes s m args below meth c H locs 0 0 (MQ below (pw_Qi G r τ) args s 0 0 (pw_gA G)) (F0 m 34 ls []) := by
  intro n
  induction n with
  | zero => intro x1 x2 x3 σ H locs ls hw hl hf; cases hf
  | succ n ih => intro x1 x2 x3 σ H locs ls hw hl hf; exact t_X11_passes_34 hC ih  hw hl hf
set_option maxHeartbeats 4000000 in
set_option maxRecDepth 100000 in
theorem c_X11_passes {l : Launch} {G : pw_Gh} {x1 : Int32} {σ : pw_St} {r : Int32} {τ : pw_St} (hf : f_X11_passes x1 σ = some (r, τ)) : Met l yX11_passes (.code yX11_passes cX11_passes 4 (some .int) :: pw_BW) rm_X11_passes (pw_Pc G [.ref (pw_ad G 10), .int x1] σ) (pw_Qi G r τ) 0 0 (pw_gA G) := by
  refine pw_met (by decide +kernel) (Nat.le_of_ble_eq_true rfl) ?_
  intro p e s m args below meth c ls hC hw hl
  replace hl : lv_has ls 4 [(0, .ref (pw_ad G 10)), (1, .int x1)] := hl
  have hx := hC.1
  have hb := hC.2.1
  unfold f_X11_passes at hf
  refine lv_iload_n hx hb dX11_passes_0 rfl (lv_at hl 1 rfl) ?_
  refine lv_iconst (v := 0) hx hb dX11_passes_1 (by decide) ?_
  refine lv_aload_n hx hb dX11_passes_2 rfl (lv_at hl 0 rfl) ?_
  refine pg_10_20 hC hw mw_769 dX11_passes_3 ?_
  refine lv_iconst (v := 1) hx hb dX11_passes_6 (by decide) ?_
  refine lv_isub hx hb dX11_passes_7 ?_
  obtain ⟨r1, σ1, h1, hf⟩ := pw_bi_some hf
  refine pw_ci hw (pw_runS (As := [.int x1, .int (0 : Int32), .int ((σ.1 10 20) - (1 : Int32))]) (rest := []) hC hw (c_X11_in  h1) mw_846 wm_X11_in ⟨Nat.zero_le _, Nat.zero_le _⟩ ⟨rfl, rfl, Nat.le_of_ble_eq_true rfl, Nat.le_of_ble_eq_true rfl⟩ rfl hl.1 rfl (Nat.le_of_ble_eq_true rfl) dX11_passes_8) (fun H locs hw => ?_)
  refine lv_if_ne (tgt := 16) hx hb dX11_passes_11 (by decide) (fun hc => ?_) (fun hc => ?_)
  · replace hf := pw_ifn hc hf
    refine lv_aload_n hx hb dX11_passes_16 rfl (lv_at hl 0 rfl) ?_
    obtain ⟨r2, σ2, h2, hf⟩ := pw_bi_some hf
    refine pw_ci hw (pw_runV (As := []) (rest := []) hC hw (c_X11_firstWrong  h2) mw_1070 wm_X11_firstWrong ⟨Nat.zero_le _, Nat.zero_le _⟩ ⟨rfl, rfl, Nat.le_of_ble_eq_true rfl, Nat.le_of_ble_eq_true rfl⟩ (by decide) rfl rfl rfl hl.1 rfl (Nat.le_of_ble_eq_true rfl) dX11_passes_17) (fun H locs hw => ?_)
    refine lv_aload_n hx hb dX11_passes_20 rfl (lv_at hl 0 rfl) ?_
    refine pg_10_27 hC hw mw_776 dX11_passes_21 ?_
    refine lv_icmp_ge (tgt := 30) hx hb dX11_passes_24 (by decide) (fun hc => ?_) (fun hc => ?_)
    · replace hf := pw_ifp hc hf
      refine lv_iconst (v := 0) hx hb dX11_passes_30 (by decide) ?_
      refine lv_istore_n (lv' := [(2, .int (0 : Int32)), (0, .ref (pw_ad G 10)), (1, .int x1)]) hx hb dX11_passes_31 rfl hl (by decide) rfl (fun ls hl => ?_)
      refine lv_iconst (v := 0) hx hb dX11_passes_32 (by decide) ?_
      refine lv_istore_n (lv' := [(3, .int (0 : Int32)), (2, .int (0 : Int32)), (0, .ref (pw_ad G 10)), (1, .int x1)]) hx hb dX11_passes_33 rfl hl (by decide) rfl (fun ls hl => ?_)
      exact tl_X11_passes_34 hC  pw_FU _ _ _ _ _ _ _ hw (lv_sub hl [2, 3, 1, 0] rfl) hf
    · replace hf := pw_ifn hc hf
      refine lv_bipush (v := -3) hx hb dX11_passes_27 (by decide) ?_
      exact pw_iret hC hw hf dX11_passes_29
  · replace hf := pw_ifp hc hf
    refine lv_iconst (v := -1) hx hb dX11_passes_14 (by decide) ?_
    exact pw_iret hC hw hf dX11_passes_15
-- PerhapsWasModel count
def b_X11_count__85 (k61 : Int32 → Int32 → pw_St → Option (Int32 × pw_St)) (x3 : Int32) (y0 : Int32) (y1 : Int32) (σ : pw_St) : Option (Int32 × pw_St) := (k61 (y1 + y0) (x3 + (1 : Int32)) σ)
def b_X11_count__61 (k61 : Int32 → Int32 → pw_St → Option (Int32 × pw_St)) (x2 : Int32) (x3 : Int32) (σ : pw_St) : Option (Int32 × pw_St) := (if (σ.1 10 9) ≤ x3 then (some (x2, σ)) else (if pw_in x3 24 = true then (if (σ.1 43 x3.toNatClampNeg) = (-1 : Int32) then (b_X11_count__85 k61 x3 (1 : Int32) x2 σ) else (b_X11_count__85 k61 x3 (0 : Int32) x2 σ)) else none))
def l_X11_count__61 : Nat → Int32 → Int32 → pw_St → Option (Int32 × pw_St)
  | 0 => fun _ _ _ => none
  | n + 1 => fun x2 x3 σ => b_X11_count__61  (l_X11_count__61  n) x2 x3 σ
def f_X11_count_ (x1 : Int32) (σ : pw_St) : Option (Int32 × pw_St) := (if x1 = 0 then (some ((σ.1 10 1), σ)) else (if x1 = 1 then (some ((σ.1 10 8), σ)) else (if x1 = 2 then (some ((σ.1 10 9), σ)) else (if x1 = 3 then (l_X11_count__61  pw_FU (0 : Int32) (0 : Int32) σ) else (if x1 = 4 then (some ((σ.1 10 20), σ)) else (if x1 = 5 then (some ((σ.1 10 21), σ)) else (if x1 = 6 then (some ((σ.1 10 27), σ)) else (some ((-1 : Int32), σ)))))))))
def rm_X11_count_ : Room := { frames := 0, cells := 0, slots := 0, locals := 0 }
set_option maxHeartbeats 4000000 in
set_option maxRecDepth 100000 in
theorem t_X11_count__85 (hC : pw_CX G RX11 cX11_count_ 4 (some .int) p s m args meth c) {k61 : Int32 → Int32 → pw_St → Option (Int32 × pw_St)} {r : Int32} {τ : pw_St} (hk61 : ∀ (x2 : Int32), ∀ (x3 : Int32), ∀ (σ : pw_St) (H : Heap) (locs : List Loc) (ls : Array Slot), pw_WH G σ s.heap H locs → lv_has ls 4 [(0, .ref (pw_ad G 10)), (2, .int x2), (3, .int x3)] → k61 x2 x3 σ = some (r, τ) → W p l e rm_X11_count_ s m args below meth c H locs 0 0 (MQ below (pw_Qi G r τ) args s 0 0 (pw_gA G)) (F0 m 61 ls [])) {x3 : Int32} {y0 : Int32} {y1 : Int32} {σ : pw_St} {H : Heap} {locs : List Loc} {ls : Array Slot} (hw : pw_WH G σ s.heap H locs) (hl : lv_has ls 4 [(0, .ref (pw_ad G 10)), (3, .int x3)]) (hf : b_X11_count__85 k61 x3 y0 y1 σ = some (r, τ)) : W p l e rm_X11_count_ s m args below meth c H locs 0 0 (MQ below (pw_Qi G r τ) args s 0 0 (pw_gA G)) (F0 m 85 ls [.int y0, .int y1]) := by
  have hx := hC.1
  have hb := hC.2.1
  unfold b_X11_count__85 at hf
  refine lv_iadd hx hb dX11_count__85 ?_
  refine lv_istore_n (lv' := [(2, .int (y1 + y0)), (0, .ref (pw_ad G 10)), (3, .int x3)]) hx hb dX11_count__86 rfl hl (by decide) rfl (fun ls hl => ?_)
  refine lv_iinc (v := (x3 + (1 : Int32))) (lv' := [(3, .int (x3 + (1 : Int32))), (2, .int (y1 + y0)), (0, .ref (pw_ad G 10))]) hx hb dX11_count__87 hl (k := 2) rfl rfl (by decide) rfl (fun ls hl => ?_)
  refine lv_goto (tgt := 61) hx hb dX11_count__90 (by decide) ?_
  exact hk61 _ _ _ _ _ _ hw (lv_sub hl [2, 1, 0] rfl) hf
set_option maxHeartbeats 4000000 in
set_option maxRecDepth 100000 in
theorem t_X11_count__61 (hC : pw_CX G RX11 cX11_count_ 4 (some .int) p s m args meth c) {k61 : Int32 → Int32 → pw_St → Option (Int32 × pw_St)} {r : Int32} {τ : pw_St} (hk61 : ∀ (x2 : Int32), ∀ (x3 : Int32), ∀ (σ : pw_St) (H : Heap) (locs : List Loc) (ls : Array Slot), pw_WH G σ s.heap H locs → lv_has ls 4 [(0, .ref (pw_ad G 10)), (2, .int x2), (3, .int x3)] → k61 x2 x3 σ = some (r, τ) → W p l e rm_X11_count_ s m args below meth c H locs 0 0 (MQ below (pw_Qi G r τ) args s 0 0 (pw_gA G)) (F0 m 61 ls [])) {x2 : Int32} {x3 : Int32} {σ : pw_St} {H : Heap} {locs : List Loc} {ls : Array Slot} (hw : pw_WH G σ s.heap H locs) (hl : lv_has ls 4 [(0, .ref (pw_ad G 10)), (2, .int x2), (3, .int x3)]) (hf : b_X11_count__61 k61 x2 x3 σ = some (r, τ)) : W p l e rm_X11_count_ s m args below meth c H locs 0 0 (MQ below (pw_Qi G r τ) args s 0 0 (pw_gA G)) (F0 m 61 ls []) := by
  have hx := hC.1
  have hb := hC.2.1
  unfold b_X11_count__61 at hf
  refine lv_iload_n hx hb dX11_count__61 rfl (lv_at hl 2 rfl) ?_
  refine lv_aload_n hx hb dX11_count__62 rfl (lv_at hl 0 rfl) ?_
  refine pg_10_9 hC hw mw_758 dX11_count__63 ?_
  refine lv_icmp_ge (tgt := 93) hx hb dX11_count__66 (by decide) (fun hc => ?_) (fun hc => ?_)
  · replace hf := pw_ifp hc hf
    refine lv_iload_n hx hb dX11_count__93 rfl (lv_at hl 1 rfl) ?_
    exact pw_iret hC hw hf dX11_count__94
  · replace hf := pw_ifn hc hf
    refine lv_iload_n hx hb dX11_count__69 rfl (lv_at hl 1 rfl) ?_
    refine lv_aload_n hx hb dX11_count__70 rfl (lv_at hl 0 rfl) ?_
    refine pg_10_13 hC hw mw_762 dX11_count__71 ?_
    refine lv_iload_n hx hb dX11_count__74 rfl (lv_at hl 2 rfl) ?_
    obtain ⟨hin, hf⟩ := pw_gd hf
    refine pw_ild hC hw ca_43 hin dX11_count__75 ?_
    refine lv_iconst (v := -1) hx hb dX11_count__76 (by decide) ?_
    refine lv_icmp_ne (tgt := 84) hx hb dX11_count__77 (by decide) (fun hc => ?_) (fun hc => ?_)
    · replace hf := pw_ifn hc hf
      refine lv_iconst (v := 0) hx hb dX11_count__84 (by decide) ?_
      exact t_X11_count__85 hC hk61  hw (lv_sub hl [0, 2] rfl) hf
    · replace hf := pw_ifp hc hf
      refine lv_iconst (v := 1) hx hb dX11_count__80 (by decide) ?_
      refine lv_goto (tgt := 85) hx hb dX11_count__81 (by decide) ?_
      exact t_X11_count__85 hC hk61  hw (lv_sub hl [0, 2] rfl) hf
set_option maxHeartbeats 4000000 in
theorem tl_X11_count__61 (hC : pw_CX G RX11 cX11_count_ 4 (some .int) p s m args meth c) {r : Int32} {τ : pw_St} : ∀ (n : Nat) (x2 : Int32) (x3 : Int32) (σ : pw_St) (H : Heap) (locs : List Loc) (ls : Array Slot), pw_WH G σ s.heap H locs → lv_has ls 4 [(0, .ref (pw_ad G 10)), (2, .int x2), (3, .int x3)] → l_X11_count__61  n x2 x3 σ = some (r, τ) → W p l e rm_X11_count_ s m args below meth c H locs 0 0 (MQ below (pw_Qi G r τ) args s 0 0 (pw_gA G)) (F0 m 61 ls []) := by
  intro n
  induction n with
  | zero => intro x2 x3 σ H locs ls hw hl hf; cases hf
  | succ n ih => intro x2 x3 σ H locs ls hw hl hf; exact t_X11_count__61 hC ih  hw hl hf
set_option maxHeartbeats 4000000 in
set_option maxRecDepth 100000 in
theorem c_X11_count_ {l : Launch} {G : pw_Gh} {x1 : Int32} {σ : pw_St} {r : Int32} {τ : pw_St} (hf : f_X11_count_ x1 σ = some (r, τ)) : Met l yX11_count_ (.code yX11_count_ cX11_count_ 4 (some .int) :: pw_BW) rm_X11_count_ (pw_Pc G [.ref (pw_ad G 10), .int x1] σ) (pw_Qi G r τ) 0 0 (pw_gA G) := by
  refine pw_met (by decide +kernel) (Nat.le_of_ble_eq_true rfl) ?_
  intro p e s m args below meth c ls hC hw hl
  replace hl : lv_has ls 4 [(0, .ref (pw_ad G 10)), (1, .int x1)] := hl
  have hx := hC.1
  have hb := hC.2.1
  unfold f_X11_count_ at hf
  refine lv_iconst (v := 0) hx hb dX11_count__0 (by decide) ?_
  refine lv_istore_n (lv' := [(2, .int (0 : Int32)), (0, .ref (pw_ad G 10)), (1, .int x1)]) hx hb dX11_count__1 rfl hl (by decide) rfl (fun ls hl => ?_)
  refine lv_iload_n hx hb dX11_count__2 rfl (lv_at hl 2 rfl) ?_
  by_cases hc0 : x1 = 0
  · replace hf := pw_ifp hc0 hf
    refine lv_tableIn (off := 41) (tgt := 44) hx hb dX11_count__3 (by rw [hc0]; decide) (by rw [hc0]; decide) (by rw [hc0]; decide) (by decide) ?_
    refine lv_aload_n hx hb dX11_count__44 rfl (lv_at hl 1 rfl) ?_
    refine pg_10_1 hC hw mw_750 dX11_count__45 ?_
    exact pw_iret hC hw hf dX11_count__48
  replace hf := pw_ifn hc0 hf
  by_cases hc1 : x1 = 1
  · replace hf := pw_ifp hc1 hf
    refine lv_tableIn (off := 46) (tgt := 49) hx hb dX11_count__3 (by rw [hc1]; decide) (by rw [hc1]; decide) (by rw [hc1]; decide) (by decide) ?_
    refine lv_aload_n hx hb dX11_count__49 rfl (lv_at hl 1 rfl) ?_
    refine pg_10_8 hC hw mw_757 dX11_count__50 ?_
    exact pw_iret hC hw hf dX11_count__53
  replace hf := pw_ifn hc1 hf
  by_cases hc2 : x1 = 2
  · replace hf := pw_ifp hc2 hf
    refine lv_tableIn (off := 51) (tgt := 54) hx hb dX11_count__3 (by rw [hc2]; decide) (by rw [hc2]; decide) (by rw [hc2]; decide) (by decide) ?_
    refine lv_aload_n hx hb dX11_count__54 rfl (lv_at hl 1 rfl) ?_
    refine pg_10_9 hC hw mw_758 dX11_count__55 ?_
    exact pw_iret hC hw hf dX11_count__58
  replace hf := pw_ifn hc2 hf
  by_cases hc3 : x1 = 3
  · replace hf := pw_ifp hc3 hf
    refine lv_tableIn (off := 56) (tgt := 59) hx hb dX11_count__3 (by rw [hc3]; decide) (by rw [hc3]; decide) (by rw [hc3]; decide) (by decide) ?_
    refine lv_iconst (v := 0) hx hb dX11_count__59 (by decide) ?_
    refine lv_istore_n (lv' := [(3, .int (0 : Int32)), (2, .int (0 : Int32)), (0, .ref (pw_ad G 10)), (1, .int x1)]) hx hb dX11_count__60 rfl hl (by decide) rfl (fun ls hl => ?_)
    exact tl_X11_count__61 hC  pw_FU _ _ _ _ _ _ hw (lv_sub hl [2, 1, 0] rfl) hf
  replace hf := pw_ifn hc3 hf
  by_cases hc4 : x1 = 4
  · replace hf := pw_ifp hc4 hf
    refine lv_tableIn (off := 92) (tgt := 95) hx hb dX11_count__3 (by rw [hc4]; decide) (by rw [hc4]; decide) (by rw [hc4]; decide) (by decide) ?_
    refine lv_aload_n hx hb dX11_count__95 rfl (lv_at hl 1 rfl) ?_
    refine pg_10_20 hC hw mw_769 dX11_count__96 ?_
    exact pw_iret hC hw hf dX11_count__99
  replace hf := pw_ifn hc4 hf
  by_cases hc5 : x1 = 5
  · replace hf := pw_ifp hc5 hf
    refine lv_tableIn (off := 97) (tgt := 100) hx hb dX11_count__3 (by rw [hc5]; decide) (by rw [hc5]; decide) (by rw [hc5]; decide) (by decide) ?_
    refine lv_aload_n hx hb dX11_count__100 rfl (lv_at hl 1 rfl) ?_
    refine pg_10_21 hC hw mw_770 dX11_count__101 ?_
    exact pw_iret hC hw hf dX11_count__104
  replace hf := pw_ifn hc5 hf
  by_cases hc6 : x1 = 6
  · replace hf := pw_ifp hc6 hf
    refine lv_tableIn (off := 102) (tgt := 105) hx hb dX11_count__3 (by rw [hc6]; decide) (by rw [hc6]; decide) (by rw [hc6]; decide) (by decide) ?_
    refine lv_aload_n hx hb dX11_count__105 rfl (lv_at hl 1 rfl) ?_
    refine pg_10_27 hC hw mw_776 dX11_count__106 ?_
    exact pw_iret hC hw hf dX11_count__109
  replace hf := pw_ifn hc6 hf
  refine lv_tableOut (tgt := 110) hx hb dX11_count__3 (by have hq := And.intro (pw_ti hc0 (z := 0) (by decide)) (And.intro (pw_ti hc1 (z := 1) (by decide)) (And.intro (pw_ti hc2 (z := 2) (by decide)) (And.intro (pw_ti hc3 (z := 3) (by decide)) (And.intro (pw_ti hc4 (z := 4) (by decide)) (And.intro (pw_ti hc5 (z := 5) (by decide)) (pw_ti hc6 (z := 6) (by decide))))))); omega) (by decide) ?_
  refine lv_iconst (v := -1) hx hb dX11_count__110 (by decide) ?_
  exact pw_iret hC hw hf dX11_count__111
end PM
