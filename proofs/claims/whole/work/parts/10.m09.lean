section PM
variable {p : Program} {l : Launch} {e : Env} {s : State} {m : MethodId} {args : Array Value} {below : List Frame} {meth : Method} {c : Code} {G : pw_Gh}
-- PerhapsWasModel order
def f_X11_order (x1 : Int64) (x3 : Int32) (σ : pw_St) : Option (Int32 × pw_St) := (pw_bv (f_X11_open σ) fun σ1 => (pw_bv (f_X11_count σ1) fun σ2 => (if (lg_cmp x1 (0 : Int64)) < 0 then (some ((-1 : Int32), σ2)) else (if pw_in (0 : Int32) 2401 = true then (if 0 ≤ (lg_cmp x1 (σ2.2 45 (0 : Int32).toNatClampNeg)) then (some ((-1 : Int32), σ2)) else (pw_bi (f_X11_in x3 (0 : Int32) ((σ2.1 10 8) - (1 : Int32)) σ2) fun r3 σ3 => (if r3 = 0 then (some ((-1 : Int32), σ3)) else (pw_bi (f_X11_walk x1 x3 σ3) fun r4 σ4 => (some (r4, σ4)))))) else none))))
def rm_X11_order : Room := { frames := 5, cells := 0, slots := 0, locals := 110 }
set_option maxHeartbeats 4000000 in
set_option maxRecDepth 100000 in
theorem c_X11_order {l : Launch} {G : pw_Gh} {x1 : Int64} {x3 : Int32} {σ : pw_St} {r : Int32} {τ : pw_St} (hf : f_X11_order x1 x3 σ = some (r, τ)) : Met l yX11_order (.code yX11_order cX11_order 4 (some .int) :: pw_BW) rm_X11_order (pw_Pc G [.ref (pw_ad G 10), .long x1, .int x3] σ) (pw_Qi G r τ) 0 0 (pw_gA G) := by
  refine pw_met (by decide +kernel) (Nat.le_of_ble_eq_true rfl) ?_
  intro p e s m args below meth c ls hC hw hl
  replace hl : lv_has ls 4 [(0, .ref (pw_ad G 10)), (1, .long x1), (3, .int x3)] := hl
  have hx := hC.1
  have hb := hC.2.1
  unfold f_X11_order at hf
  refine lv_aload_n hx hb dX11_order_0 rfl (lv_at hl 0 rfl) ?_
  obtain ⟨σ1, h1, hf⟩ := pw_bv_some hf
  refine pw_cv hw (pw_runV (As := []) (rest := []) hC hw (c_X11_open  h1) mw_937 wm_X11_open ⟨Nat.zero_le _, Nat.zero_le _⟩ ⟨rfl, rfl, Nat.le_of_ble_eq_true rfl, Nat.le_of_ble_eq_true rfl⟩ (by decide) rfl rfl rfl hl.1 rfl (Nat.le_of_ble_eq_true rfl) dX11_order_1) (fun H locs hw => ?_)
  refine lv_aload_n hx hb dX11_order_4 rfl (lv_at hl 0 rfl) ?_
  obtain ⟨σ2, h2, hf⟩ := pw_bv_some hf
  refine pw_cv hw (pw_runV (As := []) (rest := []) hC hw (c_X11_count  h2) mw_941 wm_X11_count ⟨Nat.zero_le _, Nat.zero_le _⟩ ⟨rfl, rfl, Nat.le_of_ble_eq_true rfl, Nat.le_of_ble_eq_true rfl⟩ (by decide) rfl rfl rfl hl.1 rfl (Nat.le_of_ble_eq_true rfl) dX11_order_5) (fun H locs hw => ?_)
  refine lv_lload_n hx hb dX11_order_8 rfl (lv_at hl 1 rfl) ?_
  refine lv_lconst (v := 0) hx hb dX11_order_9 (by decide) ?_
  refine W.lcmp hx hb dX11_order_10 ?_
  refine lv_if_lt (tgt := 39) hx hb dX11_order_11 (by decide) (fun hc => ?_) (fun hc => ?_)
  · replace hf := pw_ifp hc hf
    refine lv_iconst (v := -1) hx hb dX11_order_39 (by decide) ?_
    exact pw_iret hC hw hf dX11_order_40
  · replace hf := pw_ifn hc hf
    refine lv_lload_n hx hb dX11_order_14 rfl (lv_at hl 1 rfl) ?_
    refine lv_aload_n hx hb dX11_order_15 rfl (lv_at hl 0 rfl) ?_
    refine pg_10_15 hC hw mw_764 dX11_order_16 ?_
    refine lv_iconst (v := 0) hx hb dX11_order_19 (by decide) ?_
    obtain ⟨hin, hf⟩ := pw_gd hf
    refine pw_lld hC hw ca_45 hin dX11_order_20 ?_
    refine W.lcmp hx hb dX11_order_21 ?_
    refine lv_if_ge (tgt := 39) hx hb dX11_order_22 (by decide) (fun hc => ?_) (fun hc => ?_)
    · replace hf := pw_ifp hc hf
      refine lv_iconst (v := -1) hx hb dX11_order_39 (by decide) ?_
      exact pw_iret hC hw hf dX11_order_40
    · replace hf := pw_ifn hc hf
      refine lv_iload_n hx hb dX11_order_25 rfl (lv_at hl 2 rfl) ?_
      refine lv_iconst (v := 0) hx hb dX11_order_26 (by decide) ?_
      refine lv_aload_n hx hb dX11_order_27 rfl (lv_at hl 0 rfl) ?_
      refine pg_10_8 hC hw mw_757 dX11_order_28 ?_
      refine lv_iconst (v := 1) hx hb dX11_order_31 (by decide) ?_
      refine lv_isub hx hb dX11_order_32 ?_
      obtain ⟨r3, σ3, h3, hf⟩ := pw_bi_some hf
      refine pw_ci hw (pw_runS (As := [.int x3, .int (0 : Int32), .int ((σ2.1 10 8) - (1 : Int32))]) (rest := []) hC hw (c_X11_in  h3) mw_846 wm_X11_in ⟨Nat.zero_le _, Nat.zero_le _⟩ ⟨rfl, rfl, Nat.le_of_ble_eq_true rfl, Nat.le_of_ble_eq_true rfl⟩ rfl hl.1 rfl (Nat.le_of_ble_eq_true rfl) dX11_order_33) (fun H locs hw => ?_)
      refine lv_if_ne (tgt := 41) hx hb dX11_order_36 (by decide) (fun hc => ?_) (fun hc => ?_)
      · replace hf := pw_ifn hc hf
        refine lv_aload_n hx hb dX11_order_41 rfl (lv_at hl 0 rfl) ?_
        refine lv_lload_n hx hb dX11_order_42 rfl (lv_at hl 1 rfl) ?_
        refine lv_iload_n hx hb dX11_order_43 rfl (lv_at hl 2 rfl) ?_
        obtain ⟨r4, σ4, h4, hf⟩ := pw_bi_some hf
        refine pw_ci hw (pw_runV (As := [.long x1, .int x3]) (rest := []) hC hw (c_X11_walk  h4) mw_954 wm_X11_walk ⟨Nat.zero_le _, Nat.zero_le _⟩ ⟨rfl, rfl, Nat.le_of_ble_eq_true rfl, Nat.le_of_ble_eq_true rfl⟩ (by decide) rfl rfl rfl hl.1 rfl (Nat.le_of_ble_eq_true rfl) dX11_order_44) (fun H locs hw => ?_)
        exact pw_iret hC hw hf dX11_order_47
      · replace hf := pw_ifp hc hf
        refine lv_iconst (v := -1) hx hb dX11_order_39 (by decide) ?_
        exact pw_iret hC hw hf dX11_order_40
-- PerhapsWasModel push
def f_X11_push (x1 : Int32) (x2 : Int32) (x3 : Int32) (σ : pw_St) : Option (Int32 × pw_St) := (if (σ.1 10 21) = (6 : Int32) then (some ((-4 : Int32), σ)) else (if pw_in ((15 : Int32) * ((8 : Int32) + (σ.1 10 21))) 240 = true then (pw_lt (pw_sM σ 46 ((15 : Int32) * ((8 : Int32) + (σ.1 10 21))).toNatClampNeg x1) fun σ1 => (if pw_in ((15 : Int32) * ((8 : Int32) + (σ.1 10 21))) 240 = true then (pw_lt (pw_sM σ1 47 ((15 : Int32) * ((8 : Int32) + (σ.1 10 21))).toNatClampNeg x2) fun σ2 => (if pw_in ((15 : Int32) * ((8 : Int32) + (σ.1 10 21))) 240 = true then (pw_lt (pw_sM σ2 48 ((15 : Int32) * ((8 : Int32) + (σ.1 10 21))).toNatClampNeg x3) fun σ3 => (if pw_in ((8 : Int32) + (σ3.1 10 21)) 16 = true then (pw_lt (pw_sM σ3 49 ((8 : Int32) + (σ3.1 10 21)).toNatClampNeg (1 : Int32)) fun σ4 => (pw_lt (pw_sM σ4 10 21 ((σ4.1 10 21) + (1 : Int32))) fun σ5 => (some ((σ5.1 10 21), σ5)))) else none)) else none)) else none)) else none))
def rm_X11_push : Room := { frames := 0, cells := 0, slots := 0, locals := 0 }
set_option maxHeartbeats 4000000 in
set_option maxRecDepth 100000 in
theorem c_X11_push {l : Launch} {G : pw_Gh} {x1 : Int32} {x2 : Int32} {x3 : Int32} {σ : pw_St} {r : Int32} {τ : pw_St} (hf : f_X11_push x1 x2 x3 σ = some (r, τ)) : Met l yX11_push (.code yX11_push cX11_push 5 (some .int) :: pw_BW) rm_X11_push (pw_Pc G [.ref (pw_ad G 10), .int x1, .int x2, .int x3] σ) (pw_Qi G r τ) 0 0 (pw_gA G) := by
  refine pw_met (by decide +kernel) (Nat.le_of_ble_eq_true rfl) ?_
  intro p e s m args below meth c ls hC hw hl
  replace hl : lv_has ls 5 [(0, .ref (pw_ad G 10)), (1, .int x1), (2, .int x2), (3, .int x3)] := hl
  have hx := hC.1
  have hb := hC.2.1
  unfold f_X11_push at hf
  refine lv_aload_n hx hb dX11_push_0 rfl (lv_at hl 0 rfl) ?_
  refine pg_10_21 hC hw mw_770 dX11_push_1 ?_
  refine lv_bipush (v := 6) hx hb dX11_push_4 (by decide) ?_
  refine lv_icmp_ne (tgt := 12) hx hb dX11_push_6 (by decide) (fun hc => ?_) (fun hc => ?_)
  · replace hf := pw_ifn hc hf
    refine lv_bipush (v := 15) hx hb dX11_push_12 (by decide) ?_
    refine lv_bipush (v := 8) hx hb dX11_push_14 (by decide) ?_
    refine lv_aload_n hx hb dX11_push_16 rfl (lv_at hl 0 rfl) ?_
    refine pg_10_21 hC hw mw_770 dX11_push_17 ?_
    refine lv_iadd hx hb dX11_push_20 ?_
    refine lv_imul hx hb dX11_push_21 ?_
    refine lv_istore (lv' := [(4, .int ((15 : Int32) * ((8 : Int32) + (σ.1 10 21)))), (0, .ref (pw_ad G 10)), (1, .int x1), (2, .int x2), (3, .int x3)]) hx hb dX11_push_22 hl (by decide) rfl (fun ls hl => ?_)
    refine lv_aload_n hx hb dX11_push_24 rfl (lv_at hl 1 rfl) ?_
    refine pg_10_16 hC hw mw_765 dX11_push_25 ?_
    refine lv_iload hx hb dX11_push_28 (lv_at hl 0 rfl) ?_
    refine lv_iload_n hx hb dX11_push_30 rfl (lv_at hl 2 rfl) ?_
    obtain ⟨hin, hf⟩ := pw_gd hf
    refine pw_ist hC hw ca_46 hin dX11_push_31 (fun H locs hw => ?_)
    obtain ⟨σ1, e1, hf⟩ := pw_lts hf
    replace hw := pw_WHe e1 hw
    refine lv_aload_n hx hb dX11_push_32 rfl (lv_at hl 1 rfl) ?_
    refine pg_10_17 hC hw mw_766 dX11_push_33 ?_
    refine lv_iload hx hb dX11_push_36 (lv_at hl 0 rfl) ?_
    refine lv_iload_n hx hb dX11_push_38 rfl (lv_at hl 3 rfl) ?_
    obtain ⟨hin, hf⟩ := pw_gd hf
    refine pw_ist hC hw ca_47 hin dX11_push_39 (fun H locs hw => ?_)
    obtain ⟨σ2, e2, hf⟩ := pw_lts hf
    replace hw := pw_WHe e2 hw
    refine lv_aload_n hx hb dX11_push_40 rfl (lv_at hl 1 rfl) ?_
    refine pg_10_18 hC hw mw_767 dX11_push_41 ?_
    refine lv_iload hx hb dX11_push_44 (lv_at hl 0 rfl) ?_
    refine lv_iload_n hx hb dX11_push_46 rfl (lv_at hl 4 rfl) ?_
    obtain ⟨hin, hf⟩ := pw_gd hf
    refine pw_ist hC hw ca_48 hin dX11_push_47 (fun H locs hw => ?_)
    obtain ⟨σ3, e3, hf⟩ := pw_lts hf
    replace hw := pw_WHe e3 hw
    refine lv_aload_n hx hb dX11_push_48 rfl (lv_at hl 1 rfl) ?_
    refine pg_10_19 hC hw mw_768 dX11_push_49 ?_
    refine lv_bipush (v := 8) hx hb dX11_push_52 (by decide) ?_
    refine lv_aload_n hx hb dX11_push_54 rfl (lv_at hl 1 rfl) ?_
    refine pg_10_21 hC hw mw_770 dX11_push_55 ?_
    refine lv_iadd hx hb dX11_push_58 ?_
    refine lv_iconst (v := 1) hx hb dX11_push_59 (by decide) ?_
    obtain ⟨hin, hf⟩ := pw_gd hf
    refine pw_ist hC hw ca_49 hin dX11_push_60 (fun H locs hw => ?_)
    obtain ⟨σ4, e4, hf⟩ := pw_lts hf
    replace hw := pw_WHe e4 hw
    refine lv_aload_n hx hb dX11_push_61 rfl (lv_at hl 1 rfl) ?_
    refine lv_dup hx hb dX11_push_62 rfl ?_
    refine pg_10_21 hC hw mw_770 dX11_push_63 ?_
    refine lv_iconst (v := 1) hx hb dX11_push_66 (by decide) ?_
    refine lv_iadd hx hb dX11_push_67 ?_
    refine pp_10_21 hC hw mw_770 dX11_push_68 (fun H locs hw => ?_)
    obtain ⟨σ5, e5, hf⟩ := pw_lts hf
    replace hw := pw_WHe e5 hw
    refine lv_aload_n hx hb dX11_push_71 rfl (lv_at hl 1 rfl) ?_
    refine pg_10_21 hC hw mw_770 dX11_push_72 ?_
    exact pw_iret hC hw hf dX11_push_75
  · replace hf := pw_ifp hc hf
    refine lv_bipush (v := -4) hx hb dX11_push_9 (by decide) ?_
    exact pw_iret hC hw hf dX11_push_11
-- PerhapsWasModel number
def f_X11_number (x1 : Int32) (σ : pw_St) : Option (Int32 × pw_St) := (pw_bi (f_X11_push (10 : Int32) x1 (0 : Int32) σ) fun r1 σ1 => (some (r1, σ1)))
def rm_X11_number : Room := { frames := 1, cells := 0, slots := 0, locals := 24 }
set_option maxHeartbeats 4000000 in
set_option maxRecDepth 100000 in
theorem c_X11_number {l : Launch} {G : pw_Gh} {x1 : Int32} {σ : pw_St} {r : Int32} {τ : pw_St} (hf : f_X11_number x1 σ = some (r, τ)) : Met l yX11_number (.code yX11_number cX11_number 2 (some .int) :: pw_BW) rm_X11_number (pw_Pc G [.ref (pw_ad G 10), .int x1] σ) (pw_Qi G r τ) 0 0 (pw_gA G) := by
  refine pw_met (by decide +kernel) (Nat.le_of_ble_eq_true rfl) ?_
  intro p e s m args below meth c ls hC hw hl
  replace hl : lv_has ls 2 [(0, .ref (pw_ad G 10)), (1, .int x1)] := hl
  have hx := hC.1
  have hb := hC.2.1
  unfold f_X11_number at hf
  refine lv_aload_n hx hb dX11_number_0 rfl (lv_at hl 0 rfl) ?_
  refine lv_bipush (v := 10) hx hb dX11_number_1 (by decide) ?_
  refine lv_iload_n hx hb dX11_number_3 rfl (lv_at hl 1 rfl) ?_
  refine lv_iconst (v := 0) hx hb dX11_number_4 (by decide) ?_
  obtain ⟨r1, σ1, h1, hf⟩ := pw_bi_some hf
  refine pw_ci hw (pw_runV (As := [.int (10 : Int32), .int x1, .int (0 : Int32)]) (rest := []) hC hw (c_X11_push  h1) mw_962 wm_X11_push ⟨Nat.zero_le _, Nat.zero_le _⟩ ⟨rfl, rfl, Nat.le_of_ble_eq_true rfl, Nat.le_of_ble_eq_true rfl⟩ (by decide) rfl rfl rfl hl.1 rfl (Nat.le_of_ble_eq_true rfl) dX11_number_5) (fun H locs hw => ?_)
  exact pw_iret hC hw hf dX11_number_8
-- PerhapsWasModel part
def b_X11_part__59 (x1 : Int32) (x2 : Int32) (x3 : Int32) (σ : pw_St) : Option (Int32 × pw_St) := (pw_bi (f_X11_push ((11 : Int32) + x1) x2 x3 σ) fun r1 σ1 => (some (r1, σ1)))
def b_X11_part__47 (x1 : Int32) (x2 : Int32) (x3 : Int32) (σ : pw_St) : Option (Int32 × pw_St) := (if x1 = (2 : Int32) then (if x3 = 0 then (b_X11_part__59  x1 x2 x3 σ) else (some ((-2 : Int32), σ))) else (b_X11_part__59  x1 x2 x3 σ))
def b_X11_part__29 (x1 : Int32) (x2 : Int32) (x3 : Int32) (y0 : Int32) (y1 : Int32) (y2 : Int32) (σ : pw_St) : Option (Int32 × pw_St) := (pw_bi (f_X11_in y2 y1 y0 σ) fun r1 σ1 => (if r1 = 0 then (some ((-1 : Int32), σ1)) else (if x1 = (1 : Int32) then (if x2 = x3 then (some ((-2 : Int32), σ1)) else (b_X11_part__47  x1 x2 x3 σ1)) else (b_X11_part__47  x1 x2 x3 σ1))))
def f_X11_part_ (x1 : Int32) (x2 : Int32) (x3 : Int32) (σ : pw_St) : Option (Int32 × pw_St) := (pw_bi (f_X11_in x1 (0 : Int32) (2 : Int32) σ) fun r1 σ1 => (if r1 = 0 then (some ((-1 : Int32), σ1)) else (pw_bi (f_X11_in x2 (0 : Int32) (3 : Int32) σ1) fun r2 σ2 => (if r2 = 0 then (some ((-1 : Int32), σ2)) else (if x1 = 0 then (b_X11_part__29  x1 x2 x3 (2 : Int32) (0 : Int32) x3 σ2) else (b_X11_part__29  x1 x2 x3 (3 : Int32) (0 : Int32) x3 σ2))))))
def rm_X11_part_ : Room := { frames := 1, cells := 0, slots := 0, locals := 24 }
set_option maxHeartbeats 4000000 in
set_option maxRecDepth 100000 in
theorem t_X11_part__59 (hC : pw_CX G RX11 cX11_part_ 4 (some .int) p s m args meth c) {r : Int32} {τ : pw_St} {x1 : Int32} {x2 : Int32} {x3 : Int32} {σ : pw_St} {H : Heap} {locs : List Loc} {ls : Array Slot} (hw : pw_WH G σ s.heap H locs) (hl : lv_has ls 4 [(0, .ref (pw_ad G 10)), (1, .int x1), (2, .int x2), (3, .int x3)]) (hf : b_X11_part__59 x1 x2 x3 σ = some (r, τ)) : W p l e rm_X11_part_ s m args below meth c H locs 0 0 (MQ below (pw_Qi G r τ) args s 0 0 (pw_gA G)) (F0 m 59 ls []) := by
  have hx := hC.1
  have hb := hC.2.1
  unfold b_X11_part__59 at hf
  refine lv_aload_n hx hb dX11_part__59 rfl (lv_at hl 0 rfl) ?_
  refine lv_bipush (v := 11) hx hb dX11_part__60 (by decide) ?_
  refine lv_iload_n hx hb dX11_part__62 rfl (lv_at hl 1 rfl) ?_
  refine lv_iadd hx hb dX11_part__63 ?_
  refine lv_iload_n hx hb dX11_part__64 rfl (lv_at hl 2 rfl) ?_
  refine lv_iload_n hx hb dX11_part__65 rfl (lv_at hl 3 rfl) ?_
  obtain ⟨r1, σ1, h1, hf⟩ := pw_bi_some hf
  refine pw_ci hw (pw_runV (As := [.int ((11 : Int32) + x1), .int x2, .int x3]) (rest := []) hC hw (c_X11_push  h1) mw_962 wm_X11_push ⟨Nat.zero_le _, Nat.zero_le _⟩ ⟨rfl, rfl, Nat.le_of_ble_eq_true rfl, Nat.le_of_ble_eq_true rfl⟩ (by decide) rfl rfl rfl hl.1 rfl (Nat.le_of_ble_eq_true rfl) dX11_part__66) (fun H locs hw => ?_)
  exact pw_iret hC hw hf dX11_part__69
set_option maxHeartbeats 4000000 in
set_option maxRecDepth 100000 in
theorem t_X11_part__47 (hC : pw_CX G RX11 cX11_part_ 4 (some .int) p s m args meth c) {r : Int32} {τ : pw_St} {x1 : Int32} {x2 : Int32} {x3 : Int32} {σ : pw_St} {H : Heap} {locs : List Loc} {ls : Array Slot} (hw : pw_WH G σ s.heap H locs) (hl : lv_has ls 4 [(0, .ref (pw_ad G 10)), (1, .int x1), (2, .int x2), (3, .int x3)]) (hf : b_X11_part__47 x1 x2 x3 σ = some (r, τ)) : W p l e rm_X11_part_ s m args below meth c H locs 0 0 (MQ below (pw_Qi G r τ) args s 0 0 (pw_gA G)) (F0 m 47 ls []) := by
  have hx := hC.1
  have hb := hC.2.1
  unfold b_X11_part__47 at hf
  refine lv_iload_n hx hb dX11_part__47 rfl (lv_at hl 1 rfl) ?_
  refine lv_iconst (v := 2) hx hb dX11_part__48 (by decide) ?_
  refine lv_icmp_ne (tgt := 59) hx hb dX11_part__49 (by decide) (fun hc => ?_) (fun hc => ?_)
  · replace hf := pw_ifn hc hf
    exact t_X11_part__59 hC   hw (lv_sub hl [0, 1, 2, 3] rfl) hf
  · replace hf := pw_ifp hc hf
    refine lv_iload_n hx hb dX11_part__52 rfl (lv_at hl 3 rfl) ?_
    refine lv_if_eq (tgt := 59) hx hb dX11_part__53 (by decide) (fun hc => ?_) (fun hc => ?_)
    · replace hf := pw_ifp hc hf
      exact t_X11_part__59 hC   hw (lv_sub hl [0, 1, 2, 3] rfl) hf
    · replace hf := pw_ifn hc hf
      refine lv_bipush (v := -2) hx hb dX11_part__56 (by decide) ?_
      exact pw_iret hC hw hf dX11_part__58
set_option maxHeartbeats 4000000 in
set_option maxRecDepth 100000 in
theorem t_X11_part__29 (hC : pw_CX G RX11 cX11_part_ 4 (some .int) p s m args meth c) {r : Int32} {τ : pw_St} {x1 : Int32} {x2 : Int32} {x3 : Int32} {y0 : Int32} {y1 : Int32} {y2 : Int32} {σ : pw_St} {H : Heap} {locs : List Loc} {ls : Array Slot} (hw : pw_WH G σ s.heap H locs) (hl : lv_has ls 4 [(0, .ref (pw_ad G 10)), (1, .int x1), (2, .int x2), (3, .int x3)]) (hf : b_X11_part__29 x1 x2 x3 y0 y1 y2 σ = some (r, τ)) : W p l e rm_X11_part_ s m args below meth c H locs 0 0 (MQ below (pw_Qi G r τ) args s 0 0 (pw_gA G)) (F0 m 29 ls [.int y0, .int y1, .int y2]) := by
  have hx := hC.1
  have hb := hC.2.1
  unfold b_X11_part__29 at hf
  obtain ⟨r1, σ1, h1, hf⟩ := pw_bi_some hf
  refine pw_ci hw (pw_runS (As := [.int y2, .int y1, .int y0]) (rest := []) hC hw (c_X11_in  h1) mw_846 wm_X11_in ⟨Nat.zero_le _, Nat.zero_le _⟩ ⟨rfl, rfl, Nat.le_of_ble_eq_true rfl, Nat.le_of_ble_eq_true rfl⟩ rfl hl.1 rfl (Nat.le_of_ble_eq_true rfl) dX11_part__29) (fun H locs hw => ?_)
  refine lv_if_ne (tgt := 37) hx hb dX11_part__32 (by decide) (fun hc => ?_) (fun hc => ?_)
  · replace hf := pw_ifn hc hf
    refine lv_iload_n hx hb dX11_part__37 rfl (lv_at hl 1 rfl) ?_
    refine lv_iconst (v := 1) hx hb dX11_part__38 (by decide) ?_
    refine lv_icmp_ne (tgt := 47) hx hb dX11_part__39 (by decide) (fun hc => ?_) (fun hc => ?_)
    · replace hf := pw_ifn hc hf
      exact t_X11_part__47 hC   hw (lv_sub hl [0, 1, 2, 3] rfl) hf
    · replace hf := pw_ifp hc hf
      refine lv_iload_n hx hb dX11_part__42 rfl (lv_at hl 2 rfl) ?_
      refine lv_iload_n hx hb dX11_part__43 rfl (lv_at hl 3 rfl) ?_
      refine lv_icmp_eq (tgt := 56) hx hb dX11_part__44 (by decide) (fun hc => ?_) (fun hc => ?_)
      · replace hf := pw_ifp hc hf
        refine lv_bipush (v := -2) hx hb dX11_part__56 (by decide) ?_
        exact pw_iret hC hw hf dX11_part__58
      · replace hf := pw_ifn hc hf
        exact t_X11_part__47 hC   hw (lv_sub hl [0, 1, 2, 3] rfl) hf
  · replace hf := pw_ifp hc hf
    refine lv_iconst (v := -1) hx hb dX11_part__35 (by decide) ?_
    exact pw_iret hC hw hf dX11_part__36
set_option maxHeartbeats 4000000 in
set_option maxRecDepth 100000 in
theorem c_X11_part_ {l : Launch} {G : pw_Gh} {x1 : Int32} {x2 : Int32} {x3 : Int32} {σ : pw_St} {r : Int32} {τ : pw_St} (hf : f_X11_part_ x1 x2 x3 σ = some (r, τ)) : Met l yX11_part_ (.code yX11_part_ cX11_part_ 4 (some .int) :: pw_BW) rm_X11_part_ (pw_Pc G [.ref (pw_ad G 10), .int x1, .int x2, .int x3] σ) (pw_Qi G r τ) 0 0 (pw_gA G) := by
  refine pw_met (by decide +kernel) (Nat.le_of_ble_eq_true rfl) ?_
  intro p e s m args below meth c ls hC hw hl
  replace hl : lv_has ls 4 [(0, .ref (pw_ad G 10)), (1, .int x1), (2, .int x2), (3, .int x3)] := hl
  have hx := hC.1
  have hb := hC.2.1
  unfold f_X11_part_ at hf
  refine lv_iload_n hx hb dX11_part__0 rfl (lv_at hl 1 rfl) ?_
  refine lv_iconst (v := 0) hx hb dX11_part__1 (by decide) ?_
  refine lv_iconst (v := 2) hx hb dX11_part__2 (by decide) ?_
  obtain ⟨r1, σ1, h1, hf⟩ := pw_bi_some hf
  refine pw_ci hw (pw_runS (As := [.int x1, .int (0 : Int32), .int (2 : Int32)]) (rest := []) hC hw (c_X11_in  h1) mw_846 wm_X11_in ⟨Nat.zero_le _, Nat.zero_le _⟩ ⟨rfl, rfl, Nat.le_of_ble_eq_true rfl, Nat.le_of_ble_eq_true rfl⟩ rfl hl.1 rfl (Nat.le_of_ble_eq_true rfl) dX11_part__3) (fun H locs hw => ?_)
  refine lv_if_eq (tgt := 35) hx hb dX11_part__6 (by decide) (fun hc => ?_) (fun hc => ?_)
  · replace hf := pw_ifp hc hf
    refine lv_iconst (v := -1) hx hb dX11_part__35 (by decide) ?_
    exact pw_iret hC hw hf dX11_part__36
  · replace hf := pw_ifn hc hf
    refine lv_iload_n hx hb dX11_part__9 rfl (lv_at hl 2 rfl) ?_
    refine lv_iconst (v := 0) hx hb dX11_part__10 (by decide) ?_
    refine lv_iconst (v := 3) hx hb dX11_part__11 (by decide) ?_
    obtain ⟨r2, σ2, h2, hf⟩ := pw_bi_some hf
    refine pw_ci hw (pw_runS (As := [.int x2, .int (0 : Int32), .int (3 : Int32)]) (rest := []) hC hw (c_X11_in  h2) mw_846 wm_X11_in ⟨Nat.zero_le _, Nat.zero_le _⟩ ⟨rfl, rfl, Nat.le_of_ble_eq_true rfl, Nat.le_of_ble_eq_true rfl⟩ rfl hl.1 rfl (Nat.le_of_ble_eq_true rfl) dX11_part__12) (fun H locs hw => ?_)
    refine lv_if_eq (tgt := 35) hx hb dX11_part__15 (by decide) (fun hc => ?_) (fun hc => ?_)
    · replace hf := pw_ifp hc hf
      refine lv_iconst (v := -1) hx hb dX11_part__35 (by decide) ?_
      exact pw_iret hC hw hf dX11_part__36
    · replace hf := pw_ifn hc hf
      refine lv_iload_n hx hb dX11_part__18 rfl (lv_at hl 3 rfl) ?_
      refine lv_iconst (v := 0) hx hb dX11_part__19 (by decide) ?_
      refine lv_iload_n hx hb dX11_part__20 rfl (lv_at hl 1 rfl) ?_
      refine lv_if_ne (tgt := 28) hx hb dX11_part__21 (by decide) (fun hc => ?_) (fun hc => ?_)
      · replace hf := pw_ifn hc hf
        refine lv_iconst (v := 3) hx hb dX11_part__28 (by decide) ?_
        exact t_X11_part__29 hC   hw (lv_sub hl [0, 1, 2, 3] rfl) hf
      · replace hf := pw_ifp hc hf
        refine lv_iconst (v := 2) hx hb dX11_part__24 (by decide) ?_
        refine lv_goto (tgt := 29) hx hb dX11_part__25 (by decide) ?_
        exact t_X11_part__29 hC   hw (lv_sub hl [0, 1, 2, 3] rfl) hf
-- PerhapsWasModel copy
def b_X11_copy_2 (k2 : Int32 → Int32 → Int32 → pw_St → Option pw_St) (x1 : Int32) (x2 : Int32) (x3 : Int32) (σ : pw_St) : Option pw_St := (if pw_in x1 16 = true then (if (σ.1 49 x1.toNatClampNeg) ≤ x3 then (some σ) else (if pw_in x2 16 = true then (if pw_in (((15 : Int32) * x1) + x3) 240 = true then (if pw_in (((15 : Int32) * x2) + (σ.1 49 x2.toNatClampNeg)) 240 = true then (pw_lt (pw_sM σ 46 (((15 : Int32) * x2) + (σ.1 49 x2.toNatClampNeg)).toNatClampNeg (σ.1 46 (((15 : Int32) * x1) + x3).toNatClampNeg)) fun σ1 => (if pw_in (((15 : Int32) * x1) + x3) 240 = true then (if pw_in (((15 : Int32) * x2) + (σ.1 49 x2.toNatClampNeg)) 240 = true then (pw_lt (pw_sM σ1 47 (((15 : Int32) * x2) + (σ.1 49 x2.toNatClampNeg)).toNatClampNeg (σ1.1 47 (((15 : Int32) * x1) + x3).toNatClampNeg)) fun σ2 => (if pw_in (((15 : Int32) * x1) + x3) 240 = true then (if pw_in (((15 : Int32) * x2) + (σ.1 49 x2.toNatClampNeg)) 240 = true then (pw_lt (pw_sM σ2 48 (((15 : Int32) * x2) + (σ.1 49 x2.toNatClampNeg)).toNatClampNeg (σ2.1 48 (((15 : Int32) * x1) + x3).toNatClampNeg)) fun σ3 => (if pw_in x2 16 = true then (if pw_in x2 16 = true then (pw_lt (pw_sM σ3 49 x2.toNatClampNeg ((σ3.1 49 x2.toNatClampNeg) + (1 : Int32))) fun σ4 => (k2 x1 x2 (x3 + (1 : Int32)) σ4)) else none) else none)) else none) else none)) else none) else none)) else none) else none) else none)) else none)
def l_X11_copy_2 : Nat → Int32 → Int32 → Int32 → pw_St → Option pw_St
  | 0 => fun _ _ _ _ => none
  | n + 1 => fun x1 x2 x3 σ => b_X11_copy_2  (l_X11_copy_2  n) x1 x2 x3 σ
def f_X11_copy (x1 : Int32) (x2 : Int32) (σ : pw_St) : Option pw_St := (l_X11_copy_2  pw_FU x1 x2 (0 : Int32) σ)
def rm_X11_copy : Room := { frames := 0, cells := 0, slots := 0, locals := 0 }
set_option maxHeartbeats 4000000 in
set_option maxRecDepth 100000 in
theorem t_X11_copy_2 (hC : pw_CX G RX11 cX11_copy 5 none p s m args meth c) {k2 : Int32 → Int32 → Int32 → pw_St → Option pw_St} {τ : pw_St} (hk2 : ∀ (x1 : Int32), ∀ (x2 : Int32), ∀ (x3 : Int32), ∀ (σ : pw_St) (H : Heap) (locs : List Loc) (ls : Array Slot), pw_WH G σ s.heap H locs → lv_has ls 5 [(0, .ref (pw_ad G 10)), (1, .int x1), (2, .int x2), (3, .int x3)] → k2 x1 x2 x3 σ = some τ → W p l e rm_X11_copy s m args below meth c H locs 0 0 (MQ below (pw_Qv G τ) args s 0 0 (pw_gA G)) (F0 m 2 ls [])) {x1 : Int32} {x2 : Int32} {x3 : Int32} {σ : pw_St} {H : Heap} {locs : List Loc} {ls : Array Slot} (hw : pw_WH G σ s.heap H locs) (hl : lv_has ls 5 [(0, .ref (pw_ad G 10)), (1, .int x1), (2, .int x2), (3, .int x3)]) (hf : b_X11_copy_2 k2 x1 x2 x3 σ = some τ) : W p l e rm_X11_copy s m args below meth c H locs 0 0 (MQ below (pw_Qv G τ) args s 0 0 (pw_gA G)) (F0 m 2 ls []) := by
  have hx := hC.1
  have hb := hC.2.1
  unfold b_X11_copy_2 at hf
  refine lv_iload_n hx hb dX11_copy_2 rfl (lv_at hl 3 rfl) ?_
  refine lv_aload_n hx hb dX11_copy_3 rfl (lv_at hl 0 rfl) ?_
  refine pg_10_19 hC hw mw_768 dX11_copy_4 ?_
  refine lv_iload_n hx hb dX11_copy_7 rfl (lv_at hl 1 rfl) ?_
  obtain ⟨hin, hf⟩ := pw_gd hf
  refine pw_ild hC hw ca_49 hin dX11_copy_8 ?_
  refine lv_icmp_ge (tgt := 95) hx hb dX11_copy_9 (by decide) (fun hc => ?_) (fun hc => ?_)
  · replace hf := pw_ifp hc hf
    exact pw_vret hC hw hf dX11_copy_95
  · replace hf := pw_ifn hc hf
    refine lv_bipush (v := 15) hx hb dX11_copy_12 (by decide) ?_
    refine lv_iload_n hx hb dX11_copy_14 rfl (lv_at hl 2 rfl) ?_
    refine lv_imul hx hb dX11_copy_15 ?_
    refine lv_aload_n hx hb dX11_copy_16 rfl (lv_at hl 0 rfl) ?_
    refine pg_10_19 hC hw mw_768 dX11_copy_17 ?_
    refine lv_iload_n hx hb dX11_copy_20 rfl (lv_at hl 2 rfl) ?_
    obtain ⟨hin, hf⟩ := pw_gd hf
    refine pw_ild hC hw ca_49 hin dX11_copy_21 ?_
    refine lv_iadd hx hb dX11_copy_22 ?_
    refine lv_istore (lv' := [(4, .int (((15 : Int32) * x2) + (σ.1 49 x2.toNatClampNeg))), (0, .ref (pw_ad G 10)), (1, .int x1), (2, .int x2), (3, .int x3)]) hx hb dX11_copy_23 hl (by decide) rfl (fun ls hl => ?_)
    refine lv_aload_n hx hb dX11_copy_25 rfl (lv_at hl 1 rfl) ?_
    refine pg_10_16 hC hw mw_765 dX11_copy_26 ?_
    refine lv_iload hx hb dX11_copy_29 (lv_at hl 0 rfl) ?_
    refine lv_aload_n hx hb dX11_copy_31 rfl (lv_at hl 1 rfl) ?_
    refine pg_10_16 hC hw mw_765 dX11_copy_32 ?_
    refine lv_bipush (v := 15) hx hb dX11_copy_35 (by decide) ?_
    refine lv_iload_n hx hb dX11_copy_37 rfl (lv_at hl 2 rfl) ?_
    refine lv_imul hx hb dX11_copy_38 ?_
    refine lv_iload_n hx hb dX11_copy_39 rfl (lv_at hl 4 rfl) ?_
    refine lv_iadd hx hb dX11_copy_40 ?_
    obtain ⟨hin, hf⟩ := pw_gd hf
    refine pw_ild hC hw ca_46 hin dX11_copy_41 ?_
    obtain ⟨hin, hf⟩ := pw_gd hf
    refine pw_ist hC hw ca_46 hin dX11_copy_42 (fun H locs hw => ?_)
    obtain ⟨σ1, e1, hf⟩ := pw_lts hf
    replace hw := pw_WHe e1 hw
    refine lv_aload_n hx hb dX11_copy_43 rfl (lv_at hl 1 rfl) ?_
    refine pg_10_17 hC hw mw_766 dX11_copy_44 ?_
    refine lv_iload hx hb dX11_copy_47 (lv_at hl 0 rfl) ?_
    refine lv_aload_n hx hb dX11_copy_49 rfl (lv_at hl 1 rfl) ?_
    refine pg_10_17 hC hw mw_766 dX11_copy_50 ?_
    refine lv_bipush (v := 15) hx hb dX11_copy_53 (by decide) ?_
    refine lv_iload_n hx hb dX11_copy_55 rfl (lv_at hl 2 rfl) ?_
    refine lv_imul hx hb dX11_copy_56 ?_
    refine lv_iload_n hx hb dX11_copy_57 rfl (lv_at hl 4 rfl) ?_
    refine lv_iadd hx hb dX11_copy_58 ?_
    obtain ⟨hin, hf⟩ := pw_gd hf
    refine pw_ild hC hw ca_47 hin dX11_copy_59 ?_
    obtain ⟨hin, hf⟩ := pw_gd hf
    refine pw_ist hC hw ca_47 hin dX11_copy_60 (fun H locs hw => ?_)
    obtain ⟨σ2, e2, hf⟩ := pw_lts hf
    replace hw := pw_WHe e2 hw
    refine lv_aload_n hx hb dX11_copy_61 rfl (lv_at hl 1 rfl) ?_
    refine pg_10_18 hC hw mw_767 dX11_copy_62 ?_
    refine lv_iload hx hb dX11_copy_65 (lv_at hl 0 rfl) ?_
    refine lv_aload_n hx hb dX11_copy_67 rfl (lv_at hl 1 rfl) ?_
    refine pg_10_18 hC hw mw_767 dX11_copy_68 ?_
    refine lv_bipush (v := 15) hx hb dX11_copy_71 (by decide) ?_
    refine lv_iload_n hx hb dX11_copy_73 rfl (lv_at hl 2 rfl) ?_
    refine lv_imul hx hb dX11_copy_74 ?_
    refine lv_iload_n hx hb dX11_copy_75 rfl (lv_at hl 4 rfl) ?_
    refine lv_iadd hx hb dX11_copy_76 ?_
    obtain ⟨hin, hf⟩ := pw_gd hf
    refine pw_ild hC hw ca_48 hin dX11_copy_77 ?_
    obtain ⟨hin, hf⟩ := pw_gd hf
    refine pw_ist hC hw ca_48 hin dX11_copy_78 (fun H locs hw => ?_)
    obtain ⟨σ3, e3, hf⟩ := pw_lts hf
    replace hw := pw_WHe e3 hw
    refine lv_aload_n hx hb dX11_copy_79 rfl (lv_at hl 1 rfl) ?_
    refine pg_10_19 hC hw mw_768 dX11_copy_80 ?_
    refine lv_iload_n hx hb dX11_copy_83 rfl (lv_at hl 3 rfl) ?_
    refine lv_dup2_11 hx hb dX11_copy_84 rfl rfl ?_
    obtain ⟨hin, hf⟩ := pw_gd hf
    refine pw_ild hC hw ca_49 hin dX11_copy_85 ?_
    refine lv_iconst (v := 1) hx hb dX11_copy_86 (by decide) ?_
    refine lv_iadd hx hb dX11_copy_87 ?_
    obtain ⟨hin, hf⟩ := pw_gd hf
    refine pw_ist hC hw ca_49 hin dX11_copy_88 (fun H locs hw => ?_)
    obtain ⟨σ4, e4, hf⟩ := pw_lts hf
    replace hw := pw_WHe e4 hw
    refine lv_iinc (v := (x3 + (1 : Int32))) (lv' := [(3, .int (x3 + (1 : Int32))), (4, .int (((15 : Int32) * x2) + (σ.1 49 x2.toNatClampNeg))), (0, .ref (pw_ad G 10)), (1, .int x1), (2, .int x2)]) hx hb dX11_copy_89 hl (k := 4) rfl rfl (by decide) rfl (fun ls hl => ?_)
    refine lv_goto (tgt := 2) hx hb dX11_copy_92 (by decide) ?_
    exact hk2 _ _ _ _ _ _ _ hw (lv_sub hl [2, 3, 4, 0] rfl) hf
set_option maxHeartbeats 4000000 in
theorem tl_X11_copy_2 (hC : pw_CX G RX11 cX11_copy 5 none p s m args meth c) {τ : pw_St} : ∀ (n : Nat) (x1 : Int32) (x2 : Int32) (x3 : Int32) (σ : pw_St) (H : Heap) (locs : List Loc) (ls : Array Slot), pw_WH G σ s.heap H locs → lv_has ls 5 [(0, .ref (pw_ad G 10)), (1, .int x1), (2, .int x2), (3, .int x3)] → l_X11_copy_2  n x1 x2 x3 σ = some τ → W p l e rm_X11_copy s m args below meth c H locs 0 0 (MQ below (pw_Qv G τ) args s 0 0 (pw_gA G)) (F0 m 2 ls []) := by
  intro n
  induction n with
  | zero => intro x1 x2 x3 σ H locs ls hw hl hf; cases hf
  | succ n ih => intro x1 x2 x3 σ H locs ls hw hl hf; exact t_X11_copy_2 hC ih  hw hl hf
set_option maxHeartbeats 4000000 in
set_option maxRecDepth 100000 in
theorem c_X11_copy {l : Launch} {G : pw_Gh} {x1 : Int32} {x2 : Int32} {σ : pw_St} {τ : pw_St} (hf : f_X11_copy x1 x2 σ = some τ) : Met l yX11_copy (.code yX11_copy cX11_copy 5 none :: pw_BW) rm_X11_copy (pw_Pc G [.ref (pw_ad G 10), .int x1, .int x2] σ) (pw_Qv G τ) 0 0 (pw_gA G) := by
  refine pw_met (by decide +kernel) (Nat.le_of_ble_eq_true rfl) ?_
  intro p e s m args below meth c ls hC hw hl
  replace hl : lv_has ls 5 [(0, .ref (pw_ad G 10)), (1, .int x1), (2, .int x2)] := hl
  have hx := hC.1
  have hb := hC.2.1
  unfold f_X11_copy at hf
  refine lv_iconst (v := 0) hx hb dX11_copy_0 (by decide) ?_
  refine lv_istore_n (lv' := [(3, .int (0 : Int32)), (0, .ref (pw_ad G 10)), (1, .int x1), (2, .int x2)]) hx hb dX11_copy_1 rfl hl (by decide) rfl (fun ls hl => ?_)
  exact tl_X11_copy_2 hC  pw_FU _ _ _ _ _ _ _ hw (lv_sub hl [1, 2, 3, 0] rfl) hf
-- PerhapsWasModel op
def b_X11_op_105 (x1 : Int32) (x2 : Int32) (x4 : Int32) (σ : pw_St) : Option (Int32 × pw_St) := (if pw_in x4 16 = true then (if pw_in (((15 : Int32) * x4) + (σ.1 49 x4.toNatClampNeg)) 240 = true then (pw_lt (pw_sM σ 46 (((15 : Int32) * x4) + (σ.1 49 x4.toNatClampNeg)).toNatClampNeg x1) fun σ1 => (if pw_in x4 16 = true then (if pw_in x4 16 = true then (pw_lt (pw_sM σ1 49 x4.toNatClampNeg ((σ1.1 49 x4.toNatClampNeg) + (1 : Int32))) fun σ2 => (pw_lt (pw_sM σ2 10 21 ((σ2.1 10 21) - (x2 - (1 : Int32)))) fun σ3 => (some ((σ3.1 10 21), σ3)))) else none) else none)) else none) else none)
def b_X11_op_83 (x1 : Int32) (x2 : Int32) (x3 : Int32) (x4 : Int32) (x5 : Int32) (σ : pw_St) : Option (Int32 × pw_St) := (if x5 ≤ (15 : Int32) then (if x2 = (2 : Int32) then (pw_bv (f_X11_copy x3 x4 σ) fun σ1 => (b_X11_op_105  x1 x2 x4 σ1)) else (b_X11_op_105  x1 x2 x4 σ)) else (some ((-4 : Int32), σ)))
def b_X11_op_59 (k59 : Int32 → Int32 → Int32 → Int32 → Int32 → Int32 → pw_St → Option (Int32 × pw_St)) (x1 : Int32) (x2 : Int32) (x3 : Int32) (x4 : Int32) (x5 : Int32) (x6 : Int32) (σ : pw_St) : Option (Int32 × pw_St) := (if x3 < x6 then (b_X11_op_83  x1 x2 x3 x4 x5 σ) else (if pw_in x6 16 = true then (k59 x1 x2 x3 x4 (x5 + (σ.1 49 x6.toNatClampNeg)) (x6 + (1 : Int32)) σ) else none))
def l_X11_op_59 : Nat → Int32 → Int32 → Int32 → Int32 → Int32 → Int32 → pw_St → Option (Int32 × pw_St)
  | 0 => fun _ _ _ _ _ _ _ => none
  | n + 1 => fun x1 x2 x3 x4 x5 x6 σ => b_X11_op_59  (l_X11_op_59  n) x1 x2 x3 x4 x5 x6 σ
def b_X11_op_23 (x1 : Int32) (y0 : Int32) (σ : pw_St) : Option (Int32 × pw_St) := (if y0 ≤ (σ.1 10 21) then (l_X11_op_59  pw_FU x1 y0 (((8 : Int32) + (σ.1 10 21)) - (1 : Int32)) (((((8 : Int32) + (σ.1 10 21)) - (1 : Int32)) - y0) + (1 : Int32)) (1 : Int32) (((((8 : Int32) + (σ.1 10 21)) - (1 : Int32)) - y0) + (1 : Int32)) σ) else (some ((-3 : Int32), σ)))
def f_X11_op (x1 : Int32) (σ : pw_St) : Option (Int32 × pw_St) := (pw_bi (f_X11_in x1 (0 : Int32) (7 : Int32) σ) fun r1 σ1 => (if r1 = 0 then (some ((-1 : Int32), σ1)) else (if x1 = (7 : Int32) then (b_X11_op_23  x1 (1 : Int32) σ1) else (b_X11_op_23  x1 (2 : Int32) σ1))))
def rm_X11_op : Room := { frames := 1, cells := 0, slots := 0, locals := 24 }
set_option maxHeartbeats 4000000 in
set_option maxRecDepth 100000 in
theorem t_X11_op_105 (hC : pw_CX G RX11 cX11_op 7 (some .int) p s m args meth c) {r : Int32} {τ : pw_St} {x1 : Int32} {x2 : Int32} {x4 : Int32} {σ : pw_St} {H : Heap} {locs : List Loc} {ls : Array Slot} (hw : pw_WH G σ s.heap H locs) (hl : lv_has ls 7 [(0, .ref (pw_ad G 10)), (1, .int x1), (2, .int x2), (4, .int x4)]) (hf : b_X11_op_105 x1 x2 x4 σ = some (r, τ)) : W p l e rm_X11_op s m args below meth c H locs 0 0 (MQ below (pw_Qi G r τ) args s 0 0 (pw_gA G)) (F0 m 105 ls []) := by
  have hx := hC.1
  have hb := hC.2.1
  unfold b_X11_op_105 at hf
  refine lv_bipush (v := 15) hx hb dX11_op_105 (by decide) ?_
  refine lv_iload hx hb dX11_op_107 (lv_at hl 3 rfl) ?_
  refine lv_imul hx hb dX11_op_109 ?_
  refine lv_aload_n hx hb dX11_op_110 rfl (lv_at hl 0 rfl) ?_
  refine pg_10_19 hC hw mw_768 dX11_op_111 ?_
  refine lv_iload hx hb dX11_op_114 (lv_at hl 3 rfl) ?_
  obtain ⟨hin, hf⟩ := pw_gd hf
  refine pw_ild hC hw ca_49 hin dX11_op_116 ?_
  refine lv_iadd hx hb dX11_op_117 ?_
  refine lv_istore (lv' := [(6, .int (((15 : Int32) * x4) + (σ.1 49 x4.toNatClampNeg))), (0, .ref (pw_ad G 10)), (1, .int x1), (2, .int x2), (4, .int x4)]) hx hb dX11_op_118 hl (by decide) rfl (fun ls hl => ?_)
  refine lv_aload_n hx hb dX11_op_120 rfl (lv_at hl 1 rfl) ?_
  refine pg_10_16 hC hw mw_765 dX11_op_121 ?_
  refine lv_iload hx hb dX11_op_124 (lv_at hl 0 rfl) ?_
  refine lv_iload_n hx hb dX11_op_126 rfl (lv_at hl 2 rfl) ?_
  obtain ⟨hin, hf⟩ := pw_gd hf
  refine pw_ist hC hw ca_46 hin dX11_op_127 (fun H locs hw => ?_)
  obtain ⟨σ1, e1, hf⟩ := pw_lts hf
  replace hw := pw_WHe e1 hw
  refine lv_aload_n hx hb dX11_op_128 rfl (lv_at hl 1 rfl) ?_
  refine pg_10_19 hC hw mw_768 dX11_op_129 ?_
  refine lv_iload hx hb dX11_op_132 (lv_at hl 4 rfl) ?_
  refine lv_dup2_11 hx hb dX11_op_134 rfl rfl ?_
  obtain ⟨hin, hf⟩ := pw_gd hf
  refine pw_ild hC hw ca_49 hin dX11_op_135 ?_
  refine lv_iconst (v := 1) hx hb dX11_op_136 (by decide) ?_
  refine lv_iadd hx hb dX11_op_137 ?_
  obtain ⟨hin, hf⟩ := pw_gd hf
  refine pw_ist hC hw ca_49 hin dX11_op_138 (fun H locs hw => ?_)
  obtain ⟨σ2, e2, hf⟩ := pw_lts hf
  replace hw := pw_WHe e2 hw
  refine lv_aload_n hx hb dX11_op_139 rfl (lv_at hl 1 rfl) ?_
  refine lv_dup hx hb dX11_op_140 rfl ?_
  refine pg_10_21 hC hw mw_770 dX11_op_141 ?_
  refine lv_iload_n hx hb dX11_op_144 rfl (lv_at hl 3 rfl) ?_
  refine lv_iconst (v := 1) hx hb dX11_op_145 (by decide) ?_
  refine lv_isub hx hb dX11_op_146 ?_
  refine lv_isub hx hb dX11_op_147 ?_
  refine pp_10_21 hC hw mw_770 dX11_op_148 (fun H locs hw => ?_)
  obtain ⟨σ3, e3, hf⟩ := pw_lts hf
  replace hw := pw_WHe e3 hw
  refine lv_aload_n hx hb dX11_op_151 rfl (lv_at hl 1 rfl) ?_
  refine pg_10_21 hC hw mw_770 dX11_op_152 ?_
  exact pw_iret hC hw hf dX11_op_155
set_option maxHeartbeats 4000000 in
set_option maxRecDepth 100000 in
theorem t_X11_op_83 (hC : pw_CX G RX11 cX11_op 7 (some .int) p s m args meth c) {r : Int32} {τ : pw_St} {x1 : Int32} {x2 : Int32} {x3 : Int32} {x4 : Int32} {x5 : Int32} {σ : pw_St} {H : Heap} {locs : List Loc} {ls : Array Slot} (hw : pw_WH G σ s.heap H locs) (hl : lv_has ls 7 [(0, .ref (pw_ad G 10)), (1, .int x1), (2, .int x2), (3, .int x3), (4, .int x4), (5, .int x5)]) (hf : b_X11_op_83 x1 x2 x3 x4 x5 σ = some (r, τ)) : W p l e rm_X11_op s m args below meth c H locs 0 0 (MQ below (pw_Qi G r τ) args s 0 0 (pw_gA G)) (F0 m 83 ls []) := by
  have hx := hC.1
  have hb := hC.2.1
  unfold b_X11_op_83 at hf
  refine lv_iload hx hb dX11_op_83 (lv_at hl 5 rfl) ?_
  refine lv_bipush (v := 15) hx hb dX11_op_85 (by decide) ?_
  refine lv_icmp_le (tgt := 93) hx hb dX11_op_87 (by decide) (fun hc => ?_) (fun hc => ?_)
  · replace hf := pw_ifp hc hf
    refine lv_iload_n hx hb dX11_op_93 rfl (lv_at hl 2 rfl) ?_
    refine lv_iconst (v := 2) hx hb dX11_op_94 (by decide) ?_
    refine lv_icmp_ne (tgt := 105) hx hb dX11_op_95 (by decide) (fun hc => ?_) (fun hc => ?_)
    · replace hf := pw_ifn hc hf
      exact t_X11_op_105 hC   hw (lv_sub hl [0, 1, 2, 4] rfl) hf
    · replace hf := pw_ifp hc hf
      refine lv_aload_n hx hb dX11_op_98 rfl (lv_at hl 0 rfl) ?_
      refine lv_iload_n hx hb dX11_op_99 rfl (lv_at hl 3 rfl) ?_
      refine lv_iload hx hb dX11_op_100 (lv_at hl 4 rfl) ?_
      obtain ⟨σ1, h1, hf⟩ := pw_bv_some hf
      refine pw_cv hw (pw_runV (As := [.int x3, .int x4]) (rest := []) hC hw (c_X11_copy  h1) mw_974 wm_X11_copy ⟨Nat.zero_le _, Nat.zero_le _⟩ ⟨rfl, rfl, Nat.le_of_ble_eq_true rfl, Nat.le_of_ble_eq_true rfl⟩ (by decide) rfl rfl rfl hl.1 rfl (Nat.le_of_ble_eq_true rfl) dX11_op_102) (fun H locs hw => ?_)
      exact t_X11_op_105 hC   hw (lv_sub hl [0, 1, 2, 4] rfl) hf
  · replace hf := pw_ifn hc hf
    refine lv_bipush (v := -4) hx hb dX11_op_90 (by decide) ?_
    exact pw_iret hC hw hf dX11_op_92
set_option maxHeartbeats 4000000 in
set_option maxRecDepth 100000 in
theorem t_X11_op_59 (hC : pw_CX G RX11 cX11_op 7 (some .int) p s m args meth c) {k59 : Int32 → Int32 → Int32 → Int32 → Int32 → Int32 → pw_St → Option (Int32 × pw_St)} {r : Int32} {τ : pw_St} (hk59 : ∀ (x1 : Int32), ∀ (x2 : Int32), ∀ (x3 : Int32), ∀ (x4 : Int32), ∀ (x5 : Int32), ∀ (x6 : Int32), ∀ (σ : pw_St) (H : Heap) (locs : List Loc) (ls : Array Slot), pw_WH G σ s.heap H locs → lv_has ls 7 [(0, .ref (pw_ad G 10)), (1, .int x1), (2, .int x2), (3, .int x3), (4, .int x4), (5, .int x5), (6, .int x6)] → k59 x1 x2 x3 x4 x5 x6 σ = some (r, τ) → W p l e rm_X11_op s m args below meth c H locs 0 0 (MQ below (pw_Qi G r τ) args s 0 0 (pw_gA G)) (F0 m 59 ls [])) {x1 : Int32} {x2 : Int32} {x3 : Int32} {x4 : Int32} {x5 : Int32} {x6 : Int32} {σ : pw_St} {H : Heap} {locs : List Loc} {ls : Array Slot} (hw : pw_WH G σ s.heap H locs) (hl : lv_has ls 7 [(0, .ref (pw_ad G 10)), (1, .int x1), (2, .int x2), (3, .int x3), (4, .int x4), (5, .int x5), (6, .int x6)]) (hf : b_X11_op_59 k59 x1 x2 x3 x4 x5 x6 σ = some (r, τ)) : W p l e rm_X11_op s m args below meth c H locs 0 0 (MQ below (pw_Qi G r τ) args s 0 0 (pw_gA G)) (F0 m 59 ls []) := by
  have hx := hC.1
  have hb := hC.2.1
  unfold b_X11_op_59 at hf
  refine lv_iload hx hb dX11_op_59 (lv_at hl 6 rfl) ?_
  refine lv_iload_n hx hb dX11_op_61 rfl (lv_at hl 3 rfl) ?_
  refine lv_icmp_gt (tgt := 83) hx hb dX11_op_62 (by decide) (fun hc => ?_) (fun hc => ?_)
  · replace hf := pw_ifp hc hf
    exact t_X11_op_83 hC   hw (lv_sub hl [0, 1, 2, 3, 4, 5] rfl) hf
  · replace hf := pw_ifn hc hf
    refine lv_iload hx hb dX11_op_65 (lv_at hl 5 rfl) ?_
    refine lv_aload_n hx hb dX11_op_67 rfl (lv_at hl 0 rfl) ?_
    refine pg_10_19 hC hw mw_768 dX11_op_68 ?_
    refine lv_iload hx hb dX11_op_71 (lv_at hl 6 rfl) ?_
    obtain ⟨hin, hf⟩ := pw_gd hf
    refine pw_ild hC hw ca_49 hin dX11_op_73 ?_
    refine lv_iadd hx hb dX11_op_74 ?_
    refine lv_istore (lv' := [(5, .int (x5 + (σ.1 49 x6.toNatClampNeg))), (0, .ref (pw_ad G 10)), (1, .int x1), (2, .int x2), (3, .int x3), (4, .int x4), (6, .int x6)]) hx hb dX11_op_75 hl (by decide) rfl (fun ls hl => ?_)
    refine lv_iinc (v := (x6 + (1 : Int32))) (lv' := [(6, .int (x6 + (1 : Int32))), (5, .int (x5 + (σ.1 49 x6.toNatClampNeg))), (0, .ref (pw_ad G 10)), (1, .int x1), (2, .int x2), (3, .int x3), (4, .int x4)]) hx hb dX11_op_77 hl (k := 6) rfl rfl (by decide) rfl (fun ls hl => ?_)
    refine lv_goto (tgt := 59) hx hb dX11_op_80 (by decide) ?_
    exact hk59 _ _ _ _ _ _ _ _ _ _ hw (lv_sub hl [2, 3, 4, 5, 6, 1, 0] rfl) hf
set_option maxHeartbeats 4000000 in
theorem tl_X11_op_59 (hC : pw_CX G RX11 cX11_op 7 (some .int) p s m args meth c) {r : Int32} {τ : pw_St} : ∀ (n : Nat) (x1 : Int32) (x2 : Int32) (x3 : Int32) (x4 : Int32) (x5 : Int32) (x6 : Int32) (σ : pw_St) (H : Heap) (locs : List Loc) (ls : Array Slot), pw_WH G σ s.heap H locs → lv_has ls 7 [(0, .ref (pw_ad G 10)), (1, .int x1), (2, .int x2), (3, .int x3), (4, .int x4), (5, .int x5), (6, .int x6)] → l_X11_op_59  n x1 x2 x3 x4 x5 x6 σ = some (r, τ) → W p l e rm_X11_op s m args below meth c H locs 0 0 (MQ below (pw_Qi G r τ) args s 0 0 (pw_gA G)) (F0 m 59 ls []) := by
  intro n
  induction n with
  | zero => intro x1 x2 x3 x4 x5 x6 σ H locs ls hw hl hf; cases hf
  | succ n ih => intro x1 x2 x3 x4 x5 x6 σ H locs ls hw hl hf; exact t_X11_op_59 hC ih  hw hl hf
set_option maxHeartbeats 4000000 in
set_option maxRecDepth 100000 in
theorem t_X11_op_23 (hC : pw_CX G RX11 cX11_op 7 (some .int) p s m args meth c) {r : Int32} {τ : pw_St} {x1 : Int32} {y0 : Int32} {σ : pw_St} {H : Heap} {locs : List Loc} {ls : Array Slot} (hw : pw_WH G σ s.heap H locs) (hl : lv_has ls 7 [(0, .ref (pw_ad G 10)), (1, .int x1)]) (hf : b_X11_op_23 x1 y0 σ = some (r, τ)) : W p l e rm_X11_op s m args below meth c H locs 0 0 (MQ below (pw_Qi G r τ) args s 0 0 (pw_gA G)) (F0 m 23 ls [.int y0]) := by
  have hx := hC.1
  have hb := hC.2.1
  unfold b_X11_op_23 at hf
  refine lv_istore_n (lv' := [(2, .int y0), (0, .ref (pw_ad G 10)), (1, .int x1)]) hx hb dX11_op_23 rfl hl (by decide) rfl (fun ls hl => ?_)
  refine lv_aload_n hx hb dX11_op_24 rfl (lv_at hl 1 rfl) ?_
  refine pg_10_21 hC hw mw_770 dX11_op_25 ?_
  refine lv_iload_n hx hb dX11_op_28 rfl (lv_at hl 0 rfl) ?_
  refine lv_icmp_ge (tgt := 35) hx hb dX11_op_29 (by decide) (fun hc => ?_) (fun hc => ?_)
  · replace hf := pw_ifp hc hf
    refine lv_bipush (v := 8) hx hb dX11_op_35 (by decide) ?_
    refine lv_aload_n hx hb dX11_op_37 rfl (lv_at hl 1 rfl) ?_
    refine pg_10_21 hC hw mw_770 dX11_op_38 ?_
    refine lv_iadd hx hb dX11_op_41 ?_
    refine lv_iconst (v := 1) hx hb dX11_op_42 (by decide) ?_
    refine lv_isub hx hb dX11_op_43 ?_
    refine lv_istore_n (lv' := [(3, .int (((8 : Int32) + (σ.1 10 21)) - (1 : Int32))), (2, .int y0), (0, .ref (pw_ad G 10)), (1, .int x1)]) hx hb dX11_op_44 rfl hl (by decide) rfl (fun ls hl => ?_)
    refine lv_iload_n hx hb dX11_op_45 rfl (lv_at hl 0 rfl) ?_
    refine lv_iload_n hx hb dX11_op_46 rfl (lv_at hl 1 rfl) ?_
    refine lv_isub hx hb dX11_op_47 ?_
    refine lv_iconst (v := 1) hx hb dX11_op_48 (by decide) ?_
    refine lv_iadd hx hb dX11_op_49 ?_
    refine lv_istore (lv' := [(4, .int (((((8 : Int32) + (σ.1 10 21)) - (1 : Int32)) - y0) + (1 : Int32))), (3, .int (((8 : Int32) + (σ.1 10 21)) - (1 : Int32))), (2, .int y0), (0, .ref (pw_ad G 10)), (1, .int x1)]) hx hb dX11_op_50 hl (by decide) rfl (fun ls hl => ?_)
    refine lv_iconst (v := 1) hx hb dX11_op_52 (by decide) ?_
    refine lv_istore (lv' := [(5, .int (1 : Int32)), (4, .int (((((8 : Int32) + (σ.1 10 21)) - (1 : Int32)) - y0) + (1 : Int32))), (3, .int (((8 : Int32) + (σ.1 10 21)) - (1 : Int32))), (2, .int y0), (0, .ref (pw_ad G 10)), (1, .int x1)]) hx hb dX11_op_53 hl (by decide) rfl (fun ls hl => ?_)
    refine lv_iload hx hb dX11_op_55 (lv_at hl 1 rfl) ?_
    refine lv_istore (lv' := [(6, .int (((((8 : Int32) + (σ.1 10 21)) - (1 : Int32)) - y0) + (1 : Int32))), (5, .int (1 : Int32)), (4, .int (((((8 : Int32) + (σ.1 10 21)) - (1 : Int32)) - y0) + (1 : Int32))), (3, .int (((8 : Int32) + (σ.1 10 21)) - (1 : Int32))), (2, .int y0), (0, .ref (pw_ad G 10)), (1, .int x1)]) hx hb dX11_op_57 hl (by decide) rfl (fun ls hl => ?_)
    exact tl_X11_op_59 hC  pw_FU _ _ _ _ _ _ _ _ _ _ hw (lv_sub hl [5, 6, 4, 3, 2, 1, 0] rfl) hf
  · replace hf := pw_ifn hc hf
    refine lv_bipush (v := -3) hx hb dX11_op_32 (by decide) ?_
    exact pw_iret hC hw hf dX11_op_34
set_option maxHeartbeats 4000000 in
set_option maxRecDepth 100000 in
theorem c_X11_op {l : Launch} {G : pw_Gh} {x1 : Int32} {σ : pw_St} {r : Int32} {τ : pw_St} (hf : f_X11_op x1 σ = some (r, τ)) : Met l yX11_op (.code yX11_op cX11_op 7 (some .int) :: pw_BW) rm_X11_op (pw_Pc G [.ref (pw_ad G 10), .int x1] σ) (pw_Qi G r τ) 0 0 (pw_gA G) := by
  refine pw_met (by decide +kernel) (Nat.le_of_ble_eq_true rfl) ?_
  intro p e s m args below meth c ls hC hw hl
  replace hl : lv_has ls 7 [(0, .ref (pw_ad G 10)), (1, .int x1)] := hl
  have hx := hC.1
  have hb := hC.2.1
  unfold f_X11_op at hf
  refine lv_iload_n hx hb dX11_op_0 rfl (lv_at hl 1 rfl) ?_
  refine lv_iconst (v := 0) hx hb dX11_op_1 (by decide) ?_
  refine lv_bipush (v := 7) hx hb dX11_op_2 (by decide) ?_
  obtain ⟨r1, σ1, h1, hf⟩ := pw_bi_some hf
  refine pw_ci hw (pw_runS (As := [.int x1, .int (0 : Int32), .int (7 : Int32)]) (rest := []) hC hw (c_X11_in  h1) mw_846 wm_X11_in ⟨Nat.zero_le _, Nat.zero_le _⟩ ⟨rfl, rfl, Nat.le_of_ble_eq_true rfl, Nat.le_of_ble_eq_true rfl⟩ rfl hl.1 rfl (Nat.le_of_ble_eq_true rfl) dX11_op_4) (fun H locs hw => ?_)
  refine lv_if_ne (tgt := 12) hx hb dX11_op_7 (by decide) (fun hc => ?_) (fun hc => ?_)
  · replace hf := pw_ifn hc hf
    refine lv_iload_n hx hb dX11_op_12 rfl (lv_at hl 1 rfl) ?_
    refine lv_bipush (v := 7) hx hb dX11_op_13 (by decide) ?_
    refine lv_icmp_ne (tgt := 22) hx hb dX11_op_15 (by decide) (fun hc => ?_) (fun hc => ?_)
    · replace hf := pw_ifn hc hf
      refine lv_iconst (v := 2) hx hb dX11_op_22 (by decide) ?_
      exact t_X11_op_23 hC   hw (lv_sub hl [0, 1] rfl) hf
    · replace hf := pw_ifp hc hf
      refine lv_iconst (v := 1) hx hb dX11_op_18 (by decide) ?_
      refine lv_goto (tgt := 23) hx hb dX11_op_19 (by decide) ?_
      exact t_X11_op_23 hC   hw (lv_sub hl [0, 1] rfl) hf
  · replace hf := pw_ifp hc hf
    refine lv_iconst (v := -1) hx hb dX11_op_10 (by decide) ?_
    exact pw_iret hC hw hf dX11_op_11
-- PerhapsWasModel condition
def f_X11_condition (σ : pw_St) : Option (Int32 × pw_St) := (if (σ.1 10 21) = (1 : Int32) then (if (σ.1 10 20) = (8 : Int32) then (some ((-4 : Int32), σ)) else (if pw_in (σ.1 10 20) 16 = true then (pw_lt (pw_sM σ 49 (σ.1 10 20).toNatClampNeg (0 : Int32)) fun σ1 => (pw_bv (f_X11_copy (8 : Int32) (σ1.1 10 20) σ1) fun σ2 => (pw_lt (pw_sM σ2 10 21 (0 : Int32)) fun σ3 => (pw_lt (pw_sM σ3 10 20 ((σ3.1 10 20) + (1 : Int32))) fun σ4 => (some (((σ4.1 10 20) - (1 : Int32)), σ4)))))) else none)) else (some ((-3 : Int32), σ)))
def rm_X11_condition : Room := { frames := 1, cells := 0, slots := 0, locals := 24 }
set_option maxHeartbeats 4000000 in
set_option maxRecDepth 100000 in
theorem c_X11_condition {l : Launch} {G : pw_Gh} {σ : pw_St} {r : Int32} {τ : pw_St} (hf : f_X11_condition σ = some (r, τ)) : Met l yX11_condition (.code yX11_condition cX11_condition 1 (some .int) :: pw_BW) rm_X11_condition (pw_Pc G [.ref (pw_ad G 10)] σ) (pw_Qi G r τ) 0 0 (pw_gA G) := by
  refine pw_met (by decide +kernel) (Nat.le_of_ble_eq_true rfl) ?_
  intro p e s m args below meth c ls hC hw hl
  replace hl : lv_has ls 1 [(0, .ref (pw_ad G 10))] := hl
  have hx := hC.1
  have hb := hC.2.1
  unfold f_X11_condition at hf
  refine lv_aload_n hx hb dX11_condition_0 rfl (lv_at hl 0 rfl) ?_
  refine pg_10_21 hC hw mw_770 dX11_condition_1 ?_
  refine lv_iconst (v := 1) hx hb dX11_condition_4 (by decide) ?_
  refine lv_icmp_eq (tgt := 11) hx hb dX11_condition_5 (by decide) (fun hc => ?_) (fun hc => ?_)
  · replace hf := pw_ifp hc hf
    refine lv_aload_n hx hb dX11_condition_11 rfl (lv_at hl 0 rfl) ?_
    refine pg_10_20 hC hw mw_769 dX11_condition_12 ?_
    refine lv_bipush (v := 8) hx hb dX11_condition_15 (by decide) ?_
    refine lv_icmp_ne (tgt := 23) hx hb dX11_condition_17 (by decide) (fun hc => ?_) (fun hc => ?_)
    · replace hf := pw_ifn hc hf
      refine lv_aload_n hx hb dX11_condition_23 rfl (lv_at hl 0 rfl) ?_
      refine pg_10_19 hC hw mw_768 dX11_condition_24 ?_
      refine lv_aload_n hx hb dX11_condition_27 rfl (lv_at hl 0 rfl) ?_
      refine pg_10_20 hC hw mw_769 dX11_condition_28 ?_
      refine lv_iconst (v := 0) hx hb dX11_condition_31 (by decide) ?_
      obtain ⟨hin, hf⟩ := pw_gd hf
      refine pw_ist hC hw ca_49 hin dX11_condition_32 (fun H locs hw => ?_)
      obtain ⟨σ1, e1, hf⟩ := pw_lts hf
      replace hw := pw_WHe e1 hw
      refine lv_aload_n hx hb dX11_condition_33 rfl (lv_at hl 0 rfl) ?_
      refine lv_bipush (v := 8) hx hb dX11_condition_34 (by decide) ?_
      refine lv_aload_n hx hb dX11_condition_36 rfl (lv_at hl 0 rfl) ?_
      refine pg_10_20 hC hw mw_769 dX11_condition_37 ?_
      obtain ⟨σ2, h2, hf⟩ := pw_bv_some hf
      refine pw_cv hw (pw_runV (As := [.int (8 : Int32), .int (σ1.1 10 20)]) (rest := []) hC hw (c_X11_copy  h2) mw_974 wm_X11_copy ⟨Nat.zero_le _, Nat.zero_le _⟩ ⟨rfl, rfl, Nat.le_of_ble_eq_true rfl, Nat.le_of_ble_eq_true rfl⟩ (by decide) rfl rfl rfl hl.1 rfl (Nat.le_of_ble_eq_true rfl) dX11_condition_40) (fun H locs hw => ?_)
      refine lv_aload_n hx hb dX11_condition_43 rfl (lv_at hl 0 rfl) ?_
      refine lv_iconst (v := 0) hx hb dX11_condition_44 (by decide) ?_
      refine pp_10_21 hC hw mw_770 dX11_condition_45 (fun H locs hw => ?_)
      obtain ⟨σ3, e3, hf⟩ := pw_lts hf
      replace hw := pw_WHe e3 hw
      refine lv_aload_n hx hb dX11_condition_48 rfl (lv_at hl 0 rfl) ?_
      refine lv_dup hx hb dX11_condition_49 rfl ?_
      refine pg_10_20 hC hw mw_769 dX11_condition_50 ?_
      refine lv_iconst (v := 1) hx hb dX11_condition_53 (by decide) ?_
      refine lv_iadd hx hb dX11_condition_54 ?_
      refine pp_10_20 hC hw mw_769 dX11_condition_55 (fun H locs hw => ?_)
      obtain ⟨σ4, e4, hf⟩ := pw_lts hf
      replace hw := pw_WHe e4 hw
      refine lv_aload_n hx hb dX11_condition_58 rfl (lv_at hl 0 rfl) ?_
      refine pg_10_20 hC hw mw_769 dX11_condition_59 ?_
      refine lv_iconst (v := 1) hx hb dX11_condition_62 (by decide) ?_
      refine lv_isub hx hb dX11_condition_63 ?_
      exact pw_iret hC hw hf dX11_condition_64
    · replace hf := pw_ifp hc hf
      refine lv_bipush (v := -4) hx hb dX11_condition_20 (by decide) ?_
      exact pw_iret hC hw hf dX11_condition_22
  · replace hf := pw_ifn hc hf
    refine lv_bipush (v := -3) hx hb dX11_condition_8 (by decide) ?_
    exact pw_iret hC hw hf dX11_condition_10
-- PerhapsWasModel clear
def f_X11_clear (x1 : Int32) (σ : pw_St) : Option (Int32 × pw_St) := (pw_bi (f_X11_in x1 (0 : Int32) (1 : Int32) σ) fun r1 σ1 => (if r1 = 0 then (some ((-2 : Int32), σ1)) else (pw_lt (pw_sM σ1 10 21 (0 : Int32)) fun σ2 => (if x1 = (1 : Int32) then (pw_lt (pw_sM σ2 10 20 (0 : Int32)) fun σ3 => (some (((σ1.1 10 21) + (σ2.1 10 20)), σ3))) else (some ((σ1.1 10 21), σ2))))))
def rm_X11_clear : Room := { frames := 1, cells := 0, slots := 0, locals := 22 }
set_option maxHeartbeats 4000000 in
set_option maxRecDepth 100000 in
theorem c_X11_clear {l : Launch} {G : pw_Gh} {x1 : Int32} {σ : pw_St} {r : Int32} {τ : pw_St} (hf : f_X11_clear x1 σ = some (r, τ)) : Met l yX11_clear (.code yX11_clear cX11_clear 3 (some .int) :: pw_BW) rm_X11_clear (pw_Pc G [.ref (pw_ad G 10), .int x1] σ) (pw_Qi G r τ) 0 0 (pw_gA G) := by
  refine pw_met (by decide +kernel) (Nat.le_of_ble_eq_true rfl) ?_
  intro p e s m args below meth c ls hC hw hl
  replace hl : lv_has ls 3 [(0, .ref (pw_ad G 10)), (1, .int x1)] := hl
  have hx := hC.1
  have hb := hC.2.1
  unfold f_X11_clear at hf
  refine lv_iload_n hx hb dX11_clear_0 rfl (lv_at hl 1 rfl) ?_
  refine lv_iconst (v := 0) hx hb dX11_clear_1 (by decide) ?_
  refine lv_iconst (v := 1) hx hb dX11_clear_2 (by decide) ?_
  obtain ⟨r1, σ1, h1, hf⟩ := pw_bi_some hf
  refine pw_ci hw (pw_runS (As := [.int x1, .int (0 : Int32), .int (1 : Int32)]) (rest := []) hC hw (c_X11_in  h1) mw_846 wm_X11_in ⟨Nat.zero_le _, Nat.zero_le _⟩ ⟨rfl, rfl, Nat.le_of_ble_eq_true rfl, Nat.le_of_ble_eq_true rfl⟩ rfl hl.1 rfl (Nat.le_of_ble_eq_true rfl) dX11_clear_3) (fun H locs hw => ?_)
  refine lv_if_ne (tgt := 12) hx hb dX11_clear_6 (by decide) (fun hc => ?_) (fun hc => ?_)
  · replace hf := pw_ifn hc hf
    refine lv_aload_n hx hb dX11_clear_12 rfl (lv_at hl 0 rfl) ?_
    refine pg_10_21 hC hw mw_770 dX11_clear_13 ?_
    refine lv_istore_n (lv' := [(2, .int (σ1.1 10 21)), (0, .ref (pw_ad G 10)), (1, .int x1)]) hx hb dX11_clear_16 rfl hl (by decide) rfl (fun ls hl => ?_)
    refine lv_aload_n hx hb dX11_clear_17 rfl (lv_at hl 1 rfl) ?_
    refine lv_iconst (v := 0) hx hb dX11_clear_18 (by decide) ?_
    refine pp_10_21 hC hw mw_770 dX11_clear_19 (fun H locs hw => ?_)
    obtain ⟨σ2, e2, hf⟩ := pw_lts hf
    replace hw := pw_WHe e2 hw
    refine lv_iload_n hx hb dX11_clear_22 rfl (lv_at hl 2 rfl) ?_
    refine lv_iconst (v := 1) hx hb dX11_clear_23 (by decide) ?_
    refine lv_icmp_ne (tgt := 39) hx hb dX11_clear_24 (by decide) (fun hc => ?_) (fun hc => ?_)
    · replace hf := pw_ifn hc hf
      refine lv_iload_n hx hb dX11_clear_39 rfl (lv_at hl 0 rfl) ?_
      exact pw_iret hC hw hf dX11_clear_40
    · replace hf := pw_ifp hc hf
      refine lv_iload_n hx hb dX11_clear_27 rfl (lv_at hl 0 rfl) ?_
      refine lv_aload_n hx hb dX11_clear_28 rfl (lv_at hl 1 rfl) ?_
      refine pg_10_20 hC hw mw_769 dX11_clear_29 ?_
      refine lv_iadd hx hb dX11_clear_32 ?_
      refine lv_istore_n (lv' := [(2, .int ((σ1.1 10 21) + (σ2.1 10 20))), (0, .ref (pw_ad G 10)), (1, .int x1)]) hx hb dX11_clear_33 rfl hl (by decide) rfl (fun ls hl => ?_)
      refine lv_aload_n hx hb dX11_clear_34 rfl (lv_at hl 1 rfl) ?_
      refine lv_iconst (v := 0) hx hb dX11_clear_35 (by decide) ?_
      refine pp_10_20 hC hw mw_769 dX11_clear_36 (fun H locs hw => ?_)
      obtain ⟨σ3, e3, hf⟩ := pw_lts hf
      replace hw := pw_WHe e3 hw
      refine lv_iload_n hx hb dX11_clear_39 rfl (lv_at hl 0 rfl) ?_
      exact pw_iret hC hw hf dX11_clear_40
  · replace hf := pw_ifp hc hf
    refine lv_bipush (v := -2) hx hb dX11_clear_9 (by decide) ?_
    exact pw_iret hC hw hf dX11_clear_11
-- PerhapsWasModel nameAt
def b_X11_nameAt_6 (k6 : Int32 → Int32 → Int32 → Int32 → Int32 → pw_St → Option (Int32 × pw_St)) (x1 : Int32) (x2 : Int32) (x3 : Int32) (x4 : Int32) (x5 : Int32) (σ : pw_St) : Option (Int32 × pw_St) := (pw_bi (f_X11_part x3 x1 σ) fun r1 σ1 => (if r1 ≤ x5 then (some (x4, σ1)) else (if (σ1.1 10 1) ≤ x1 then (some (x4, σ1)) else (if pw_in (((6 : Int32) * x1) + x5) 24 = true then (if (1 : Int32) < (σ1.1 35 (((6 : Int32) * x1) + x5).toNatClampNeg) then (k6 x1 x2 x3 x4 (x5 + (1 : Int32)) σ1) else (if pw_in (((6 : Int32) * x1) + x5) 24 = true then (if (σ1.1 36 (((6 : Int32) * x1) + x5).toNatClampNeg) = x2 then (if pw_in (((6 : Int32) * x1) + x5) 24 = true then (if (σ1.1 35 (((6 : Int32) * x1) + x5).toNatClampNeg) = (1 : Int32) then (if pw_in (((6 : Int32) * x1) + x5) 24 = true then (k6 x1 x2 x3 (x4 + (σ1.1 37 (((6 : Int32) * x1) + x5).toNatClampNeg)) (x5 + (1 : Int32)) σ1) else none) else (if pw_in (((6 : Int32) * x1) + x5) 24 = true then (k6 x1 x2 x3 (σ1.1 37 (((6 : Int32) * x1) + x5).toNatClampNeg) (x5 + (1 : Int32)) σ1) else none)) else none) else (k6 x1 x2 x3 x4 (x5 + (1 : Int32)) σ1)) else none)) else none))))
def l_X11_nameAt_6 : Nat → Int32 → Int32 → Int32 → Int32 → Int32 → pw_St → Option (Int32 × pw_St)
  | 0 => fun _ _ _ _ _ _ => none
  | n + 1 => fun x1 x2 x3 x4 x5 σ => b_X11_nameAt_6  (l_X11_nameAt_6  n) x1 x2 x3 x4 x5 σ
def f_X11_nameAt (x1 : Int32) (x2 : Int32) (x3 : Int32) (σ : pw_St) : Option (Int32 × pw_St) := (l_X11_nameAt_6  pw_FU x1 x2 x3 (0 : Int32) (0 : Int32) σ)
def rm_X11_nameAt : Room := { frames := 2, cells := 0, slots := 0, locals := 41 }
set_option maxHeartbeats 4000000 in
set_option maxRecDepth 100000 in
theorem t_X11_nameAt_6 (hC : pw_CX G RX11 cX11_nameAt 7 (some .int) p s m args meth c) {k6 : Int32 → Int32 → Int32 → Int32 → Int32 → pw_St → Option (Int32 × pw_St)} {r : Int32} {τ : pw_St} (hk6 : ∀ (x1 : Int32), ∀ (x2 : Int32), ∀ (x3 : Int32), ∀ (x4 : Int32), ∀ (x5 : Int32), ∀ (σ : pw_St) (H : Heap) (locs : List Loc) (ls : Array Slot), pw_WH G σ s.heap H locs → lv_has ls 7 [(0, .ref (pw_ad G 10)), (1, .int x1), (2, .int x2), (3, .int x3), (4, .int x4), (5, .int x5)] → k6 x1 x2 x3 x4 x5 σ = some (r, τ) → W p l e rm_X11_nameAt s m args below meth c H locs 0 0 (MQ below (pw_Qi G r τ) args s 0 0 (pw_gA G)) (F0 m 6 ls [])) {x1 : Int32} {x2 : Int32} {x3 : Int32} {x4 : Int32} {x5 : Int32} {σ : pw_St} {H : Heap} {locs : List Loc} {ls : Array Slot} (hw : pw_WH G σ s.heap H locs) (hl : lv_has ls 7 [(0, .ref (pw_ad G 10)), (1, .int x1), (2, .int x2), (3, .int x3), (4, .int x4), (5, .int x5)]) (hf : b_X11_nameAt_6 k6 x1 x2 x3 x4 x5 σ = some (r, τ)) : W p l e rm_X11_nameAt s m args below meth c H locs 0 0 (MQ below (pw_Qi G r τ) args s 0 0 (pw_gA G)) (F0 m 6 ls []) := by
  have hx := hC.1
  have hb := hC.2.1
  unfold b_X11_nameAt_6 at hf
  refine lv_iload hx hb dX11_nameAt_6 (lv_at hl 5 rfl) ?_
  refine lv_iload_n hx hb dX11_nameAt_8 rfl (lv_at hl 3 rfl) ?_
  refine lv_iload_n hx hb dX11_nameAt_9 rfl (lv_at hl 1 rfl) ?_
  obtain ⟨r1, σ1, h1, hf⟩ := pw_bi_some hf
  refine pw_ci hw (pw_runS (As := [.int x3, .int x1]) (rest := [.int x5]) hC hw (c_X11_part  h1) mw_901 wm_X11_part ⟨Nat.zero_le _, Nat.zero_le _⟩ ⟨rfl, rfl, Nat.le_of_ble_eq_true rfl, Nat.le_of_ble_eq_true rfl⟩ rfl hl.1 rfl (Nat.le_of_ble_eq_true rfl) dX11_nameAt_10) (fun H locs hw => ?_)
  refine lv_icmp_ge (tgt := 97) hx hb dX11_nameAt_13 (by decide) (fun hc => ?_) (fun hc => ?_)
  · replace hf := pw_ifp hc hf
    refine lv_iload hx hb dX11_nameAt_97 (lv_at hl 4 rfl) ?_
    exact pw_iret hC hw hf dX11_nameAt_99
  · replace hf := pw_ifn hc hf
    refine lv_iload_n hx hb dX11_nameAt_16 rfl (lv_at hl 1 rfl) ?_
    refine lv_aload_n hx hb dX11_nameAt_17 rfl (lv_at hl 0 rfl) ?_
    refine pg_10_1 hC hw mw_750 dX11_nameAt_18 ?_
    refine lv_icmp_ge (tgt := 97) hx hb dX11_nameAt_21 (by decide) (fun hc => ?_) (fun hc => ?_)
    · replace hf := pw_ifp hc hf
      refine lv_iload hx hb dX11_nameAt_97 (lv_at hl 4 rfl) ?_
      exact pw_iret hC hw hf dX11_nameAt_99
    · replace hf := pw_ifn hc hf
      refine lv_bipush (v := 6) hx hb dX11_nameAt_24 (by decide) ?_
      refine lv_iload_n hx hb dX11_nameAt_26 rfl (lv_at hl 1 rfl) ?_
      refine lv_imul hx hb dX11_nameAt_27 ?_
      refine lv_iload hx hb dX11_nameAt_28 (lv_at hl 5 rfl) ?_
      refine lv_iadd hx hb dX11_nameAt_30 ?_
      refine lv_istore (lv' := [(6, .int (((6 : Int32) * x1) + x5)), (0, .ref (pw_ad G 10)), (1, .int x1), (2, .int x2), (3, .int x3), (4, .int x4), (5, .int x5)]) hx hb dX11_nameAt_31 hl (by decide) rfl (fun ls hl => ?_)
      refine lv_aload_n hx hb dX11_nameAt_33 rfl (lv_at hl 1 rfl) ?_
      refine pg_10_3 hC hw mw_752 dX11_nameAt_34 ?_
      refine lv_iload hx hb dX11_nameAt_37 (lv_at hl 0 rfl) ?_
      obtain ⟨hin, hf⟩ := pw_gd hf
      refine pw_ild hC hw ca_35 hin dX11_nameAt_39 ?_
      refine lv_iconst (v := 1) hx hb dX11_nameAt_40 (by decide) ?_
      refine lv_icmp_gt (tgt := 91) hx hb dX11_nameAt_41 (by decide) (fun hc => ?_) (fun hc => ?_)
      · replace hf := pw_ifp hc hf
        refine lv_iinc (v := (x5 + (1 : Int32))) (lv' := [(5, .int (x5 + (1 : Int32))), (6, .int (((6 : Int32) * x1) + x5)), (0, .ref (pw_ad G 10)), (1, .int x1), (2, .int x2), (3, .int x3), (4, .int x4)]) hx hb dX11_nameAt_91 hl (k := 6) rfl rfl (by decide) rfl (fun ls hl => ?_)
        refine lv_goto (tgt := 6) hx hb dX11_nameAt_94 (by decide) ?_
        exact hk6 _ _ _ _ _ _ _ _ _ hw (lv_sub hl [2, 3, 4, 5, 6, 0] rfl) hf
      · replace hf := pw_ifn hc hf
        refine lv_aload_n hx hb dX11_nameAt_44 rfl (lv_at hl 1 rfl) ?_
        refine pg_10_4 hC hw mw_753 dX11_nameAt_45 ?_
        refine lv_iload hx hb dX11_nameAt_48 (lv_at hl 0 rfl) ?_
        obtain ⟨hin, hf⟩ := pw_gd hf
        refine pw_ild hC hw ca_36 hin dX11_nameAt_50 ?_
        refine lv_iload_n hx hb dX11_nameAt_51 rfl (lv_at hl 3 rfl) ?_
        refine lv_icmp_eq (tgt := 58) hx hb dX11_nameAt_52 (by decide) (fun hc => ?_) (fun hc => ?_)
        · replace hf := pw_ifp hc hf
          refine lv_aload_n hx hb dX11_nameAt_58 rfl (lv_at hl 1 rfl) ?_
          refine pg_10_3 hC hw mw_752 dX11_nameAt_59 ?_
          refine lv_iload hx hb dX11_nameAt_62 (lv_at hl 0 rfl) ?_
          obtain ⟨hin, hf⟩ := pw_gd hf
          refine pw_ild hC hw ca_35 hin dX11_nameAt_64 ?_
          refine lv_iconst (v := 1) hx hb dX11_nameAt_65 (by decide) ?_
          refine lv_icmp_ne (tgt := 82) hx hb dX11_nameAt_66 (by decide) (fun hc => ?_) (fun hc => ?_)
          · replace hf := pw_ifn hc hf
            refine lv_aload_n hx hb dX11_nameAt_82 rfl (lv_at hl 1 rfl) ?_
            refine pg_10_5 hC hw mw_754 dX11_nameAt_83 ?_
            refine lv_iload hx hb dX11_nameAt_86 (lv_at hl 0 rfl) ?_
            obtain ⟨hin, hf⟩ := pw_gd hf
            refine pw_ild hC hw ca_37 hin dX11_nameAt_88 ?_
            refine lv_istore (lv' := [(4, .int (σ1.1 37 (((6 : Int32) * x1) + x5).toNatClampNeg)), (6, .int (((6 : Int32) * x1) + x5)), (0, .ref (pw_ad G 10)), (1, .int x1), (2, .int x2), (3, .int x3), (5, .int x5)]) hx hb dX11_nameAt_89 hl (by decide) rfl (fun ls hl => ?_)
            refine lv_iinc (v := (x5 + (1 : Int32))) (lv' := [(5, .int (x5 + (1 : Int32))), (4, .int (σ1.1 37 (((6 : Int32) * x1) + x5).toNatClampNeg)), (6, .int (((6 : Int32) * x1) + x5)), (0, .ref (pw_ad G 10)), (1, .int x1), (2, .int x2), (3, .int x3)]) hx hb dX11_nameAt_91 hl (k := 6) rfl rfl (by decide) rfl (fun ls hl => ?_)
            refine lv_goto (tgt := 6) hx hb dX11_nameAt_94 (by decide) ?_
            exact hk6 _ _ _ _ _ _ _ _ _ hw (lv_sub hl [3, 4, 5, 6, 1, 0] rfl) hf
          · replace hf := pw_ifp hc hf
            refine lv_iload hx hb dX11_nameAt_69 (lv_at hl 5 rfl) ?_
            refine lv_aload_n hx hb dX11_nameAt_71 rfl (lv_at hl 1 rfl) ?_
            refine pg_10_5 hC hw mw_754 dX11_nameAt_72 ?_
            refine lv_iload hx hb dX11_nameAt_75 (lv_at hl 0 rfl) ?_
            obtain ⟨hin, hf⟩ := pw_gd hf
            refine pw_ild hC hw ca_37 hin dX11_nameAt_77 ?_
            refine lv_iadd hx hb dX11_nameAt_78 ?_
            refine lv_goto (tgt := 89) hx hb dX11_nameAt_79 (by decide) ?_
            refine lv_istore (lv' := [(4, .int (x4 + (σ1.1 37 (((6 : Int32) * x1) + x5).toNatClampNeg))), (6, .int (((6 : Int32) * x1) + x5)), (0, .ref (pw_ad G 10)), (1, .int x1), (2, .int x2), (3, .int x3), (5, .int x5)]) hx hb dX11_nameAt_89 hl (by decide) rfl (fun ls hl => ?_)
            refine lv_iinc (v := (x5 + (1 : Int32))) (lv' := [(5, .int (x5 + (1 : Int32))), (4, .int (x4 + (σ1.1 37 (((6 : Int32) * x1) + x5).toNatClampNeg))), (6, .int (((6 : Int32) * x1) + x5)), (0, .ref (pw_ad G 10)), (1, .int x1), (2, .int x2), (3, .int x3)]) hx hb dX11_nameAt_91 hl (k := 6) rfl rfl (by decide) rfl (fun ls hl => ?_)
            refine lv_goto (tgt := 6) hx hb dX11_nameAt_94 (by decide) ?_
            exact hk6 _ _ _ _ _ _ _ _ _ hw (lv_sub hl [3, 4, 5, 6, 1, 0] rfl) hf
        · replace hf := pw_ifn hc hf
          refine lv_goto (tgt := 91) hx hb dX11_nameAt_55 (by decide) ?_
          refine lv_iinc (v := (x5 + (1 : Int32))) (lv' := [(5, .int (x5 + (1 : Int32))), (6, .int (((6 : Int32) * x1) + x5)), (0, .ref (pw_ad G 10)), (1, .int x1), (2, .int x2), (3, .int x3), (4, .int x4)]) hx hb dX11_nameAt_91 hl (k := 6) rfl rfl (by decide) rfl (fun ls hl => ?_)
          refine lv_goto (tgt := 6) hx hb dX11_nameAt_94 (by decide) ?_
          exact hk6 _ _ _ _ _ _ _ _ _ hw (lv_sub hl [2, 3, 4, 5, 6, 0] rfl) hf
set_option maxHeartbeats 4000000 in
theorem tl_X11_nameAt_6 (hC : pw_CX G RX11 cX11_nameAt 7 (some .int) p s m args meth c) {r : Int32} {τ : pw_St} : ∀ (n : Nat) (x1 : Int32) (x2 : Int32) (x3 : Int32) (x4 : Int32) (x5 : Int32) (σ : pw_St) (H : Heap) (locs : List Loc) (ls : Array Slot), pw_WH G σ s.heap H locs → lv_has ls 7 [(0, .ref (pw_ad G 10)), (1, .int x1), (2, .int x2), (3, .int x3), (4, .int x4), (5, .int x5)] → l_X11_nameAt_6  n x1 x2 x3 x4 x5 σ = some (r, τ) → W p l e rm_X11_nameAt s m args below meth c H locs 0 0 (MQ below (pw_Qi G r τ) args s 0 0 (pw_gA G)) (F0 m 6 ls []) := by
  intro n
  induction n with
  | zero => intro x1 x2 x3 x4 x5 σ H locs ls hw hl hf; cases hf
  | succ n ih => intro x1 x2 x3 x4 x5 σ H locs ls hw hl hf; exact t_X11_nameAt_6 hC ih  hw hl hf
set_option maxHeartbeats 4000000 in
set_option maxRecDepth 100000 in
theorem c_X11_nameAt {l : Launch} {G : pw_Gh} {x1 : Int32} {x2 : Int32} {x3 : Int32} {σ : pw_St} {r : Int32} {τ : pw_St} (hf : f_X11_nameAt x1 x2 x3 σ = some (r, τ)) : Met l yX11_nameAt (.code yX11_nameAt cX11_nameAt 7 (some .int) :: pw_BW) rm_X11_nameAt (pw_Pc G [.ref (pw_ad G 10), .int x1, .int x2, .int x3] σ) (pw_Qi G r τ) 0 0 (pw_gA G) := by
  refine pw_met (by decide +kernel) (Nat.le_of_ble_eq_true rfl) ?_
  intro p e s m args below meth c ls hC hw hl
  replace hl : lv_has ls 7 [(0, .ref (pw_ad G 10)), (1, .int x1), (2, .int x2), (3, .int x3)] := hl
  have hx := hC.1
  have hb := hC.2.1
  unfold f_X11_nameAt at hf
  refine lv_iconst (v := 0) hx hb dX11_nameAt_0 (by decide) ?_
  refine lv_istore (lv' := [(4, .int (0 : Int32)), (0, .ref (pw_ad G 10)), (1, .int x1), (2, .int x2), (3, .int x3)]) hx hb dX11_nameAt_1 hl (by decide) rfl (fun ls hl => ?_)
  refine lv_iconst (v := 0) hx hb dX11_nameAt_3 (by decide) ?_
  refine lv_istore (lv' := [(5, .int (0 : Int32)), (4, .int (0 : Int32)), (0, .ref (pw_ad G 10)), (1, .int x1), (2, .int x2), (3, .int x3)]) hx hb dX11_nameAt_4 hl (by decide) rfl (fun ls hl => ?_)
  exact tl_X11_nameAt_6 hC  pw_FU _ _ _ _ _ _ _ _ _ hw (lv_sub hl [2, 3, 4, 5, 1, 0] rfl) hf
-- PerhapsWasModel underWay
def b_X11_underWay_88 (k6 : Int32 → Int32 → Int32 → Int32 → Int32 → pw_St → Option (Int32 × pw_St)) (x1 : Int32) (x2 : Int32) (x3 : Int32) (x5 : Int32) (y0 : Int32) (y1 : Int32) (σ : pw_St) : Option (Int32 × pw_St) := (k6 x1 x2 x3 (y1 + y0) (x5 + (1 : Int32)) σ)
def b_X11_underWay_87 (k6 : Int32 → Int32 → Int32 → Int32 → Int32 → pw_St → Option (Int32 × pw_St)) (x1 : Int32) (x2 : Int32) (x3 : Int32) (x5 : Int32) (y0 : Int32) (σ : pw_St) : Option (Int32 × pw_St) := (b_X11_underWay_88 k6 x1 x2 x3 x5 (1 : Int32) y0 σ)
def b_X11_underWay_6 (k6 : Int32 → Int32 → Int32 → Int32 → Int32 → pw_St → Option (Int32 × pw_St)) (x1 : Int32) (x2 : Int32) (x3 : Int32) (x4 : Int32) (x5 : Int32) (σ : pw_St) : Option (Int32 × pw_St) := (if (σ.1 10 9) ≤ x5 then (some (x4, σ)) else (if pw_in x5 24 = true then (if (σ.1 40 x5.toNatClampNeg) = x1 then (if pw_in x5 24 = true then (if (σ.1 41 x5.toNatClampNeg) = x2 then (if pw_in x5 24 = true then (pw_bi (f_X11_part x3 x1 σ) fun r1 σ1 => (if (σ.1 42 x5.toNatClampNeg) < r1 then (if pw_in x5 24 = true then (if (σ1.1 43 x5.toNatClampNeg) = (-1 : Int32) then (b_X11_underWay_87 k6 x1 x2 x3 x5 x4 σ1) else (if pw_in x5 24 = true then (pw_bi (f_X11_part x3 x2 σ1) fun r2 σ2 => (if r2 ≤ (σ1.1 43 x5.toNatClampNeg) then (b_X11_underWay_87 k6 x1 x2 x3 x5 x4 σ2) else (b_X11_underWay_88 k6 x1 x2 x3 x5 (0 : Int32) x4 σ2))) else none)) else none) else (k6 x1 x2 x3 x4 (x5 + (1 : Int32)) σ1))) else none) else (k6 x1 x2 x3 x4 (x5 + (1 : Int32)) σ)) else none) else (k6 x1 x2 x3 x4 (x5 + (1 : Int32)) σ)) else none))
def l_X11_underWay_6 : Nat → Int32 → Int32 → Int32 → Int32 → Int32 → pw_St → Option (Int32 × pw_St)
  | 0 => fun _ _ _ _ _ _ => none
  | n + 1 => fun x1 x2 x3 x4 x5 σ => b_X11_underWay_6  (l_X11_underWay_6  n) x1 x2 x3 x4 x5 σ
def f_X11_underWay (x1 : Int32) (x2 : Int32) (x3 : Int32) (σ : pw_St) : Option (Int32 × pw_St) := (l_X11_underWay_6  pw_FU x1 x2 x3 (0 : Int32) (0 : Int32) σ)
def rm_X11_underWay : Room := { frames := 2, cells := 0, slots := 0, locals := 41 }
set_option maxHeartbeats 4000000 in
set_option maxRecDepth 100000 in
theorem t_X11_underWay_88 (hC : pw_CX G RX11 cX11_underWay 6 (some .int) p s m args meth c) {k6 : Int32 → Int32 → Int32 → Int32 → Int32 → pw_St → Option (Int32 × pw_St)} {r : Int32} {τ : pw_St} (hk6 : ∀ (x1 : Int32), ∀ (x2 : Int32), ∀ (x3 : Int32), ∀ (x4 : Int32), ∀ (x5 : Int32), ∀ (σ : pw_St) (H : Heap) (locs : List Loc) (ls : Array Slot), pw_WH G σ s.heap H locs → lv_has ls 6 [(0, .ref (pw_ad G 10)), (1, .int x1), (2, .int x2), (3, .int x3), (4, .int x4), (5, .int x5)] → k6 x1 x2 x3 x4 x5 σ = some (r, τ) → W p l e rm_X11_underWay s m args below meth c H locs 0 0 (MQ below (pw_Qi G r τ) args s 0 0 (pw_gA G)) (F0 m 6 ls [])) {x1 : Int32} {x2 : Int32} {x3 : Int32} {x5 : Int32} {y0 : Int32} {y1 : Int32} {σ : pw_St} {H : Heap} {locs : List Loc} {ls : Array Slot} (hw : pw_WH G σ s.heap H locs) (hl : lv_has ls 6 [(0, .ref (pw_ad G 10)), (1, .int x1), (2, .int x2), (3, .int x3), (5, .int x5)]) (hf : b_X11_underWay_88 k6 x1 x2 x3 x5 y0 y1 σ = some (r, τ)) : W p l e rm_X11_underWay s m args below meth c H locs 0 0 (MQ below (pw_Qi G r τ) args s 0 0 (pw_gA G)) (F0 m 88 ls [.int y0, .int y1]) := by
  have hx := hC.1
  have hb := hC.2.1
  unfold b_X11_underWay_88 at hf
  refine lv_iadd hx hb dX11_underWay_88 ?_
  refine lv_istore (lv' := [(4, .int (y1 + y0)), (0, .ref (pw_ad G 10)), (1, .int x1), (2, .int x2), (3, .int x3), (5, .int x5)]) hx hb dX11_underWay_89 hl (by decide) rfl (fun ls hl => ?_)
  refine lv_iinc (v := (x5 + (1 : Int32))) (lv' := [(5, .int (x5 + (1 : Int32))), (4, .int (y1 + y0)), (0, .ref (pw_ad G 10)), (1, .int x1), (2, .int x2), (3, .int x3)]) hx hb dX11_underWay_91 hl (k := 5) rfl rfl (by decide) rfl (fun ls hl => ?_)
  refine lv_goto (tgt := 6) hx hb dX11_underWay_94 (by decide) ?_
  exact hk6 _ _ _ _ _ _ _ _ _ hw (lv_sub hl [2, 3, 4, 5, 1, 0] rfl) hf
set_option maxHeartbeats 4000000 in
set_option maxRecDepth 100000 in
theorem t_X11_underWay_87 (hC : pw_CX G RX11 cX11_underWay 6 (some .int) p s m args meth c) {k6 : Int32 → Int32 → Int32 → Int32 → Int32 → pw_St → Option (Int32 × pw_St)} {r : Int32} {τ : pw_St} (hk6 : ∀ (x1 : Int32), ∀ (x2 : Int32), ∀ (x3 : Int32), ∀ (x4 : Int32), ∀ (x5 : Int32), ∀ (σ : pw_St) (H : Heap) (locs : List Loc) (ls : Array Slot), pw_WH G σ s.heap H locs → lv_has ls 6 [(0, .ref (pw_ad G 10)), (1, .int x1), (2, .int x2), (3, .int x3), (4, .int x4), (5, .int x5)] → k6 x1 x2 x3 x4 x5 σ = some (r, τ) → W p l e rm_X11_underWay s m args below meth c H locs 0 0 (MQ below (pw_Qi G r τ) args s 0 0 (pw_gA G)) (F0 m 6 ls [])) {x1 : Int32} {x2 : Int32} {x3 : Int32} {x5 : Int32} {y0 : Int32} {σ : pw_St} {H : Heap} {locs : List Loc} {ls : Array Slot} (hw : pw_WH G σ s.heap H locs) (hl : lv_has ls 6 [(0, .ref (pw_ad G 10)), (1, .int x1), (2, .int x2), (3, .int x3), (5, .int x5)]) (hf : b_X11_underWay_87 k6 x1 x2 x3 x5 y0 σ = some (r, τ)) : W p l e rm_X11_underWay s m args below meth c H locs 0 0 (MQ below (pw_Qi G r τ) args s 0 0 (pw_gA G)) (F0 m 87 ls [.int y0]) := by
  have hx := hC.1
  have hb := hC.2.1
  unfold b_X11_underWay_87 at hf
  refine lv_iconst (v := 1) hx hb dX11_underWay_87 (by decide) ?_
  exact t_X11_underWay_88 hC hk6  hw (lv_sub hl [0, 1, 2, 3, 4] rfl) hf
set_option maxHeartbeats 4000000 in
set_option maxRecDepth 100000 in
theorem t_X11_underWay_6 (hC : pw_CX G RX11 cX11_underWay 6 (some .int) p s m args meth c) {k6 : Int32 → Int32 → Int32 → Int32 → Int32 → pw_St → Option (Int32 × pw_St)} {r : Int32} {τ : pw_St} (hk6 : ∀ (x1 : Int32), ∀ (x2 : Int32), ∀ (x3 : Int32), ∀ (x4 : Int32), ∀ (x5 : Int32), ∀ (σ : pw_St) (H : Heap) (locs : List Loc) (ls : Array Slot), pw_WH G σ s.heap H locs → lv_has ls 6 [(0, .ref (pw_ad G 10)), (1, .int x1), (2, .int x2), (3, .int x3), (4, .int x4), (5, .int x5)] → k6 x1 x2 x3 x4 x5 σ = some (r, τ) → W p l e rm_X11_underWay s m args below meth c H locs 0 0 (MQ below (pw_Qi G r τ) args s 0 0 (pw_gA G)) (F0 m 6 ls [])) {x1 : Int32} {x2 : Int32} {x3 : Int32} {x4 : Int32} {x5 : Int32} {σ : pw_St} {H : Heap} {locs : List Loc} {ls : Array Slot} (hw : pw_WH G σ s.heap H locs) (hl : lv_has ls 6 [(0, .ref (pw_ad G 10)), (1, .int x1), (2, .int x2), (3, .int x3), (4, .int x4), (5, .int x5)]) (hf : b_X11_underWay_6 k6 x1 x2 x3 x4 x5 σ = some (r, τ)) : W p l e rm_X11_underWay s m args below meth c H locs 0 0 (MQ below (pw_Qi G r τ) args s 0 0 (pw_gA G)) (F0 m 6 ls []) := by
  have hx := hC.1
  have hb := hC.2.1
  unfold b_X11_underWay_6 at hf
  refine lv_iload hx hb dX11_underWay_6 (lv_at hl 5 rfl) ?_
  refine lv_aload_n hx hb dX11_underWay_8 rfl (lv_at hl 0 rfl) ?_
  refine pg_10_9 hC hw mw_758 dX11_underWay_9 ?_
  refine lv_icmp_ge (tgt := 97) hx hb dX11_underWay_12 (by decide) (fun hc => ?_) (fun hc => ?_)
  · replace hf := pw_ifp hc hf
    refine lv_iload hx hb dX11_underWay_97 (lv_at hl 4 rfl) ?_
    exact pw_iret hC hw hf dX11_underWay_99
  · replace hf := pw_ifn hc hf
    refine lv_aload_n hx hb dX11_underWay_15 rfl (lv_at hl 0 rfl) ?_
    refine pg_10_10 hC hw mw_759 dX11_underWay_16 ?_
    refine lv_iload hx hb dX11_underWay_19 (lv_at hl 5 rfl) ?_
    obtain ⟨hin, hf⟩ := pw_gd hf
    refine pw_ild hC hw ca_40 hin dX11_underWay_21 ?_
    refine lv_iload_n hx hb dX11_underWay_22 rfl (lv_at hl 1 rfl) ?_
    refine lv_icmp_ne (tgt := 91) hx hb dX11_underWay_23 (by decide) (fun hc => ?_) (fun hc => ?_)
    · replace hf := pw_ifn hc hf
      refine lv_iinc (v := (x5 + (1 : Int32))) (lv' := [(5, .int (x5 + (1 : Int32))), (0, .ref (pw_ad G 10)), (1, .int x1), (2, .int x2), (3, .int x3), (4, .int x4)]) hx hb dX11_underWay_91 hl (k := 5) rfl rfl (by decide) rfl (fun ls hl => ?_)
      refine lv_goto (tgt := 6) hx hb dX11_underWay_94 (by decide) ?_
      exact hk6 _ _ _ _ _ _ _ _ _ hw (lv_sub hl [1, 2, 3, 4, 5, 0] rfl) hf
    · replace hf := pw_ifp hc hf
      refine lv_aload_n hx hb dX11_underWay_26 rfl (lv_at hl 0 rfl) ?_
      refine pg_10_11 hC hw mw_760 dX11_underWay_27 ?_
      refine lv_iload hx hb dX11_underWay_30 (lv_at hl 5 rfl) ?_
      obtain ⟨hin, hf⟩ := pw_gd hf
      refine pw_ild hC hw ca_41 hin dX11_underWay_32 ?_
      refine lv_iload_n hx hb dX11_underWay_33 rfl (lv_at hl 2 rfl) ?_
      refine lv_icmp_ne (tgt := 91) hx hb dX11_underWay_34 (by decide) (fun hc => ?_) (fun hc => ?_)
      · replace hf := pw_ifn hc hf
        refine lv_iinc (v := (x5 + (1 : Int32))) (lv' := [(5, .int (x5 + (1 : Int32))), (0, .ref (pw_ad G 10)), (1, .int x1), (2, .int x2), (3, .int x3), (4, .int x4)]) hx hb dX11_underWay_91 hl (k := 5) rfl rfl (by decide) rfl (fun ls hl => ?_)
        refine lv_goto (tgt := 6) hx hb dX11_underWay_94 (by decide) ?_
        exact hk6 _ _ _ _ _ _ _ _ _ hw (lv_sub hl [1, 2, 3, 4, 5, 0] rfl) hf
      · replace hf := pw_ifp hc hf
        refine lv_aload_n hx hb dX11_underWay_37 rfl (lv_at hl 0 rfl) ?_
        refine pg_10_12 hC hw mw_761 dX11_underWay_38 ?_
        refine lv_iload hx hb dX11_underWay_41 (lv_at hl 5 rfl) ?_
        obtain ⟨hin, hf⟩ := pw_gd hf
        refine pw_ild hC hw ca_42 hin dX11_underWay_43 ?_
        refine lv_iload_n hx hb dX11_underWay_44 rfl (lv_at hl 3 rfl) ?_
        refine lv_iload_n hx hb dX11_underWay_45 rfl (lv_at hl 1 rfl) ?_
        obtain ⟨r1, σ1, h1, hf⟩ := pw_bi_some hf
        refine pw_ci hw (pw_runS (As := [.int x3, .int x1]) (rest := [.int (σ.1 42 x5.toNatClampNeg)]) hC hw (c_X11_part  h1) mw_901 wm_X11_part ⟨Nat.zero_le _, Nat.zero_le _⟩ ⟨rfl, rfl, Nat.le_of_ble_eq_true rfl, Nat.le_of_ble_eq_true rfl⟩ rfl hl.1 rfl (Nat.le_of_ble_eq_true rfl) dX11_underWay_46) (fun H locs hw => ?_)
        refine lv_icmp_lt (tgt := 55) hx hb dX11_underWay_49 (by decide) (fun hc => ?_) (fun hc => ?_)
        · replace hf := pw_ifp hc hf
          refine lv_iload hx hb dX11_underWay_55 (lv_at hl 4 rfl) ?_
          refine lv_aload_n hx hb dX11_underWay_57 rfl (lv_at hl 0 rfl) ?_
          refine pg_10_13 hC hw mw_762 dX11_underWay_58 ?_
          refine lv_iload hx hb dX11_underWay_61 (lv_at hl 5 rfl) ?_
          obtain ⟨hin, hf⟩ := pw_gd hf
          refine pw_ild hC hw ca_43 hin dX11_underWay_63 ?_
          refine lv_iconst (v := -1) hx hb dX11_underWay_64 (by decide) ?_
          refine lv_icmp_eq (tgt := 87) hx hb dX11_underWay_65 (by decide) (fun hc => ?_) (fun hc => ?_)
          · replace hf := pw_ifp hc hf
            exact t_X11_underWay_87 hC hk6  hw (lv_sub hl [0, 1, 2, 3, 5] rfl) hf
          · replace hf := pw_ifn hc hf
            refine lv_aload_n hx hb dX11_underWay_68 rfl (lv_at hl 0 rfl) ?_
            refine pg_10_13 hC hw mw_762 dX11_underWay_69 ?_
            refine lv_iload hx hb dX11_underWay_72 (lv_at hl 5 rfl) ?_
            obtain ⟨hin, hf⟩ := pw_gd hf
            refine pw_ild hC hw ca_43 hin dX11_underWay_74 ?_
            refine lv_iload_n hx hb dX11_underWay_75 rfl (lv_at hl 3 rfl) ?_
            refine lv_iload_n hx hb dX11_underWay_76 rfl (lv_at hl 2 rfl) ?_
            obtain ⟨r2, σ2, h2, hf⟩ := pw_bi_some hf
            refine pw_ci hw (pw_runS (As := [.int x3, .int x2]) (rest := [.int (σ1.1 43 x5.toNatClampNeg), .int x4]) hC hw (c_X11_part  h2) mw_901 wm_X11_part ⟨Nat.zero_le _, Nat.zero_le _⟩ ⟨rfl, rfl, Nat.le_of_ble_eq_true rfl, Nat.le_of_ble_eq_true rfl⟩ rfl hl.1 rfl (Nat.le_of_ble_eq_true rfl) dX11_underWay_77) (fun H locs hw => ?_)
            refine lv_icmp_ge (tgt := 87) hx hb dX11_underWay_80 (by decide) (fun hc => ?_) (fun hc => ?_)
            · replace hf := pw_ifp hc hf
              exact t_X11_underWay_87 hC hk6  hw (lv_sub hl [0, 1, 2, 3, 5] rfl) hf
            · replace hf := pw_ifn hc hf
              refine lv_iconst (v := 0) hx hb dX11_underWay_83 (by decide) ?_
              refine lv_goto (tgt := 88) hx hb dX11_underWay_84 (by decide) ?_
              exact t_X11_underWay_88 hC hk6  hw (lv_sub hl [0, 1, 2, 3, 5] rfl) hf
        · replace hf := pw_ifn hc hf
          refine lv_goto (tgt := 91) hx hb dX11_underWay_52 (by decide) ?_
          refine lv_iinc (v := (x5 + (1 : Int32))) (lv' := [(5, .int (x5 + (1 : Int32))), (0, .ref (pw_ad G 10)), (1, .int x1), (2, .int x2), (3, .int x3), (4, .int x4)]) hx hb dX11_underWay_91 hl (k := 5) rfl rfl (by decide) rfl (fun ls hl => ?_)
          refine lv_goto (tgt := 6) hx hb dX11_underWay_94 (by decide) ?_
          exact hk6 _ _ _ _ _ _ _ _ _ hw (lv_sub hl [1, 2, 3, 4, 5, 0] rfl) hf
set_option maxHeartbeats 4000000 in
theorem tl_X11_underWay_6 (hC : pw_CX G RX11 cX11_underWay 6 (some .int) p s m args meth c) {r : Int32} {τ : pw_St} : ∀ (n : Nat) (x1 : Int32) (x2 : Int32) (x3 : Int32) (x4 : Int32) (x5 : Int32) (σ : pw_St) (H : Heap) (locs : List Loc) (ls : Array Slot), pw_WH G σ s.heap H locs → lv_has ls 6 [(0, .ref (pw_ad G 10)), (1, .int x1), (2, .int x2), (3, .int x3), (4, .int x4), (5, .int x5)] → l_X11_underWay_6  n x1 x2 x3 x4 x5 σ = some (r, τ) → W p l e rm_X11_underWay s m args below meth c H locs 0 0 (MQ below (pw_Qi G r τ) args s 0 0 (pw_gA G)) (F0 m 6 ls []) := by
  intro n
  induction n with
  | zero => intro x1 x2 x3 x4 x5 σ H locs ls hw hl hf; cases hf
  | succ n ih => intro x1 x2 x3 x4 x5 σ H locs ls hw hl hf; exact t_X11_underWay_6 hC ih  hw hl hf
set_option maxHeartbeats 4000000 in
set_option maxRecDepth 100000 in
theorem c_X11_underWay {l : Launch} {G : pw_Gh} {x1 : Int32} {x2 : Int32} {x3 : Int32} {σ : pw_St} {r : Int32} {τ : pw_St} (hf : f_X11_underWay x1 x2 x3 σ = some (r, τ)) : Met l yX11_underWay (.code yX11_underWay cX11_underWay 6 (some .int) :: pw_BW) rm_X11_underWay (pw_Pc G [.ref (pw_ad G 10), .int x1, .int x2, .int x3] σ) (pw_Qi G r τ) 0 0 (pw_gA G) := by
  refine pw_met (by decide +kernel) (Nat.le_of_ble_eq_true rfl) ?_
  intro p e s m args below meth c ls hC hw hl
  replace hl : lv_has ls 6 [(0, .ref (pw_ad G 10)), (1, .int x1), (2, .int x2), (3, .int x3)] := hl
  have hx := hC.1
  have hb := hC.2.1
  unfold f_X11_underWay at hf
  refine lv_iconst (v := 0) hx hb dX11_underWay_0 (by decide) ?_
  refine lv_istore (lv' := [(4, .int (0 : Int32)), (0, .ref (pw_ad G 10)), (1, .int x1), (2, .int x2), (3, .int x3)]) hx hb dX11_underWay_1 hl (by decide) rfl (fun ls hl => ?_)
  refine lv_iconst (v := 0) hx hb dX11_underWay_3 (by decide) ?_
  refine lv_istore (lv' := [(5, .int (0 : Int32)), (4, .int (0 : Int32)), (0, .ref (pw_ad G 10)), (1, .int x1), (2, .int x2), (3, .int x3)]) hx hb dX11_underWay_4 hl (by decide) rfl (fun ls hl => ?_)
  exact tl_X11_underWay_6 hC  pw_FU _ _ _ _ _ _ _ _ _ hw (lv_sub hl [2, 3, 4, 5, 1, 0] rfl) hf
end PM
