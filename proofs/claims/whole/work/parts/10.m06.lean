section PM
variable {p : Program} {l : Launch} {e : Env} {s : State} {m : MethodId} {args : Array Value} {below : List Frame} {meth : Method} {c : Code} {G : pw_Gh}
-- PerhapsWas is
def b_X10_is_67 (y0 : Int32) (σ : pw_St) : Option (Int32 × pw_St) := (if y0 = 0 then (some ((0 : Int32), σ)) else (some ((1 : Int32), σ)))
def f_X10_is (x1 : Int32) (x2 : Int32) (σ : pw_St) : Option (Int32 × pw_St) := (pw_bi (f_X0_has x1 σ) fun r1 σ1 => (if r1 = 0 then (some ((-1 : Int32), σ1)) else (if x2 < 0 then (some ((-1 : Int32), σ1)) else (if x2 ≤ (2 : Int32) then (pw_bv (f_X10_markedNet x1 σ1) fun σ2 => (if x2 = 0 then (pw_bi (f_X4_areKept σ2) fun r5 σ5 => (b_X10_is_67  r5 σ5)) else (if x2 = (1 : Int32) then (pw_bi (f_X4_areMet σ2) fun r4 σ4 => (b_X10_is_67  r4 σ4)) else (pw_bi (f_X4_areJoined σ2) fun r3 σ3 => (b_X10_is_67  r3 σ3))))) else (some ((-1 : Int32), σ1))))))
def rm_X10_is : Room := { frames := 5, cells := 0, slots := 0, locals := 123 }
set_option maxHeartbeats 4000000 in
set_option maxRecDepth 100000 in
theorem t_X10_is_67 (hC : pw_CX G RX10 cX10_is 5 (some .int) p s m args meth c) {r : Int32} {τ : pw_St} {y0 : Int32} {σ : pw_St} {H : Heap} {locs : List Loc} {ls : Array Slot} (hw : pw_WH G σ s.heap H locs) (hl : lv_has ls 5 []) (hf : b_X10_is_67 y0 σ = some (r, τ)) : W p l e rm_X10_is s m args below meth c H locs 0 0 (MQ below (pw_Qi G r τ) args s 0 0 (pw_gA G)) (F0 m 67 ls [.int y0]) := by
  have hx := hC.1
  have hb := hC.2.1
  unfold b_X10_is_67 at hf
  refine lv_istore (lv' := [(4, .int y0)]) hx hb dX10_is_67 hl (by decide) rfl (fun ls hl => ?_)
  refine lv_iload hx hb dX10_is_69 (lv_at hl 0 rfl) ?_
  refine lv_if_eq (tgt := 78) hx hb dX10_is_71 (by decide) (fun hc => ?_) (fun hc => ?_)
  · replace hf := pw_ifp hc hf
    refine lv_iconst (v := 0) hx hb dX10_is_78 (by decide) ?_
    exact pw_iret hC hw hf dX10_is_79
  · replace hf := pw_ifn hc hf
    refine lv_iconst (v := 1) hx hb dX10_is_74 (by decide) ?_
    refine lv_goto (tgt := 79) hx hb dX10_is_75 (by decide) ?_
    exact pw_iret hC hw hf dX10_is_79
set_option maxHeartbeats 4000000 in
set_option maxRecDepth 100000 in
theorem c_X10_is {l : Launch} {G : pw_Gh} {x1 : Int32} {x2 : Int32} {σ : pw_St} {r : Int32} {τ : pw_St} (hf : f_X10_is x1 x2 σ = some (r, τ)) : Met l yX10_is (.code yX10_is cX10_is 5 (some .int) :: pw_BW) rm_X10_is (pw_Pc G [.ref (pw_ad G 0), .int x1, .int x2] σ) (pw_Qi G r τ) 0 0 (pw_gA G) := by
  refine pw_met (by decide +kernel) (Nat.le_of_ble_eq_true rfl) ?_
  intro p e s m args below meth c ls hC hw hl
  replace hl : lv_has ls 5 [(0, .ref (pw_ad G 0)), (1, .int x1), (2, .int x2)] := hl
  have hx := hC.1
  have hb := hC.2.1
  unfold f_X10_is at hf
  refine lv_aload_n hx hb dX10_is_0 rfl (lv_at hl 0 rfl) ?_
  refine pg_0_3 hC hw mw_304 dX10_is_1 ?_
  refine lv_iload_n hx hb dX10_is_4 rfl (lv_at hl 1 rfl) ?_
  obtain ⟨r1, σ1, h1, hf⟩ := pw_bi_some hf
  refine pw_ci hw (pw_runV (As := [.int x1]) (rest := []) hC hw (c_X0_has  h1) mw_601 wm_X0_has ⟨Nat.zero_le _, Nat.zero_le _⟩ ⟨rfl, rfl, Nat.le_of_ble_eq_true rfl, Nat.le_of_ble_eq_true rfl⟩ (by decide) rfl rfl rfl hl.1 rfl (Nat.le_of_ble_eq_true rfl) dX10_is_5) (fun H locs hw => ?_)
  refine lv_if_eq (tgt := 20) hx hb dX10_is_8 (by decide) (fun hc => ?_) (fun hc => ?_)
  · replace hf := pw_ifp hc hf
    refine lv_iconst (v := -1) hx hb dX10_is_20 (by decide) ?_
    exact pw_iret hC hw hf dX10_is_21
  · replace hf := pw_ifn hc hf
    refine lv_iload_n hx hb dX10_is_11 rfl (lv_at hl 2 rfl) ?_
    refine lv_if_lt (tgt := 20) hx hb dX10_is_12 (by decide) (fun hc => ?_) (fun hc => ?_)
    · replace hf := pw_ifp hc hf
      refine lv_iconst (v := -1) hx hb dX10_is_20 (by decide) ?_
      exact pw_iret hC hw hf dX10_is_21
    · replace hf := pw_ifn hc hf
      refine lv_iload_n hx hb dX10_is_15 rfl (lv_at hl 2 rfl) ?_
      refine lv_iconst (v := 2) hx hb dX10_is_16 (by decide) ?_
      refine lv_icmp_le (tgt := 22) hx hb dX10_is_17 (by decide) (fun hc => ?_) (fun hc => ?_)
      · replace hf := pw_ifp hc hf
        refine lv_aload_n hx hb dX10_is_22 rfl (lv_at hl 0 rfl) ?_
        refine lv_iload_n hx hb dX10_is_23 rfl (lv_at hl 1 rfl) ?_
        obtain ⟨σ2, h2, hf⟩ := pw_bv_some hf
        refine pw_cr hw (pw_runV (As := [.int x1]) (rest := []) hC hw (c_X10_markedNet  h2) mw_631 wm_X10_markedNet ⟨Nat.zero_le _, Nat.zero_le _⟩ ⟨rfl, rfl, Nat.le_of_ble_eq_true rfl, Nat.le_of_ble_eq_true rfl⟩ (by decide) rfl rfl rfl hl.1 rfl (Nat.le_of_ble_eq_true rfl) dX10_is_24) (fun H locs hw => ?_)
        refine lv_astore_n (lv' := [(3, .ref (pw_ad G 3)), (0, .ref (pw_ad G 0)), (1, .int x1), (2, .int x2)]) hx hb dX10_is_27 rfl hl (by decide) rfl (fun ls hl => ?_)
        refine lv_iload_n hx hb dX10_is_28 rfl (lv_at hl 3 rfl) ?_
        refine lv_if_ne (tgt := 43) hx hb dX10_is_29 (by decide) (fun hc => ?_) (fun hc => ?_)
        · replace hf := pw_ifn hc hf
          refine lv_iload_n hx hb dX10_is_43 rfl (lv_at hl 3 rfl) ?_
          refine lv_iconst (v := 1) hx hb dX10_is_44 (by decide) ?_
          refine lv_icmp_ne (tgt := 59) hx hb dX10_is_45 (by decide) (fun hc => ?_) (fun hc => ?_)
          · replace hf := pw_ifn hc hf
            refine lv_aload_n hx hb dX10_is_59 rfl (lv_at hl 1 rfl) ?_
            refine pg_0_5 hC hw mw_306 dX10_is_60 ?_
            refine lv_aload_n hx hb dX10_is_63 rfl (lv_at hl 0 rfl) ?_
            obtain ⟨r3, σ3, h3, hf⟩ := pw_bi_some hf
            refine pw_ci hw (pw_runV (As := [.ref (pw_ad G 3)]) (rest := []) hC hw (c_X4_areJoined  h3) mw_696 wm_X4_areJoined ⟨Nat.zero_le _, Nat.zero_le _⟩ ⟨rfl, rfl, Nat.le_of_ble_eq_true rfl, Nat.le_of_ble_eq_true rfl⟩ (by decide) rfl rfl rfl hl.1 rfl (Nat.le_of_ble_eq_true rfl) dX10_is_64) (fun H locs hw => ?_)
            exact t_X10_is_67 hC   hw (lv_sub hl [] rfl) hf
          · replace hf := pw_ifp hc hf
            refine lv_aload_n hx hb dX10_is_48 rfl (lv_at hl 1 rfl) ?_
            refine pg_0_5 hC hw mw_306 dX10_is_49 ?_
            refine lv_aload_n hx hb dX10_is_52 rfl (lv_at hl 0 rfl) ?_
            obtain ⟨r4, σ4, h4, hf⟩ := pw_bi_some hf
            refine pw_ci hw (pw_runV (As := [.ref (pw_ad G 3)]) (rest := []) hC hw (c_X4_areMet  h4) mw_683 wm_X4_areMet ⟨Nat.zero_le _, Nat.zero_le _⟩ ⟨rfl, rfl, Nat.le_of_ble_eq_true rfl, Nat.le_of_ble_eq_true rfl⟩ (by decide) rfl rfl rfl hl.1 rfl (Nat.le_of_ble_eq_true rfl) dX10_is_53) (fun H locs hw => ?_)
            refine lv_goto (tgt := 67) hx hb dX10_is_56 (by decide) ?_
            exact t_X10_is_67 hC   hw (lv_sub hl [] rfl) hf
        · replace hf := pw_ifp hc hf
          refine lv_aload_n hx hb dX10_is_32 rfl (lv_at hl 1 rfl) ?_
          refine pg_0_5 hC hw mw_306 dX10_is_33 ?_
          refine lv_aload_n hx hb dX10_is_36 rfl (lv_at hl 0 rfl) ?_
          obtain ⟨r5, σ5, h5, hf⟩ := pw_bi_some hf
          refine pw_ci hw (pw_runV (As := [.ref (pw_ad G 3)]) (rest := []) hC hw (c_X4_areKept  h5) mw_678 wm_X4_areKept ⟨Nat.zero_le _, Nat.zero_le _⟩ ⟨rfl, rfl, Nat.le_of_ble_eq_true rfl, Nat.le_of_ble_eq_true rfl⟩ (by decide) rfl rfl rfl hl.1 rfl (Nat.le_of_ble_eq_true rfl) dX10_is_37) (fun H locs hw => ?_)
          refine lv_goto (tgt := 67) hx hb dX10_is_40 (by decide) ?_
          exact t_X10_is_67 hC   hw (lv_sub hl [] rfl) hf
      · replace hf := pw_ifn hc hf
        refine lv_iconst (v := -1) hx hb dX10_is_20 (by decide) ?_
        exact pw_iret hC hw hf dX10_is_21
-- PerhapsWas before
def f_X10_before (x1 : Int32) (x2 : Int32) (σ : pw_St) : Option (Int32 × pw_St) := (pw_bi (f_X0_has x1 σ) fun r1 σ1 => (if r1 = 0 then (some ((-1 : Int32), σ1)) else (pw_bi (f_X0_has x2 σ1) fun r2 σ2 => (if r2 = 0 then (some ((-1 : Int32), σ2)) else (pw_bv (f_X10_markedNet x1 σ2) fun σ3 => (if pw_in x2 8 = true then (pw_bl (f_X9_fillUntil (x2.toNatClampNeg + 6) σ3) fun r5 σ5 => (if (lg_cmp r5 (0 : Int64)) = 0 then (some ((1 : Int32), σ5)) else (some ((0 : Int32), σ5)))) else none))))))
def rm_X10_before : Room := { frames := 5, cells := 0, slots := 0, locals := 123 }
set_option maxHeartbeats 4000000 in
set_option maxRecDepth 100000 in
theorem c_X10_before {l : Launch} {G : pw_Gh} {x1 : Int32} {x2 : Int32} {σ : pw_St} {r : Int32} {τ : pw_St} (hf : f_X10_before x1 x2 σ = some (r, τ)) : Met l yX10_before (.code yX10_before cX10_before 5 (some .int) :: pw_BW) rm_X10_before (pw_Pc G [.ref (pw_ad G 0), .int x1, .int x2] σ) (pw_Qi G r τ) 0 0 (pw_gA G) := by
  refine pw_met (by decide +kernel) (Nat.le_of_ble_eq_true rfl) ?_
  intro p e s m args below meth c ls hC hw hl
  replace hl : lv_has ls 5 [(0, .ref (pw_ad G 0)), (1, .int x1), (2, .int x2)] := hl
  have hx := hC.1
  have hb := hC.2.1
  unfold f_X10_before at hf
  refine lv_aload_n hx hb dX10_before_0 rfl (lv_at hl 0 rfl) ?_
  refine pg_0_3 hC hw mw_304 dX10_before_1 ?_
  refine lv_iload_n hx hb dX10_before_4 rfl (lv_at hl 1 rfl) ?_
  obtain ⟨r1, σ1, h1, hf⟩ := pw_bi_some hf
  refine pw_ci hw (pw_runV (As := [.int x1]) (rest := []) hC hw (c_X0_has  h1) mw_601 wm_X0_has ⟨Nat.zero_le _, Nat.zero_le _⟩ ⟨rfl, rfl, Nat.le_of_ble_eq_true rfl, Nat.le_of_ble_eq_true rfl⟩ (by decide) rfl rfl rfl hl.1 rfl (Nat.le_of_ble_eq_true rfl) dX10_before_5) (fun H locs hw => ?_)
  refine lv_if_eq (tgt := 22) hx hb dX10_before_8 (by decide) (fun hc => ?_) (fun hc => ?_)
  · replace hf := pw_ifp hc hf
    refine lv_iconst (v := -1) hx hb dX10_before_22 (by decide) ?_
    exact pw_iret hC hw hf dX10_before_23
  · replace hf := pw_ifn hc hf
    refine lv_aload_n hx hb dX10_before_11 rfl (lv_at hl 0 rfl) ?_
    refine pg_0_3 hC hw mw_304 dX10_before_12 ?_
    refine lv_iload_n hx hb dX10_before_15 rfl (lv_at hl 2 rfl) ?_
    obtain ⟨r2, σ2, h2, hf⟩ := pw_bi_some hf
    refine pw_ci hw (pw_runV (As := [.int x2]) (rest := []) hC hw (c_X0_has  h2) mw_601 wm_X0_has ⟨Nat.zero_le _, Nat.zero_le _⟩ ⟨rfl, rfl, Nat.le_of_ble_eq_true rfl, Nat.le_of_ble_eq_true rfl⟩ (by decide) rfl rfl rfl hl.1 rfl (Nat.le_of_ble_eq_true rfl) dX10_before_16) (fun H locs hw => ?_)
    refine lv_if_ne (tgt := 24) hx hb dX10_before_19 (by decide) (fun hc => ?_) (fun hc => ?_)
    · replace hf := pw_ifn hc hf
      refine lv_aload_n hx hb dX10_before_24 rfl (lv_at hl 0 rfl) ?_
      refine pg_0_6 hC hw mw_307 dX10_before_25 ?_
      refine lv_aload_n hx hb dX10_before_28 rfl (lv_at hl 0 rfl) ?_
      refine lv_iload_n hx hb dX10_before_29 rfl (lv_at hl 1 rfl) ?_
      obtain ⟨σ3, h3, hf⟩ := pw_bv_some hf
      refine pw_cr hw (pw_runV (As := [.int x1]) (rest := [.ref (pw_ad G 8)]) hC hw (c_X10_markedNet  h3) mw_631 wm_X10_markedNet ⟨Nat.zero_le _, Nat.zero_le _⟩ ⟨rfl, rfl, Nat.le_of_ble_eq_true rfl, Nat.le_of_ble_eq_true rfl⟩ (by decide) rfl rfl rfl hl.1 rfl (Nat.le_of_ble_eq_true rfl) dX10_before_30) (fun H locs hw => ?_)
      refine lv_aload_n hx hb dX10_before_33 rfl (lv_at hl 0 rfl) ?_
      refine pg_0_5 hC hw mw_306 dX10_before_34 ?_
      refine pg_7_1 hC hw mw_267 dX10_before_37 ?_
      refine lv_aload_n hx hb dX10_before_40 rfl (lv_at hl 0 rfl) ?_
      refine pg_0_4 hC hw mw_305 dX10_before_41 ?_
      refine lv_aload_n hx hb dX10_before_44 rfl (lv_at hl 0 rfl) ?_
      refine pg_0_3 hC hw mw_304 dX10_before_45 ?_
      refine pg_5_0 hC hw mw_235 dX10_before_48 ?_
      refine lv_iload_n hx hb dX10_before_51 rfl (lv_at hl 2 rfl) ?_
      obtain ⟨hin, hf⟩ := pw_gd hf
      have hn4 : (x2.toNatClampNeg + 6) < 14 := pw_fb hin (by decide)
      refine pw_fld hC hw ca_27 hin dX10_before_52 ?_
      obtain ⟨r5, σ5, h5, hf⟩ := pw_bl_some hf
      refine pw_cl hw (pw_runV (As := [.ref (pw_ad G 3), .ref (pw_ad G 30), .ref (pw_ad G 6), .ref (pw_ad G (4 * (x2.toNatClampNeg + 6) + 54))]) (rest := []) hC hw (c_X9_fillUntil hn4 h5) mw_704 wm_X9_fillUntil ⟨Nat.zero_le _, Nat.zero_le _⟩ ⟨rfl, rfl, Nat.le_of_ble_eq_true rfl, Nat.le_of_ble_eq_true rfl⟩ (by decide) rfl rfl rfl hl.1 rfl (Nat.le_of_ble_eq_true rfl) dX10_before_53) (fun H locs hw => ?_)
      refine lv_lstore_n (lv' := [(3, .long r5), (0, .ref (pw_ad G 0)), (1, .int x1), (2, .int x2)]) hx hb dX10_before_56 rfl hl (by decide) rfl (fun ls hl => ?_)
      refine lv_lload_n hx hb dX10_before_57 rfl (lv_at hl 0 rfl) ?_
      refine lv_lconst (v := 0) hx hb dX10_before_58 (by decide) ?_
      refine W.lcmp hx hb dX10_before_59 ?_
      refine lv_if_ne (tgt := 67) hx hb dX10_before_60 (by decide) (fun hc => ?_) (fun hc => ?_)
      · replace hf := pw_ifn hc hf
        refine lv_iconst (v := 0) hx hb dX10_before_67 (by decide) ?_
        exact pw_iret hC hw hf dX10_before_68
      · replace hf := pw_ifp hc hf
        refine lv_iconst (v := 1) hx hb dX10_before_63 (by decide) ?_
        refine lv_goto (tgt := 68) hx hb dX10_before_64 (by decide) ?_
        exact pw_iret hC hw hf dX10_before_68
    · replace hf := pw_ifp hc hf
      refine lv_iconst (v := -1) hx hb dX10_before_22 (by decide) ?_
      exact pw_iret hC hw hf dX10_before_23
-- PerhapsWas say
def f_X10_say (x1 : Int32) (σ : pw_St) : Option (Int32 × pw_St) := (pw_bi (f_X10_mayBeProcess x1 σ) fun r1 σ1 => (if r1 = 0 then (some ((-2 : Int32), σ1)) else (if (σ1.1 9 1) < (24 : Int32) then (pw_bi (f_X8_append x1 σ1) fun r2 σ2 => (some (r2, σ2))) else (some ((-4 : Int32), σ1)))))
def rm_X10_say : Room := { frames := 1, cells := 0, slots := 0, locals := 21 }
set_option maxHeartbeats 4000000 in
set_option maxRecDepth 100000 in
theorem c_X10_say {l : Launch} {G : pw_Gh} {x1 : Int32} {σ : pw_St} {r : Int32} {τ : pw_St} (hf : f_X10_say x1 σ = some (r, τ)) : Met l yX10_say (.code yX10_say cX10_say 2 (some .int) :: pw_BW) rm_X10_say (pw_Pc G [.ref (pw_ad G 0), .int x1] σ) (pw_Qi G r τ) 0 0 (pw_gA G) := by
  refine pw_met (by decide +kernel) (Nat.le_of_ble_eq_true rfl) ?_
  intro p e s m args below meth c ls hC hw hl
  replace hl : lv_has ls 2 [(0, .ref (pw_ad G 0)), (1, .int x1)] := hl
  have hx := hC.1
  have hb := hC.2.1
  unfold f_X10_say at hf
  refine lv_iload_n hx hb dX10_say_0 rfl (lv_at hl 1 rfl) ?_
  obtain ⟨r1, σ1, h1, hf⟩ := pw_bi_some hf
  refine pw_ci hw (pw_runS (As := [.int x1]) (rest := []) hC hw (c_X10_mayBeProcess  h1) mw_560 wm_X10_mayBeProcess ⟨Nat.zero_le _, Nat.zero_le _⟩ ⟨rfl, rfl, Nat.le_of_ble_eq_true rfl, Nat.le_of_ble_eq_true rfl⟩ rfl hl.1 rfl (Nat.le_of_ble_eq_true rfl) dX10_say_1) (fun H locs hw => ?_)
  refine lv_if_ne (tgt := 10) hx hb dX10_say_4 (by decide) (fun hc => ?_) (fun hc => ?_)
  · replace hf := pw_ifn hc hf
    refine lv_aload_n hx hb dX10_say_10 rfl (lv_at hl 0 rfl) ?_
    refine pg_0_7 hC hw mw_308 dX10_say_11 ?_
    refine pg_9_1 hC hw mw_295 dX10_say_14 ?_
    refine lv_bipush (v := 24) hx hb dX10_say_17 (by decide) ?_
    refine lv_icmp_lt (tgt := 27) hx hb dX10_say_19 (by decide) (fun hc => ?_) (fun hc => ?_)
    · replace hf := pw_ifp hc hf
      refine lv_aload_n hx hb dX10_say_27 rfl (lv_at hl 0 rfl) ?_
      refine pg_0_7 hC hw mw_308 dX10_say_28 ?_
      refine lv_iload_n hx hb dX10_say_31 rfl (lv_at hl 1 rfl) ?_
      obtain ⟨r2, σ2, h2, hf⟩ := pw_bi_some hf
      refine pw_ci hw (pw_runV (As := [.int x1]) (rest := []) hC hw (c_X8_append  h2) mw_713 wm_X8_append ⟨Nat.zero_le _, Nat.zero_le _⟩ ⟨rfl, rfl, Nat.le_of_ble_eq_true rfl, Nat.le_of_ble_eq_true rfl⟩ (by decide) rfl rfl rfl hl.1 rfl (Nat.le_of_ble_eq_true rfl) dX10_say_32) (fun H locs hw => ?_)
      exact pw_iret hC hw hf dX10_say_35
    · replace hf := pw_ifn hc hf
      refine lv_bipush (v := -4) hx hb dX10_say_22 (by decide) ?_
      refine lv_goto (tgt := 35) hx hb dX10_say_24 (by decide) ?_
      exact pw_iret hC hw hf dX10_say_35
  · replace hf := pw_ifp hc hf
    refine lv_bipush (v := -2) hx hb dX10_say_7 (by decide) ?_
    exact pw_iret hC hw hf dX10_say_9
-- PerhapsWas check
def f_X10_check (σ : pw_St) : Option (Int32 × pw_St) := (pw_bv (f_X10_freshNet σ) fun σ1 => (pw_bi (f_X8_rightPlaces σ1) fun r2 σ2 => (pw_lt (pw_sM σ2 9 1 (0 : Int32)) fun σ3 => (if r2 = (σ.1 9 1) then (if (σ.1 9 1) = (σ3.1 1 9) then (some ((100 : Int32), σ3)) else (some (r2, σ3))) else (some (r2, σ3))))))
def rm_X10_check : Room := { frames := 4, cells := 0, slots := 0, locals := 88 }
set_option maxHeartbeats 4000000 in
set_option maxRecDepth 100000 in
theorem c_X10_check {l : Launch} {G : pw_Gh} {σ : pw_St} {r : Int32} {τ : pw_St} (hf : f_X10_check σ = some (r, τ)) : Met l yX10_check (.code yX10_check cX10_check 3 (some .int) :: pw_BW) rm_X10_check (pw_Pc G [.ref (pw_ad G 0)] σ) (pw_Qi G r τ) 0 0 (pw_gA G) := by
  refine pw_met (by decide +kernel) (Nat.le_of_ble_eq_true rfl) ?_
  intro p e s m args below meth c ls hC hw hl
  replace hl : lv_has ls 3 [(0, .ref (pw_ad G 0))] := hl
  have hx := hC.1
  have hb := hC.2.1
  unfold f_X10_check at hf
  refine lv_aload_n hx hb dX10_check_0 rfl (lv_at hl 0 rfl) ?_
  refine pg_0_7 hC hw mw_308 dX10_check_1 ?_
  refine pg_9_1 hC hw mw_295 dX10_check_4 ?_
  refine lv_istore_n (lv' := [(1, .int (σ.1 9 1)), (0, .ref (pw_ad G 0))]) hx hb dX10_check_7 rfl hl (by decide) rfl (fun ls hl => ?_)
  refine lv_aload_n hx hb dX10_check_8 rfl (lv_at hl 1 rfl) ?_
  refine pg_0_7 hC hw mw_308 dX10_check_9 ?_
  refine lv_aload_n hx hb dX10_check_12 rfl (lv_at hl 1 rfl) ?_
  obtain ⟨σ1, h1, hf⟩ := pw_bv_some hf
  refine pw_cr hw (pw_runV (As := []) (rest := [.ref (pw_ad G 9)]) hC hw (c_X10_freshNet  h1) mw_445 wm_X10_freshNet ⟨Nat.zero_le _, Nat.zero_le _⟩ ⟨rfl, rfl, Nat.le_of_ble_eq_true rfl, Nat.le_of_ble_eq_true rfl⟩ (by decide) rfl rfl rfl hl.1 rfl (Nat.le_of_ble_eq_true rfl) dX10_check_13) (fun H locs hw => ?_)
  obtain ⟨r2, σ2, h2, hf⟩ := pw_bi_some hf
  refine pw_ci hw (pw_runV (As := [.ref (pw_ad G 3)]) (rest := []) hC hw (c_X8_rightPlaces  h2) mw_721 wm_X8_rightPlaces ⟨Nat.zero_le _, Nat.zero_le _⟩ ⟨rfl, rfl, Nat.le_of_ble_eq_true rfl, Nat.le_of_ble_eq_true rfl⟩ (by decide) rfl rfl rfl hl.1 rfl (Nat.le_of_ble_eq_true rfl) dX10_check_16) (fun H locs hw => ?_)
  refine lv_istore_n (lv' := [(2, .int r2), (1, .int (σ.1 9 1)), (0, .ref (pw_ad G 0))]) hx hb dX10_check_19 rfl hl (by decide) rfl (fun ls hl => ?_)
  refine lv_aload_n hx hb dX10_check_20 rfl (lv_at hl 2 rfl) ?_
  refine pg_0_7 hC hw mw_308 dX10_check_21 ?_
  refine lv_iconst (v := 0) hx hb dX10_check_24 (by decide) ?_
  refine pp_9_1 hC hw mw_295 dX10_check_25 (fun H locs hw => ?_)
  obtain ⟨σ3, e3, hf⟩ := pw_lts hf
  replace hw := pw_WHe e3 hw
  refine lv_iload_n hx hb dX10_check_28 rfl (lv_at hl 0 rfl) ?_
  refine lv_iload_n hx hb dX10_check_29 rfl (lv_at hl 1 rfl) ?_
  refine lv_icmp_ne (tgt := 49) hx hb dX10_check_30 (by decide) (fun hc => ?_) (fun hc => ?_)
  · replace hf := pw_ifn hc hf
    refine lv_iload_n hx hb dX10_check_49 rfl (lv_at hl 0 rfl) ?_
    exact pw_iret hC hw hf dX10_check_50
  · replace hf := pw_ifp hc hf
    refine lv_iload_n hx hb dX10_check_33 rfl (lv_at hl 1 rfl) ?_
    refine lv_aload_n hx hb dX10_check_34 rfl (lv_at hl 2 rfl) ?_
    refine pg_0_0 hC hw mw_301 dX10_check_35 ?_
    refine pg_1_9 hC hw mw_118 dX10_check_38 ?_
    refine lv_icmp_ne (tgt := 49) hx hb dX10_check_41 (by decide) (fun hc => ?_) (fun hc => ?_)
    · replace hf := pw_ifn hc hf
      refine lv_iload_n hx hb dX10_check_49 rfl (lv_at hl 0 rfl) ?_
      exact pw_iret hC hw hf dX10_check_50
    · replace hf := pw_ifp hc hf
      refine lv_bipush (v := 100) hx hb dX10_check_44 (by decide) ?_
      refine lv_goto (tgt := 50) hx hb dX10_check_46 (by decide) ?_
      exact pw_iret hC hw hf dX10_check_50
-- PerhapsWas passes
def f_X10_passes (x1 : Int32) (σ : pw_St) : Option (Int32 × pw_St) := (pw_bi (f_X0_has x1 σ) fun r1 σ1 => (if r1 = 0 then (some ((-1 : Int32), σ1)) else (pw_bv (f_X10_freshNet σ1) fun σ2 => (pw_bi (f_X8_rightPlaces σ2) fun r3 σ3 => (if (σ3.1 9 1) ≤ r3 then (if pw_in x1 8 = true then (pw_bi (f_X8_firstAt (x1.toNatClampNeg + 6) σ3) fun r5 σ5 => (some (r5, σ5))) else none) else (some ((-3 : Int32), σ3)))))))
def rm_X10_passes : Room := { frames := 4, cells := 0, slots := 0, locals := 101 }
set_option maxHeartbeats 4000000 in
set_option maxRecDepth 100000 in
theorem c_X10_passes {l : Launch} {G : pw_Gh} {x1 : Int32} {σ : pw_St} {r : Int32} {τ : pw_St} (hf : f_X10_passes x1 σ = some (r, τ)) : Met l yX10_passes (.code yX10_passes cX10_passes 2 (some .int) :: pw_BW) rm_X10_passes (pw_Pc G [.ref (pw_ad G 0), .int x1] σ) (pw_Qi G r τ) 0 0 (pw_gA G) := by
  refine pw_met (by decide +kernel) (Nat.le_of_ble_eq_true rfl) ?_
  intro p e s m args below meth c ls hC hw hl
  replace hl : lv_has ls 2 [(0, .ref (pw_ad G 0)), (1, .int x1)] := hl
  have hx := hC.1
  have hb := hC.2.1
  unfold f_X10_passes at hf
  refine lv_aload_n hx hb dX10_passes_0 rfl (lv_at hl 0 rfl) ?_
  refine pg_0_3 hC hw mw_304 dX10_passes_1 ?_
  refine lv_iload_n hx hb dX10_passes_4 rfl (lv_at hl 1 rfl) ?_
  obtain ⟨r1, σ1, h1, hf⟩ := pw_bi_some hf
  refine pw_ci hw (pw_runV (As := [.int x1]) (rest := []) hC hw (c_X0_has  h1) mw_601 wm_X0_has ⟨Nat.zero_le _, Nat.zero_le _⟩ ⟨rfl, rfl, Nat.le_of_ble_eq_true rfl, Nat.le_of_ble_eq_true rfl⟩ (by decide) rfl rfl rfl hl.1 rfl (Nat.le_of_ble_eq_true rfl) dX10_passes_5) (fun H locs hw => ?_)
  refine lv_if_ne (tgt := 13) hx hb dX10_passes_8 (by decide) (fun hc => ?_) (fun hc => ?_)
  · replace hf := pw_ifn hc hf
    refine lv_aload_n hx hb dX10_passes_13 rfl (lv_at hl 0 rfl) ?_
    refine pg_0_7 hC hw mw_308 dX10_passes_14 ?_
    refine lv_aload_n hx hb dX10_passes_17 rfl (lv_at hl 0 rfl) ?_
    obtain ⟨σ2, h2, hf⟩ := pw_bv_some hf
    refine pw_cr hw (pw_runV (As := []) (rest := [.ref (pw_ad G 9)]) hC hw (c_X10_freshNet  h2) mw_445 wm_X10_freshNet ⟨Nat.zero_le _, Nat.zero_le _⟩ ⟨rfl, rfl, Nat.le_of_ble_eq_true rfl, Nat.le_of_ble_eq_true rfl⟩ (by decide) rfl rfl rfl hl.1 rfl (Nat.le_of_ble_eq_true rfl) dX10_passes_18) (fun H locs hw => ?_)
    obtain ⟨r3, σ3, h3, hf⟩ := pw_bi_some hf
    refine pw_ci hw (pw_runV (As := [.ref (pw_ad G 3)]) (rest := []) hC hw (c_X8_rightPlaces  h3) mw_721 wm_X8_rightPlaces ⟨Nat.zero_le _, Nat.zero_le _⟩ ⟨rfl, rfl, Nat.le_of_ble_eq_true rfl, Nat.le_of_ble_eq_true rfl⟩ (by decide) rfl rfl rfl hl.1 rfl (Nat.le_of_ble_eq_true rfl) dX10_passes_21) (fun H locs hw => ?_)
    refine lv_aload_n hx hb dX10_passes_24 rfl (lv_at hl 0 rfl) ?_
    refine pg_0_7 hC hw mw_308 dX10_passes_25 ?_
    refine pg_9_1 hC hw mw_295 dX10_passes_28 ?_
    refine lv_icmp_ge (tgt := 37) hx hb dX10_passes_31 (by decide) (fun hc => ?_) (fun hc => ?_)
    · replace hf := pw_ifp hc hf
      refine lv_aload_n hx hb dX10_passes_37 rfl (lv_at hl 0 rfl) ?_
      refine pg_0_7 hC hw mw_308 dX10_passes_38 ?_
      refine lv_aload_n hx hb dX10_passes_41 rfl (lv_at hl 0 rfl) ?_
      refine pg_0_4 hC hw mw_305 dX10_passes_42 ?_
      refine lv_aload_n hx hb dX10_passes_45 rfl (lv_at hl 0 rfl) ?_
      refine pg_0_3 hC hw mw_304 dX10_passes_46 ?_
      refine pg_5_0 hC hw mw_235 dX10_passes_49 ?_
      refine lv_iload_n hx hb dX10_passes_52 rfl (lv_at hl 1 rfl) ?_
      obtain ⟨hin, hf⟩ := pw_gd hf
      have hn4 : (x1.toNatClampNeg + 6) < 14 := pw_fb hin (by decide)
      refine pw_fld hC hw ca_27 hin dX10_passes_53 ?_
      obtain ⟨r5, σ5, h5, hf⟩ := pw_bi_some hf
      refine pw_ci hw (pw_runV (As := [.ref (pw_ad G 6), .ref (pw_ad G (4 * (x1.toNatClampNeg + 6) + 54))]) (rest := []) hC hw (c_X8_firstAt hn4 h5) mw_730 wm_X8_firstAt ⟨Nat.zero_le _, Nat.zero_le _⟩ ⟨rfl, rfl, Nat.le_of_ble_eq_true rfl, Nat.le_of_ble_eq_true rfl⟩ (by decide) rfl rfl rfl hl.1 rfl (Nat.le_of_ble_eq_true rfl) dX10_passes_54) (fun H locs hw => ?_)
      exact pw_iret hC hw hf dX10_passes_57
    · replace hf := pw_ifn hc hf
      refine lv_bipush (v := -3) hx hb dX10_passes_34 (by decide) ?_
      exact pw_iret hC hw hf dX10_passes_36
  · replace hf := pw_ifp hc hf
    refine lv_iconst (v := -1) hx hb dX10_passes_11 (by decide) ?_
    exact pw_iret hC hw hf dX10_passes_12
-- PerhapsWas count
def f_X10_count (x1 : Int32) (σ : pw_St) : Option (Int32 × pw_St) := (if x1 = 0 then (some ((σ.1 1 8), σ)) else (if x1 = 1 then (some ((σ.1 1 9), σ)) else (if x1 = 2 then (some ((σ.1 2 4), σ)) else (if x1 = 3 then (pw_bi (f_X3_howManyUntaken σ) fun r1 σ1 => (some (r1, σ1))) else (if x1 = 4 then (some ((σ.1 5 1), σ)) else (if x1 = 5 then (some ((σ.1 4 1), σ)) else (if x1 = 6 then (some ((σ.1 9 1), σ)) else (some ((-1 : Int32), σ)))))))))
def rm_X10_count : Room := { frames := 1, cells := 0, slots := 0, locals := 22 }
set_option maxHeartbeats 4000000 in
set_option maxRecDepth 100000 in
theorem c_X10_count {l : Launch} {G : pw_Gh} {x1 : Int32} {σ : pw_St} {r : Int32} {τ : pw_St} (hf : f_X10_count x1 σ = some (r, τ)) : Met l yX10_count (.code yX10_count cX10_count 2 (some .int) :: pw_BW) rm_X10_count (pw_Pc G [.ref (pw_ad G 0), .int x1] σ) (pw_Qi G r τ) 0 0 (pw_gA G) := by
  refine pw_met (by decide +kernel) (Nat.le_of_ble_eq_true rfl) ?_
  intro p e s m args below meth c ls hC hw hl
  replace hl : lv_has ls 2 [(0, .ref (pw_ad G 0)), (1, .int x1)] := hl
  have hx := hC.1
  have hb := hC.2.1
  unfold f_X10_count at hf
  refine lv_iload_n hx hb dX10_count_0 rfl (lv_at hl 1 rfl) ?_
  by_cases hc0 : x1 = 0
  · replace hf := pw_ifp hc0 hf
    refine lv_tableIn (off := 43) (tgt := 44) hx hb dX10_count_1 (by rw [hc0]; decide) (by rw [hc0]; decide) (by rw [hc0]; decide) (by decide) ?_
    refine lv_aload_n hx hb dX10_count_44 rfl (lv_at hl 0 rfl) ?_
    refine pg_0_0 hC hw mw_301 dX10_count_45 ?_
    refine pg_1_8 hC hw mw_116 dX10_count_48 ?_
    exact pw_iret hC hw hf dX10_count_51
  replace hf := pw_ifn hc0 hf
  by_cases hc1 : x1 = 1
  · replace hf := pw_ifp hc1 hf
    refine lv_tableIn (off := 51) (tgt := 52) hx hb dX10_count_1 (by rw [hc1]; decide) (by rw [hc1]; decide) (by rw [hc1]; decide) (by decide) ?_
    refine lv_aload_n hx hb dX10_count_52 rfl (lv_at hl 0 rfl) ?_
    refine pg_0_0 hC hw mw_301 dX10_count_53 ?_
    refine pg_1_9 hC hw mw_118 dX10_count_56 ?_
    exact pw_iret hC hw hf dX10_count_59
  replace hf := pw_ifn hc1 hf
  by_cases hc2 : x1 = 2
  · replace hf := pw_ifp hc2 hf
    refine lv_tableIn (off := 59) (tgt := 60) hx hb dX10_count_1 (by rw [hc2]; decide) (by rw [hc2]; decide) (by rw [hc2]; decide) (by decide) ?_
    refine lv_aload_n hx hb dX10_count_60 rfl (lv_at hl 0 rfl) ?_
    refine pg_0_0 hC hw mw_301 dX10_count_61 ?_
    refine pg_1_0 hC hw mw_102 dX10_count_64 ?_
    refine pg_2_4 hC hw mw_87 dX10_count_67 ?_
    exact pw_iret hC hw hf dX10_count_70
  replace hf := pw_ifn hc2 hf
  by_cases hc3 : x1 = 3
  · replace hf := pw_ifp hc3 hf
    refine lv_tableIn (off := 70) (tgt := 71) hx hb dX10_count_1 (by rw [hc3]; decide) (by rw [hc3]; decide) (by rw [hc3]; decide) (by decide) ?_
    refine lv_aload_n hx hb dX10_count_71 rfl (lv_at hl 0 rfl) ?_
    refine pg_0_0 hC hw mw_301 dX10_count_72 ?_
    refine pg_1_0 hC hw mw_102 dX10_count_75 ?_
    obtain ⟨r1, σ1, h1, hf⟩ := pw_bi_some hf
    refine pw_ci hw (pw_runV (As := []) (rest := []) hC hw (c_X3_howManyUntaken  h1) mw_740 wm_X3_howManyUntaken ⟨Nat.zero_le _, Nat.zero_le _⟩ ⟨rfl, rfl, Nat.le_of_ble_eq_true rfl, Nat.le_of_ble_eq_true rfl⟩ (by decide) rfl rfl rfl hl.1 rfl (Nat.le_of_ble_eq_true rfl) dX10_count_78) (fun H locs hw => ?_)
    exact pw_iret hC hw hf dX10_count_81
  replace hf := pw_ifn hc3 hf
  by_cases hc4 : x1 = 4
  · replace hf := pw_ifp hc4 hf
    refine lv_tableIn (off := 81) (tgt := 82) hx hb dX10_count_1 (by rw [hc4]; decide) (by rw [hc4]; decide) (by rw [hc4]; decide) (by decide) ?_
    refine lv_aload_n hx hb dX10_count_82 rfl (lv_at hl 0 rfl) ?_
    refine pg_0_3 hC hw mw_304 dX10_count_83 ?_
    refine pg_5_1 hC hw mw_237 dX10_count_86 ?_
    exact pw_iret hC hw hf dX10_count_89
  replace hf := pw_ifn hc4 hf
  by_cases hc5 : x1 = 5
  · replace hf := pw_ifp hc5 hf
    refine lv_tableIn (off := 89) (tgt := 90) hx hb dX10_count_1 (by rw [hc5]; decide) (by rw [hc5]; decide) (by rw [hc5]; decide) (by decide) ?_
    refine lv_aload_n hx hb dX10_count_90 rfl (lv_at hl 0 rfl) ?_
    refine pg_0_2 hC hw mw_303 dX10_count_91 ?_
    refine pg_4_1 hC hw mw_220 dX10_count_94 ?_
    exact pw_iret hC hw hf dX10_count_97
  replace hf := pw_ifn hc5 hf
  by_cases hc6 : x1 = 6
  · replace hf := pw_ifp hc6 hf
    refine lv_tableIn (off := 97) (tgt := 98) hx hb dX10_count_1 (by rw [hc6]; decide) (by rw [hc6]; decide) (by rw [hc6]; decide) (by decide) ?_
    refine lv_aload_n hx hb dX10_count_98 rfl (lv_at hl 0 rfl) ?_
    refine pg_0_7 hC hw mw_308 dX10_count_99 ?_
    refine pg_9_1 hC hw mw_295 dX10_count_102 ?_
    exact pw_iret hC hw hf dX10_count_105
  replace hf := pw_ifn hc6 hf
  refine lv_tableOut (tgt := 106) hx hb dX10_count_1 (by have hq := And.intro (pw_ti hc0 (z := 0) (by decide)) (And.intro (pw_ti hc1 (z := 1) (by decide)) (And.intro (pw_ti hc2 (z := 2) (by decide)) (And.intro (pw_ti hc3 (z := 3) (by decide)) (And.intro (pw_ti hc4 (z := 4) (by decide)) (And.intro (pw_ti hc5 (z := 5) (by decide)) (pw_ti hc6 (z := 6) (by decide))))))); omega) (by decide) ?_
  refine lv_iconst (v := -1) hx hb dX10_count_106 (by decide) ?_
  exact pw_iret hC hw hf dX10_count_107
-- PerhapsWasModel in
def f_X11_in (x0 : Int32) (x1 : Int32) (x2 : Int32) (σ : pw_St) : Option (Int32 × pw_St) := (if x0 < x1 then (if pw_isb (0 : Int32) = true then some ((0 : Int32), σ) else none) else (if x2 < x0 then (if pw_isb (0 : Int32) = true then some ((0 : Int32), σ) else none) else (if pw_isb (1 : Int32) = true then some ((1 : Int32), σ) else none)))
def rm_X11_in : Room := { frames := 0, cells := 0, slots := 0, locals := 0 }
set_option maxHeartbeats 4000000 in
set_option maxRecDepth 100000 in
theorem c_X11_in {l : Launch} {G : pw_Gh} {x0 : Int32} {x1 : Int32} {x2 : Int32} {σ : pw_St} {r : Int32} {τ : pw_St} (hf : f_X11_in x0 x1 x2 σ = some (r, τ)) : Met l yX11_in (.code yX11_in cX11_in 3 (some .boolean) :: pw_BW) rm_X11_in (pw_Pc G [.int x0, .int x1, .int x2] σ) (pw_Qi G r τ) 0 0 (pw_gA G) := by
  refine pw_met (by decide +kernel) (Nat.le_of_ble_eq_true rfl) ?_
  intro p e s m args below meth c ls hC hw hl
  replace hl : lv_has ls 3 [(0, .int x0), (1, .int x1), (2, .int x2)] := hl
  have hx := hC.1
  have hb := hC.2.1
  unfold f_X11_in at hf
  refine lv_iload_n hx hb dX11_in_0 rfl (lv_at hl 0 rfl) ?_
  refine lv_iload_n hx hb dX11_in_1 rfl (lv_at hl 1 rfl) ?_
  refine lv_icmp_lt (tgt := 14) hx hb dX11_in_2 (by decide) (fun hc => ?_) (fun hc => ?_)
  · replace hf := pw_ifp hc hf
    refine lv_iconst (v := 0) hx hb dX11_in_14 (by decide) ?_
    exact pw_zret hC hw hf dX11_in_15
  · replace hf := pw_ifn hc hf
    refine lv_iload_n hx hb dX11_in_5 rfl (lv_at hl 0 rfl) ?_
    refine lv_iload_n hx hb dX11_in_6 rfl (lv_at hl 2 rfl) ?_
    refine lv_icmp_gt (tgt := 14) hx hb dX11_in_7 (by decide) (fun hc => ?_) (fun hc => ?_)
    · replace hf := pw_ifp hc hf
      refine lv_iconst (v := 0) hx hb dX11_in_14 (by decide) ?_
      exact pw_zret hC hw hf dX11_in_15
    · replace hf := pw_ifn hc hf
      refine lv_iconst (v := 1) hx hb dX11_in_10 (by decide) ?_
      refine lv_goto (tgt := 15) hx hb dX11_in_11 (by decide) ?_
      exact pw_zret hC hw hf dX11_in_15
-- PerhapsWasModel isProcess
def f_X11_isProcess (x1 : Int32) (σ : pw_St) : Option (Int32 × pw_St) := (pw_bi (f_X11_in x1 (0 : Int32) ((σ.1 10 1) - (1 : Int32)) σ) fun r1 σ1 => (if pw_isb r1 = true then some (r1, σ1) else none))
def rm_X11_isProcess : Room := { frames := 1, cells := 0, slots := 0, locals := 22 }
set_option maxHeartbeats 4000000 in
set_option maxRecDepth 100000 in
theorem c_X11_isProcess {l : Launch} {G : pw_Gh} {x1 : Int32} {σ : pw_St} {r : Int32} {τ : pw_St} (hf : f_X11_isProcess x1 σ = some (r, τ)) : Met l yX11_isProcess (.code yX11_isProcess cX11_isProcess 2 (some .boolean) :: pw_BW) rm_X11_isProcess (pw_Pc G [.ref (pw_ad G 10), .int x1] σ) (pw_Qi G r τ) 0 0 (pw_gA G) := by
  refine pw_met (by decide +kernel) (Nat.le_of_ble_eq_true rfl) ?_
  intro p e s m args below meth c ls hC hw hl
  replace hl : lv_has ls 2 [(0, .ref (pw_ad G 10)), (1, .int x1)] := hl
  have hx := hC.1
  have hb := hC.2.1
  unfold f_X11_isProcess at hf
  refine lv_iload_n hx hb dX11_isProcess_0 rfl (lv_at hl 1 rfl) ?_
  refine lv_iconst (v := 0) hx hb dX11_isProcess_1 (by decide) ?_
  refine lv_aload_n hx hb dX11_isProcess_2 rfl (lv_at hl 0 rfl) ?_
  refine pg_10_1 hC hw mw_750 dX11_isProcess_3 ?_
  refine lv_iconst (v := 1) hx hb dX11_isProcess_6 (by decide) ?_
  refine lv_isub hx hb dX11_isProcess_7 ?_
  obtain ⟨r1, σ1, h1, hf⟩ := pw_bi_some hf
  refine pw_ci hw (pw_runS (As := [.int x1, .int (0 : Int32), .int ((σ.1 10 1) - (1 : Int32))]) (rest := []) hC hw (c_X11_in  h1) mw_846 wm_X11_in ⟨Nat.zero_le _, Nat.zero_le _⟩ ⟨rfl, rfl, Nat.le_of_ble_eq_true rfl, Nat.le_of_ble_eq_true rfl⟩ rfl hl.1 rfl (Nat.le_of_ble_eq_true rfl) dX11_isProcess_8) (fun H locs hw => ?_)
  exact pw_zret hC hw hf dX11_isProcess_11
-- PerhapsWasModel isEvent
def f_X11_isEvent (x1 : Int32) (x2 : Int32) (σ : pw_St) : Option (Int32 × pw_St) := (pw_bi (f_X11_isProcess x1 σ) fun r1 σ1 => (if r1 = 0 then (if pw_isb (0 : Int32) = true then some ((0 : Int32), σ1) else none) else (if pw_in x1 4 = true then (pw_bi (f_X11_in x2 (0 : Int32) ((σ1.1 34 x1.toNatClampNeg) - (1 : Int32)) σ1) fun r2 σ2 => (if r2 = 0 then (if pw_isb (0 : Int32) = true then some ((0 : Int32), σ2) else none) else (if pw_isb (1 : Int32) = true then some ((1 : Int32), σ2) else none))) else none)))
def rm_X11_isEvent : Room := { frames := 2, cells := 0, slots := 0, locals := 43 }
set_option maxHeartbeats 4000000 in
set_option maxRecDepth 100000 in
theorem c_X11_isEvent {l : Launch} {G : pw_Gh} {x1 : Int32} {x2 : Int32} {σ : pw_St} {r : Int32} {τ : pw_St} (hf : f_X11_isEvent x1 x2 σ = some (r, τ)) : Met l yX11_isEvent (.code yX11_isEvent cX11_isEvent 3 (some .boolean) :: pw_BW) rm_X11_isEvent (pw_Pc G [.ref (pw_ad G 10), .int x1, .int x2] σ) (pw_Qi G r τ) 0 0 (pw_gA G) := by
  refine pw_met (by decide +kernel) (Nat.le_of_ble_eq_true rfl) ?_
  intro p e s m args below meth c ls hC hw hl
  replace hl : lv_has ls 3 [(0, .ref (pw_ad G 10)), (1, .int x1), (2, .int x2)] := hl
  have hx := hC.1
  have hb := hC.2.1
  unfold f_X11_isEvent at hf
  refine lv_aload_n hx hb dX11_isEvent_0 rfl (lv_at hl 0 rfl) ?_
  refine lv_iload_n hx hb dX11_isEvent_1 rfl (lv_at hl 1 rfl) ?_
  obtain ⟨r1, σ1, h1, hf⟩ := pw_bi_some hf
  refine pw_ci hw (pw_runV (As := [.int x1]) (rest := []) hC hw (c_X11_isProcess  h1) mw_842 wm_X11_isProcess ⟨Nat.zero_le _, Nat.zero_le _⟩ ⟨rfl, rfl, Nat.le_of_ble_eq_true rfl, Nat.le_of_ble_eq_true rfl⟩ (by decide) rfl rfl rfl hl.1 rfl (Nat.le_of_ble_eq_true rfl) dX11_isEvent_2) (fun H locs hw => ?_)
  refine lv_if_eq (tgt := 28) hx hb dX11_isEvent_5 (by decide) (fun hc => ?_) (fun hc => ?_)
  · replace hf := pw_ifp hc hf
    refine lv_iconst (v := 0) hx hb dX11_isEvent_28 (by decide) ?_
    exact pw_zret hC hw hf dX11_isEvent_29
  · replace hf := pw_ifn hc hf
    refine lv_iload_n hx hb dX11_isEvent_8 rfl (lv_at hl 2 rfl) ?_
    refine lv_iconst (v := 0) hx hb dX11_isEvent_9 (by decide) ?_
    refine lv_aload_n hx hb dX11_isEvent_10 rfl (lv_at hl 0 rfl) ?_
    refine pg_10_2 hC hw mw_751 dX11_isEvent_11 ?_
    refine lv_iload_n hx hb dX11_isEvent_14 rfl (lv_at hl 1 rfl) ?_
    obtain ⟨hin, hf⟩ := pw_gd hf
    refine pw_ild hC hw ca_34 hin dX11_isEvent_15 ?_
    refine lv_iconst (v := 1) hx hb dX11_isEvent_16 (by decide) ?_
    refine lv_isub hx hb dX11_isEvent_17 ?_
    obtain ⟨r2, σ2, h2, hf⟩ := pw_bi_some hf
    refine pw_ci hw (pw_runS (As := [.int x2, .int (0 : Int32), .int ((σ1.1 34 x1.toNatClampNeg) - (1 : Int32))]) (rest := []) hC hw (c_X11_in  h2) mw_846 wm_X11_in ⟨Nat.zero_le _, Nat.zero_le _⟩ ⟨rfl, rfl, Nat.le_of_ble_eq_true rfl, Nat.le_of_ble_eq_true rfl⟩ rfl hl.1 rfl (Nat.le_of_ble_eq_true rfl) dX11_isEvent_18) (fun H locs hw => ?_)
    refine lv_if_eq (tgt := 28) hx hb dX11_isEvent_21 (by decide) (fun hc => ?_) (fun hc => ?_)
    · replace hf := pw_ifp hc hf
      refine lv_iconst (v := 0) hx hb dX11_isEvent_28 (by decide) ?_
      exact pw_zret hC hw hf dX11_isEvent_29
    · replace hf := pw_ifn hc hf
      refine lv_iconst (v := 1) hx hb dX11_isEvent_24 (by decide) ?_
      refine lv_goto (tgt := 29) hx hb dX11_isEvent_25 (by decide) ?_
      exact pw_zret hC hw hf dX11_isEvent_29
-- PerhapsWasModel process
def f_X11_process (σ : pw_St) : Option (Int32 × pw_St) := (if (σ.1 10 1) = (4 : Int32) then (some ((-4 : Int32), σ)) else (if pw_in (σ.1 10 1) 4 = true then (pw_lt (pw_sM σ 34 (σ.1 10 1).toNatClampNeg (0 : Int32)) fun σ1 => (pw_lt (pw_sM σ1 10 1 ((σ1.1 10 1) + (1 : Int32))) fun σ2 => (some (((σ2.1 10 1) - (1 : Int32)), σ2)))) else none))
def rm_X11_process : Room := { frames := 0, cells := 0, slots := 0, locals := 0 }
set_option maxHeartbeats 4000000 in
set_option maxRecDepth 100000 in
theorem c_X11_process {l : Launch} {G : pw_Gh} {σ : pw_St} {r : Int32} {τ : pw_St} (hf : f_X11_process σ = some (r, τ)) : Met l yX11_process (.code yX11_process cX11_process 1 (some .int) :: pw_BW) rm_X11_process (pw_Pc G [.ref (pw_ad G 10)] σ) (pw_Qi G r τ) 0 0 (pw_gA G) := by
  refine pw_met (by decide +kernel) (Nat.le_of_ble_eq_true rfl) ?_
  intro p e s m args below meth c ls hC hw hl
  replace hl : lv_has ls 1 [(0, .ref (pw_ad G 10))] := hl
  have hx := hC.1
  have hb := hC.2.1
  unfold f_X11_process at hf
  refine lv_aload_n hx hb dX11_process_0 rfl (lv_at hl 0 rfl) ?_
  refine pg_10_1 hC hw mw_750 dX11_process_1 ?_
  refine lv_iconst (v := 4) hx hb dX11_process_4 (by decide) ?_
  refine lv_icmp_ne (tgt := 11) hx hb dX11_process_5 (by decide) (fun hc => ?_) (fun hc => ?_)
  · replace hf := pw_ifn hc hf
    refine lv_aload_n hx hb dX11_process_11 rfl (lv_at hl 0 rfl) ?_
    refine pg_10_2 hC hw mw_751 dX11_process_12 ?_
    refine lv_aload_n hx hb dX11_process_15 rfl (lv_at hl 0 rfl) ?_
    refine pg_10_1 hC hw mw_750 dX11_process_16 ?_
    refine lv_iconst (v := 0) hx hb dX11_process_19 (by decide) ?_
    obtain ⟨hin, hf⟩ := pw_gd hf
    refine pw_ist hC hw ca_34 hin dX11_process_20 (fun H locs hw => ?_)
    obtain ⟨σ1, e1, hf⟩ := pw_lts hf
    replace hw := pw_WHe e1 hw
    refine lv_aload_n hx hb dX11_process_21 rfl (lv_at hl 0 rfl) ?_
    refine lv_dup hx hb dX11_process_22 rfl ?_
    refine pg_10_1 hC hw mw_750 dX11_process_23 ?_
    refine lv_iconst (v := 1) hx hb dX11_process_26 (by decide) ?_
    refine lv_iadd hx hb dX11_process_27 ?_
    refine pp_10_1 hC hw mw_750 dX11_process_28 (fun H locs hw => ?_)
    obtain ⟨σ2, e2, hf⟩ := pw_lts hf
    replace hw := pw_WHe e2 hw
    refine lv_aload_n hx hb dX11_process_31 rfl (lv_at hl 0 rfl) ?_
    refine pg_10_1 hC hw mw_750 dX11_process_32 ?_
    refine lv_iconst (v := 1) hx hb dX11_process_35 (by decide) ?_
    refine lv_isub hx hb dX11_process_36 ?_
    exact pw_iret hC hw hf dX11_process_37
  · replace hf := pw_ifp hc hf
    refine lv_bipush (v := -4) hx hb dX11_process_8 (by decide) ?_
    exact pw_iret hC hw hf dX11_process_10
-- PerhapsWasModel comes
def b_X11_comes_103 (x1 : Int32) (x5 : Int32) (σ : pw_St) : Option (Int32 × pw_St) := (if pw_in x1 4 = true then (if pw_in x1 4 = true then (pw_lt (pw_sM σ 34 x1.toNatClampNeg ((σ.1 34 x1.toNatClampNeg) + (1 : Int32))) fun σ1 => (if pw_in x1 4 = true then (if pw_in (((4 : Int32) * x5) + x1) 96 = true then (pw_lt (pw_sM σ1 39 (((4 : Int32) * x5) + x1).toNatClampNeg (σ1.1 34 x1.toNatClampNeg)) fun σ2 => (pw_lt (pw_sM σ2 10 8 ((σ2.1 10 8) + (1 : Int32))) fun σ3 => (some (x5, σ3)))) else none) else none)) else none) else none)
def b_X11_comes_96 (k52 : Int32 → Int32 → Int32 → pw_St → Option (Int32 × pw_St)) (x1 : Int32) (x5 : Int32) (x6 : Int32) (y0 : Int32) (y1 : Int32) (σ : pw_St) : Option (Int32 × pw_St) := (if pw_in y1 96 = true then (pw_lt (pw_sM σ 39 y1.toNatClampNeg y0) fun σ1 => (k52 x1 x5 (x6 + (1 : Int32)) σ1)) else none)
def b_X11_comes_52 (k52 : Int32 → Int32 → Int32 → pw_St → Option (Int32 × pw_St)) (x1 : Int32) (x5 : Int32) (x6 : Int32) (σ : pw_St) : Option (Int32 × pw_St) := (if (4 : Int32) ≤ x6 then (b_X11_comes_103  x1 x5 σ) else (if pw_in x1 4 = true then (if (σ.1 34 x1.toNatClampNeg) = 0 then (b_X11_comes_96 k52 x1 x5 x6 (0 : Int32) (((4 : Int32) * x5) + x6) σ) else (if pw_in ((((4 : Int32) * x5) - (4 : Int32)) + x6) 96 = true then (b_X11_comes_96 k52 x1 x5 x6 (σ.1 39 ((((4 : Int32) * x5) - (4 : Int32)) + x6).toNatClampNeg) (((4 : Int32) * x5) + x6) σ) else none)) else none))
def l_X11_comes_52 : Nat → Int32 → Int32 → Int32 → pw_St → Option (Int32 × pw_St)
  | 0 => fun _ _ _ _ => none
  | n + 1 => fun x1 x5 x6 σ => b_X11_comes_52  (l_X11_comes_52  n) x1 x5 x6 σ
def f_X11_comes (x1 : Int32) (x2 : Int32) (x3 : Int32) (x4 : Int32) (σ : pw_St) : Option (Int32 × pw_St) := (if pw_in x1 4 = true then (if pw_in (((6 : Int32) * x1) + (σ.1 34 x1.toNatClampNeg)) 24 = true then (pw_lt (pw_sM σ 35 (((6 : Int32) * x1) + (σ.1 34 x1.toNatClampNeg)).toNatClampNeg x2) fun σ1 => (if pw_in (((6 : Int32) * x1) + (σ.1 34 x1.toNatClampNeg)) 24 = true then (pw_lt (pw_sM σ1 36 (((6 : Int32) * x1) + (σ.1 34 x1.toNatClampNeg)).toNatClampNeg x3) fun σ2 => (if pw_in (((6 : Int32) * x1) + (σ.1 34 x1.toNatClampNeg)) 24 = true then (pw_lt (pw_sM σ2 37 (((6 : Int32) * x1) + (σ.1 34 x1.toNatClampNeg)).toNatClampNeg x4) fun σ3 => (if pw_in (((6 : Int32) * x1) + (σ.1 34 x1.toNatClampNeg)) 24 = true then (pw_lt (pw_sM σ3 38 (((6 : Int32) * x1) + (σ.1 34 x1.toNatClampNeg)).toNatClampNeg (σ3.1 10 8)) fun σ4 => (l_X11_comes_52  pw_FU x1 (((6 : Int32) * x1) + (σ.1 34 x1.toNatClampNeg)) (0 : Int32) σ4)) else none)) else none)) else none)) else none) else none)
def rm_X11_comes : Room := { frames := 0, cells := 0, slots := 0, locals := 0 }
set_option maxHeartbeats 4000000 in
set_option maxRecDepth 100000 in
theorem t_X11_comes_103 (hC : pw_CX G RX11 cX11_comes 7 (some .int) p s m args meth c) {r : Int32} {τ : pw_St} {x1 : Int32} {x5 : Int32} {σ : pw_St} {H : Heap} {locs : List Loc} {ls : Array Slot} (hw : pw_WH G σ s.heap H locs) (hl : lv_has ls 7 [(0, .ref (pw_ad G 10)), (1, .int x1), (5, .int x5)]) (hf : b_X11_comes_103 x1 x5 σ = some (r, τ)) : W p l e rm_X11_comes s m args below meth c H locs 0 0 (MQ below (pw_Qi G r τ) args s 0 0 (pw_gA G)) (F0 m 103 ls []) := by
  have hx := hC.1
  have hb := hC.2.1
  unfold b_X11_comes_103 at hf
  refine lv_aload_n hx hb dX11_comes_103 rfl (lv_at hl 0 rfl) ?_
  refine pg_10_2 hC hw mw_751 dX11_comes_104 ?_
  refine lv_iload_n hx hb dX11_comes_107 rfl (lv_at hl 1 rfl) ?_
  refine lv_dup2_11 hx hb dX11_comes_108 rfl rfl ?_
  obtain ⟨hin, hf⟩ := pw_gd hf
  refine pw_ild hC hw ca_34 hin dX11_comes_109 ?_
  refine lv_iconst (v := 1) hx hb dX11_comes_110 (by decide) ?_
  refine lv_iadd hx hb dX11_comes_111 ?_
  obtain ⟨hin, hf⟩ := pw_gd hf
  refine pw_ist hC hw ca_34 hin dX11_comes_112 (fun H locs hw => ?_)
  obtain ⟨σ1, e1, hf⟩ := pw_lts hf
  replace hw := pw_WHe e1 hw
  refine lv_aload_n hx hb dX11_comes_113 rfl (lv_at hl 0 rfl) ?_
  refine pg_10_7 hC hw mw_756 dX11_comes_114 ?_
  refine lv_iconst (v := 4) hx hb dX11_comes_117 (by decide) ?_
  refine lv_iload hx hb dX11_comes_118 (lv_at hl 2 rfl) ?_
  refine lv_imul hx hb dX11_comes_120 ?_
  refine lv_iload_n hx hb dX11_comes_121 rfl (lv_at hl 1 rfl) ?_
  refine lv_iadd hx hb dX11_comes_122 ?_
  refine lv_aload_n hx hb dX11_comes_123 rfl (lv_at hl 0 rfl) ?_
  refine pg_10_2 hC hw mw_751 dX11_comes_124 ?_
  refine lv_iload_n hx hb dX11_comes_127 rfl (lv_at hl 1 rfl) ?_
  obtain ⟨hin, hf⟩ := pw_gd hf
  refine pw_ild hC hw ca_34 hin dX11_comes_128 ?_
  obtain ⟨hin, hf⟩ := pw_gd hf
  refine pw_ist hC hw ca_39 hin dX11_comes_129 (fun H locs hw => ?_)
  obtain ⟨σ2, e2, hf⟩ := pw_lts hf
  replace hw := pw_WHe e2 hw
  refine lv_aload_n hx hb dX11_comes_130 rfl (lv_at hl 0 rfl) ?_
  refine lv_dup hx hb dX11_comes_131 rfl ?_
  refine pg_10_8 hC hw mw_757 dX11_comes_132 ?_
  refine lv_iconst (v := 1) hx hb dX11_comes_135 (by decide) ?_
  refine lv_iadd hx hb dX11_comes_136 ?_
  refine pp_10_8 hC hw mw_757 dX11_comes_137 (fun H locs hw => ?_)
  obtain ⟨σ3, e3, hf⟩ := pw_lts hf
  replace hw := pw_WHe e3 hw
  refine lv_iload hx hb dX11_comes_140 (lv_at hl 2 rfl) ?_
  exact pw_iret hC hw hf dX11_comes_142
set_option maxHeartbeats 4000000 in
set_option maxRecDepth 100000 in
theorem t_X11_comes_96 (hC : pw_CX G RX11 cX11_comes 7 (some .int) p s m args meth c) {k52 : Int32 → Int32 → Int32 → pw_St → Option (Int32 × pw_St)} {r : Int32} {τ : pw_St} (hk52 : ∀ (x1 : Int32), ∀ (x5 : Int32), ∀ (x6 : Int32), ∀ (σ : pw_St) (H : Heap) (locs : List Loc) (ls : Array Slot), pw_WH G σ s.heap H locs → lv_has ls 7 [(0, .ref (pw_ad G 10)), (1, .int x1), (5, .int x5), (6, .int x6)] → k52 x1 x5 x6 σ = some (r, τ) → W p l e rm_X11_comes s m args below meth c H locs 0 0 (MQ below (pw_Qi G r τ) args s 0 0 (pw_gA G)) (F0 m 52 ls [])) {x1 : Int32} {x5 : Int32} {x6 : Int32} {y0 : Int32} {y1 : Int32} {σ : pw_St} {H : Heap} {locs : List Loc} {ls : Array Slot} (hw : pw_WH G σ s.heap H locs) (hl : lv_has ls 7 [(0, .ref (pw_ad G 10)), (1, .int x1), (5, .int x5), (6, .int x6)]) (hf : b_X11_comes_96 k52 x1 x5 x6 y0 y1 σ = some (r, τ)) : W p l e rm_X11_comes s m args below meth c H locs 0 0 (MQ below (pw_Qi G r τ) args s 0 0 (pw_gA G)) (F0 m 96 ls [.int y0, .int y1, .ref (pw_ad G 39)]) := by
  have hx := hC.1
  have hb := hC.2.1
  unfold b_X11_comes_96 at hf
  obtain ⟨hin, hf⟩ := pw_gd hf
  refine pw_ist hC hw ca_39 hin dX11_comes_96 (fun H locs hw => ?_)
  obtain ⟨σ1, e1, hf⟩ := pw_lts hf
  replace hw := pw_WHe e1 hw
  refine lv_iinc (v := (x6 + (1 : Int32))) (lv' := [(6, .int (x6 + (1 : Int32))), (0, .ref (pw_ad G 10)), (1, .int x1), (5, .int x5)]) hx hb dX11_comes_97 hl (k := 3) rfl rfl (by decide) rfl (fun ls hl => ?_)
  refine lv_goto (tgt := 52) hx hb dX11_comes_100 (by decide) ?_
  exact hk52 _ _ _ _ _ _ _ hw (lv_sub hl [1, 2, 3, 0] rfl) hf
set_option maxHeartbeats 4000000 in
set_option maxRecDepth 100000 in
theorem t_X11_comes_52 (hC : pw_CX G RX11 cX11_comes 7 (some .int) p s m args meth c) {k52 : Int32 → Int32 → Int32 → pw_St → Option (Int32 × pw_St)} {r : Int32} {τ : pw_St} (hk52 : ∀ (x1 : Int32), ∀ (x5 : Int32), ∀ (x6 : Int32), ∀ (σ : pw_St) (H : Heap) (locs : List Loc) (ls : Array Slot), pw_WH G σ s.heap H locs → lv_has ls 7 [(0, .ref (pw_ad G 10)), (1, .int x1), (5, .int x5), (6, .int x6)] → k52 x1 x5 x6 σ = some (r, τ) → W p l e rm_X11_comes s m args below meth c H locs 0 0 (MQ below (pw_Qi G r τ) args s 0 0 (pw_gA G)) (F0 m 52 ls [])) {x1 : Int32} {x5 : Int32} {x6 : Int32} {σ : pw_St} {H : Heap} {locs : List Loc} {ls : Array Slot} (hw : pw_WH G σ s.heap H locs) (hl : lv_has ls 7 [(0, .ref (pw_ad G 10)), (1, .int x1), (5, .int x5), (6, .int x6)]) (hf : b_X11_comes_52 k52 x1 x5 x6 σ = some (r, τ)) : W p l e rm_X11_comes s m args below meth c H locs 0 0 (MQ below (pw_Qi G r τ) args s 0 0 (pw_gA G)) (F0 m 52 ls []) := by
  have hx := hC.1
  have hb := hC.2.1
  unfold b_X11_comes_52 at hf
  refine lv_iload hx hb dX11_comes_52 (lv_at hl 3 rfl) ?_
  refine lv_iconst (v := 4) hx hb dX11_comes_54 (by decide) ?_
  refine lv_icmp_ge (tgt := 103) hx hb dX11_comes_55 (by decide) (fun hc => ?_) (fun hc => ?_)
  · replace hf := pw_ifp hc hf
    exact t_X11_comes_103 hC   hw (lv_sub hl [0, 1, 2] rfl) hf
  · replace hf := pw_ifn hc hf
    refine lv_aload_n hx hb dX11_comes_58 rfl (lv_at hl 0 rfl) ?_
    refine pg_10_7 hC hw mw_756 dX11_comes_59 ?_
    refine lv_iconst (v := 4) hx hb dX11_comes_62 (by decide) ?_
    refine lv_iload hx hb dX11_comes_63 (lv_at hl 2 rfl) ?_
    refine lv_imul hx hb dX11_comes_65 ?_
    refine lv_iload hx hb dX11_comes_66 (lv_at hl 3 rfl) ?_
    refine lv_iadd hx hb dX11_comes_68 ?_
    refine lv_aload_n hx hb dX11_comes_69 rfl (lv_at hl 0 rfl) ?_
    refine pg_10_2 hC hw mw_751 dX11_comes_70 ?_
    refine lv_iload_n hx hb dX11_comes_73 rfl (lv_at hl 1 rfl) ?_
    obtain ⟨hin, hf⟩ := pw_gd hf
    refine pw_ild hC hw ca_34 hin dX11_comes_74 ?_
    refine lv_if_ne (tgt := 82) hx hb dX11_comes_75 (by decide) (fun hc => ?_) (fun hc => ?_)
    · replace hf := pw_ifn hc hf
      refine lv_aload_n hx hb dX11_comes_82 rfl (lv_at hl 0 rfl) ?_
      refine pg_10_7 hC hw mw_756 dX11_comes_83 ?_
      refine lv_iconst (v := 4) hx hb dX11_comes_86 (by decide) ?_
      refine lv_iload hx hb dX11_comes_87 (lv_at hl 2 rfl) ?_
      refine lv_imul hx hb dX11_comes_89 ?_
      refine lv_iconst (v := 4) hx hb dX11_comes_90 (by decide) ?_
      refine lv_isub hx hb dX11_comes_91 ?_
      refine lv_iload hx hb dX11_comes_92 (lv_at hl 3 rfl) ?_
      refine lv_iadd hx hb dX11_comes_94 ?_
      obtain ⟨hin, hf⟩ := pw_gd hf
      refine pw_ild hC hw ca_39 hin dX11_comes_95 ?_
      exact t_X11_comes_96 hC hk52  hw (lv_sub hl [0, 1, 2, 3] rfl) hf
    · replace hf := pw_ifp hc hf
      refine lv_iconst (v := 0) hx hb dX11_comes_78 (by decide) ?_
      refine lv_goto (tgt := 96) hx hb dX11_comes_79 (by decide) ?_
      exact t_X11_comes_96 hC hk52  hw (lv_sub hl [0, 1, 2, 3] rfl) hf
set_option maxHeartbeats 4000000 in
theorem tl_X11_comes_52 (hC : pw_CX G RX11 cX11_comes 7 (some .int) p s m args meth c) {r : Int32} {τ : pw_St} : ∀ (n : Nat) (x1 : Int32) (x5 : Int32) (x6 : Int32) (σ : pw_St) (H : Heap) (locs : List Loc) (ls : Array Slot), pw_WH G σ s.heap H locs → lv_has ls 7 [(0, .ref (pw_ad G 10)), (1, .int x1), (5, .int x5), (6, .int x6)] → l_X11_comes_52  n x1 x5 x6 σ = some (r, τ) → W p l e rm_X11_comes s m args below meth c H locs 0 0 (MQ below (pw_Qi G r τ) args s 0 0 (pw_gA G)) (F0 m 52 ls []) := by
  intro n
  induction n with
  | zero => intro x1 x5 x6 σ H locs ls hw hl hf; cases hf
  | succ n ih => intro x1 x5 x6 σ H locs ls hw hl hf; exact t_X11_comes_52 hC ih  hw hl hf
set_option maxHeartbeats 4000000 in
set_option maxRecDepth 100000 in
theorem c_X11_comes {l : Launch} {G : pw_Gh} {x1 : Int32} {x2 : Int32} {x3 : Int32} {x4 : Int32} {σ : pw_St} {r : Int32} {τ : pw_St} (hf : f_X11_comes x1 x2 x3 x4 σ = some (r, τ)) : Met l yX11_comes (.code yX11_comes cX11_comes 7 (some .int) :: pw_BW) rm_X11_comes (pw_Pc G [.ref (pw_ad G 10), .int x1, .int x2, .int x3, .int x4] σ) (pw_Qi G r τ) 0 0 (pw_gA G) := by
  refine pw_met (by decide +kernel) (Nat.le_of_ble_eq_true rfl) ?_
  intro p e s m args below meth c ls hC hw hl
  replace hl : lv_has ls 7 [(0, .ref (pw_ad G 10)), (1, .int x1), (2, .int x2), (3, .int x3), (4, .int x4)] := hl
  have hx := hC.1
  have hb := hC.2.1
  unfold f_X11_comes at hf
  refine lv_bipush (v := 6) hx hb dX11_comes_0 (by decide) ?_
  refine lv_iload_n hx hb dX11_comes_2 rfl (lv_at hl 1 rfl) ?_
  refine lv_imul hx hb dX11_comes_3 ?_
  refine lv_aload_n hx hb dX11_comes_4 rfl (lv_at hl 0 rfl) ?_
  refine pg_10_2 hC hw mw_751 dX11_comes_5 ?_
  refine lv_iload_n hx hb dX11_comes_8 rfl (lv_at hl 1 rfl) ?_
  obtain ⟨hin, hf⟩ := pw_gd hf
  refine pw_ild hC hw ca_34 hin dX11_comes_9 ?_
  refine lv_iadd hx hb dX11_comes_10 ?_
  refine lv_istore (lv' := [(5, .int (((6 : Int32) * x1) + (σ.1 34 x1.toNatClampNeg))), (0, .ref (pw_ad G 10)), (1, .int x1), (2, .int x2), (3, .int x3), (4, .int x4)]) hx hb dX11_comes_11 hl (by decide) rfl (fun ls hl => ?_)
  refine lv_aload_n hx hb dX11_comes_13 rfl (lv_at hl 1 rfl) ?_
  refine pg_10_3 hC hw mw_752 dX11_comes_14 ?_
  refine lv_iload hx hb dX11_comes_17 (lv_at hl 0 rfl) ?_
  refine lv_iload_n hx hb dX11_comes_19 rfl (lv_at hl 3 rfl) ?_
  obtain ⟨hin, hf⟩ := pw_gd hf
  refine pw_ist hC hw ca_35 hin dX11_comes_20 (fun H locs hw => ?_)
  obtain ⟨σ1, e1, hf⟩ := pw_lts hf
  replace hw := pw_WHe e1 hw
  refine lv_aload_n hx hb dX11_comes_21 rfl (lv_at hl 1 rfl) ?_
  refine pg_10_4 hC hw mw_753 dX11_comes_22 ?_
  refine lv_iload hx hb dX11_comes_25 (lv_at hl 0 rfl) ?_
  refine lv_iload_n hx hb dX11_comes_27 rfl (lv_at hl 4 rfl) ?_
  obtain ⟨hin, hf⟩ := pw_gd hf
  refine pw_ist hC hw ca_36 hin dX11_comes_28 (fun H locs hw => ?_)
  obtain ⟨σ2, e2, hf⟩ := pw_lts hf
  replace hw := pw_WHe e2 hw
  refine lv_aload_n hx hb dX11_comes_29 rfl (lv_at hl 1 rfl) ?_
  refine pg_10_5 hC hw mw_754 dX11_comes_30 ?_
  refine lv_iload hx hb dX11_comes_33 (lv_at hl 0 rfl) ?_
  refine lv_iload hx hb dX11_comes_35 (lv_at hl 5 rfl) ?_
  obtain ⟨hin, hf⟩ := pw_gd hf
  refine pw_ist hC hw ca_37 hin dX11_comes_37 (fun H locs hw => ?_)
  obtain ⟨σ3, e3, hf⟩ := pw_lts hf
  replace hw := pw_WHe e3 hw
  refine lv_aload_n hx hb dX11_comes_38 rfl (lv_at hl 1 rfl) ?_
  refine pg_10_6 hC hw mw_755 dX11_comes_39 ?_
  refine lv_iload hx hb dX11_comes_42 (lv_at hl 0 rfl) ?_
  refine lv_aload_n hx hb dX11_comes_44 rfl (lv_at hl 1 rfl) ?_
  refine pg_10_8 hC hw mw_757 dX11_comes_45 ?_
  obtain ⟨hin, hf⟩ := pw_gd hf
  refine pw_ist hC hw ca_38 hin dX11_comes_48 (fun H locs hw => ?_)
  obtain ⟨σ4, e4, hf⟩ := pw_lts hf
  replace hw := pw_WHe e4 hw
  refine lv_iconst (v := 0) hx hb dX11_comes_49 (by decide) ?_
  refine lv_istore (lv' := [(6, .int (0 : Int32)), (5, .int (((6 : Int32) * x1) + (σ.1 34 x1.toNatClampNeg))), (0, .ref (pw_ad G 10)), (1, .int x1), (2, .int x2), (3, .int x3), (4, .int x4)]) hx hb dX11_comes_50 hl (by decide) rfl (fun ls hl => ?_)
  exact tl_X11_comes_52 hC  pw_FU _ _ _ _ _ _ _ hw (lv_sub hl [2, 3, 1, 0] rfl) hf
-- PerhapsWasModel joins
def b_X11_joins_2 (k2 : Int32 → Int32 → Int32 → pw_St → Option pw_St) (x1 : Int32) (x2 : Int32) (x3 : Int32) (σ : pw_St) : Option pw_St := (if (4 : Int32) ≤ x3 then (some σ) else (if pw_in (((4 : Int32) * x2) + x3) 96 = true then (if pw_in (((4 : Int32) * x1) + x3) 96 = true then (if (σ.1 39 (((4 : Int32) * x2) + x3).toNatClampNeg) ≤ (σ.1 39 (((4 : Int32) * x1) + x3).toNatClampNeg) then (k2 x1 x2 (x3 + (1 : Int32)) σ) else (if pw_in (((4 : Int32) * x2) + x3) 96 = true then (if pw_in (((4 : Int32) * x1) + x3) 96 = true then (pw_lt (pw_sM σ 39 (((4 : Int32) * x1) + x3).toNatClampNeg (σ.1 39 (((4 : Int32) * x2) + x3).toNatClampNeg)) fun σ1 => (k2 x1 x2 (x3 + (1 : Int32)) σ1)) else none) else none)) else none) else none))
def l_X11_joins_2 : Nat → Int32 → Int32 → Int32 → pw_St → Option pw_St
  | 0 => fun _ _ _ _ => none
  | n + 1 => fun x1 x2 x3 σ => b_X11_joins_2  (l_X11_joins_2  n) x1 x2 x3 σ
def f_X11_joins (x1 : Int32) (x2 : Int32) (σ : pw_St) : Option pw_St := (l_X11_joins_2  pw_FU x1 x2 (0 : Int32) σ)
def rm_X11_joins : Room := { frames := 0, cells := 0, slots := 0, locals := 0 }
set_option maxHeartbeats 4000000 in
set_option maxRecDepth 100000 in
theorem t_X11_joins_2 (hC : pw_CX G RX11 cX11_joins 4 none p s m args meth c) {k2 : Int32 → Int32 → Int32 → pw_St → Option pw_St} {τ : pw_St} (hk2 : ∀ (x1 : Int32), ∀ (x2 : Int32), ∀ (x3 : Int32), ∀ (σ : pw_St) (H : Heap) (locs : List Loc) (ls : Array Slot), pw_WH G σ s.heap H locs → lv_has ls 4 [(0, .ref (pw_ad G 10)), (1, .int x1), (2, .int x2), (3, .int x3)] → k2 x1 x2 x3 σ = some τ → W p l e rm_X11_joins s m args below meth c H locs 0 0 (MQ below (pw_Qv G τ) args s 0 0 (pw_gA G)) (F0 m 2 ls [])) {x1 : Int32} {x2 : Int32} {x3 : Int32} {σ : pw_St} {H : Heap} {locs : List Loc} {ls : Array Slot} (hw : pw_WH G σ s.heap H locs) (hl : lv_has ls 4 [(0, .ref (pw_ad G 10)), (1, .int x1), (2, .int x2), (3, .int x3)]) (hf : b_X11_joins_2 k2 x1 x2 x3 σ = some τ) : W p l e rm_X11_joins s m args below meth c H locs 0 0 (MQ below (pw_Qv G τ) args s 0 0 (pw_gA G)) (F0 m 2 ls []) := by
  have hx := hC.1
  have hb := hC.2.1
  unfold b_X11_joins_2 at hf
  refine lv_iload_n hx hb dX11_joins_2 rfl (lv_at hl 3 rfl) ?_
  refine lv_iconst (v := 4) hx hb dX11_joins_3 (by decide) ?_
  refine lv_icmp_ge (tgt := 56) hx hb dX11_joins_4 (by decide) (fun hc => ?_) (fun hc => ?_)
  · replace hf := pw_ifp hc hf
    exact pw_vret hC hw hf dX11_joins_56
  · replace hf := pw_ifn hc hf
    refine lv_aload_n hx hb dX11_joins_7 rfl (lv_at hl 0 rfl) ?_
    refine pg_10_7 hC hw mw_756 dX11_joins_8 ?_
    refine lv_iconst (v := 4) hx hb dX11_joins_11 (by decide) ?_
    refine lv_iload_n hx hb dX11_joins_12 rfl (lv_at hl 2 rfl) ?_
    refine lv_imul hx hb dX11_joins_13 ?_
    refine lv_iload_n hx hb dX11_joins_14 rfl (lv_at hl 3 rfl) ?_
    refine lv_iadd hx hb dX11_joins_15 ?_
    obtain ⟨hin, hf⟩ := pw_gd hf
    refine pw_ild hC hw ca_39 hin dX11_joins_16 ?_
    refine lv_aload_n hx hb dX11_joins_17 rfl (lv_at hl 0 rfl) ?_
    refine pg_10_7 hC hw mw_756 dX11_joins_18 ?_
    refine lv_iconst (v := 4) hx hb dX11_joins_21 (by decide) ?_
    refine lv_iload_n hx hb dX11_joins_22 rfl (lv_at hl 1 rfl) ?_
    refine lv_imul hx hb dX11_joins_23 ?_
    refine lv_iload_n hx hb dX11_joins_24 rfl (lv_at hl 3 rfl) ?_
    refine lv_iadd hx hb dX11_joins_25 ?_
    obtain ⟨hin, hf⟩ := pw_gd hf
    refine pw_ild hC hw ca_39 hin dX11_joins_26 ?_
    refine lv_icmp_le (tgt := 50) hx hb dX11_joins_27 (by decide) (fun hc => ?_) (fun hc => ?_)
    · replace hf := pw_ifp hc hf
      refine lv_iinc (v := (x3 + (1 : Int32))) (lv' := [(3, .int (x3 + (1 : Int32))), (0, .ref (pw_ad G 10)), (1, .int x1), (2, .int x2)]) hx hb dX11_joins_50 hl (k := 3) rfl rfl (by decide) rfl (fun ls hl => ?_)
      refine lv_goto (tgt := 2) hx hb dX11_joins_53 (by decide) ?_
      exact hk2 _ _ _ _ _ _ _ hw (lv_sub hl [1, 2, 3, 0] rfl) hf
    · replace hf := pw_ifn hc hf
      refine lv_aload_n hx hb dX11_joins_30 rfl (lv_at hl 0 rfl) ?_
      refine pg_10_7 hC hw mw_756 dX11_joins_31 ?_
      refine lv_iconst (v := 4) hx hb dX11_joins_34 (by decide) ?_
      refine lv_iload_n hx hb dX11_joins_35 rfl (lv_at hl 1 rfl) ?_
      refine lv_imul hx hb dX11_joins_36 ?_
      refine lv_iload_n hx hb dX11_joins_37 rfl (lv_at hl 3 rfl) ?_
      refine lv_iadd hx hb dX11_joins_38 ?_
      refine lv_aload_n hx hb dX11_joins_39 rfl (lv_at hl 0 rfl) ?_
      refine pg_10_7 hC hw mw_756 dX11_joins_40 ?_
      refine lv_iconst (v := 4) hx hb dX11_joins_43 (by decide) ?_
      refine lv_iload_n hx hb dX11_joins_44 rfl (lv_at hl 2 rfl) ?_
      refine lv_imul hx hb dX11_joins_45 ?_
      refine lv_iload_n hx hb dX11_joins_46 rfl (lv_at hl 3 rfl) ?_
      refine lv_iadd hx hb dX11_joins_47 ?_
      obtain ⟨hin, hf⟩ := pw_gd hf
      refine pw_ild hC hw ca_39 hin dX11_joins_48 ?_
      obtain ⟨hin, hf⟩ := pw_gd hf
      refine pw_ist hC hw ca_39 hin dX11_joins_49 (fun H locs hw => ?_)
      obtain ⟨σ1, e1, hf⟩ := pw_lts hf
      replace hw := pw_WHe e1 hw
      refine lv_iinc (v := (x3 + (1 : Int32))) (lv' := [(3, .int (x3 + (1 : Int32))), (0, .ref (pw_ad G 10)), (1, .int x1), (2, .int x2)]) hx hb dX11_joins_50 hl (k := 3) rfl rfl (by decide) rfl (fun ls hl => ?_)
      refine lv_goto (tgt := 2) hx hb dX11_joins_53 (by decide) ?_
      exact hk2 _ _ _ _ _ _ _ hw (lv_sub hl [1, 2, 3, 0] rfl) hf
set_option maxHeartbeats 4000000 in
theorem tl_X11_joins_2 (hC : pw_CX G RX11 cX11_joins 4 none p s m args meth c) {τ : pw_St} : ∀ (n : Nat) (x1 : Int32) (x2 : Int32) (x3 : Int32) (σ : pw_St) (H : Heap) (locs : List Loc) (ls : Array Slot), pw_WH G σ s.heap H locs → lv_has ls 4 [(0, .ref (pw_ad G 10)), (1, .int x1), (2, .int x2), (3, .int x3)] → l_X11_joins_2  n x1 x2 x3 σ = some τ → W p l e rm_X11_joins s m args below meth c H locs 0 0 (MQ below (pw_Qv G τ) args s 0 0 (pw_gA G)) (F0 m 2 ls []) := by
  intro n
  induction n with
  | zero => intro x1 x2 x3 σ H locs ls hw hl hf; cases hf
  | succ n ih => intro x1 x2 x3 σ H locs ls hw hl hf; exact t_X11_joins_2 hC ih  hw hl hf
set_option maxHeartbeats 4000000 in
set_option maxRecDepth 100000 in
theorem c_X11_joins {l : Launch} {G : pw_Gh} {x1 : Int32} {x2 : Int32} {σ : pw_St} {τ : pw_St} (hf : f_X11_joins x1 x2 σ = some τ) : Met l yX11_joins (.code yX11_joins cX11_joins 4 none :: pw_BW) rm_X11_joins (pw_Pc G [.ref (pw_ad G 10), .int x1, .int x2] σ) (pw_Qv G τ) 0 0 (pw_gA G) := by
  refine pw_met (by decide +kernel) (Nat.le_of_ble_eq_true rfl) ?_
  intro p e s m args below meth c ls hC hw hl
  replace hl : lv_has ls 4 [(0, .ref (pw_ad G 10)), (1, .int x1), (2, .int x2)] := hl
  have hx := hC.1
  have hb := hC.2.1
  unfold f_X11_joins at hf
  refine lv_iconst (v := 0) hx hb dX11_joins_0 (by decide) ?_
  refine lv_istore_n (lv' := [(3, .int (0 : Int32)), (0, .ref (pw_ad G 10)), (1, .int x1), (2, .int x2)]) hx hb dX11_joins_1 rfl hl (by decide) rfl (fun ls hl => ?_)
  exact tl_X11_joins_2 hC  pw_FU _ _ _ _ _ _ _ hw (lv_sub hl [1, 2, 3, 0] rfl) hf
-- PerhapsWasModel own
def b_X11_own_59 (x1 : Int32) (x2 : Int32) (x3 : Int32) (y0 : Int32) (y1 : Int32) (σ : pw_St) : Option (Int32 × pw_St) := (pw_bi (f_X11_comes y1 y0 x2 x3 σ) fun r1 σ1 => (if pw_in x1 4 = true then (some ((σ1.1 34 x1.toNatClampNeg), σ1)) else none))
def f_X11_own (x1 : Int32) (x2 : Int32) (x3 : Int32) (x4 : Int32) (σ : pw_St) : Option (Int32 × pw_St) := (pw_bi (f_X11_isProcess x1 σ) fun r1 σ1 => (if r1 = 0 then (some ((-1 : Int32), σ1)) else (pw_bi (f_X11_in x2 (0 : Int32) (2 : Int32) σ1) fun r2 σ2 => (if r2 = 0 then (some ((-1 : Int32), σ2)) else (pw_bi (f_X11_in x4 (0 : Int32) (1 : Int32) σ2) fun r3 σ3 => (if r3 = 0 then (some ((-2 : Int32), σ3)) else (if pw_in x1 4 = true then (if (σ3.1 34 x1.toNatClampNeg) = (6 : Int32) then (some ((-4 : Int32), σ3)) else (if x4 = (1 : Int32) then (b_X11_own_59  x1 x2 x3 (1 : Int32) x1 σ3) else (b_X11_own_59  x1 x2 x3 (0 : Int32) x1 σ3))) else none)))))))
def rm_X11_own : Room := { frames := 2, cells := 0, slots := 0, locals := 43 }
set_option maxHeartbeats 4000000 in
set_option maxRecDepth 100000 in
theorem t_X11_own_59 (hC : pw_CX G RX11 cX11_own 6 (some .int) p s m args meth c) {r : Int32} {τ : pw_St} {x1 : Int32} {x2 : Int32} {x3 : Int32} {y0 : Int32} {y1 : Int32} {σ : pw_St} {H : Heap} {locs : List Loc} {ls : Array Slot} (hw : pw_WH G σ s.heap H locs) (hl : lv_has ls 6 [(0, .ref (pw_ad G 10)), (1, .int x1), (2, .int x2), (3, .int x3)]) (hf : b_X11_own_59 x1 x2 x3 y0 y1 σ = some (r, τ)) : W p l e rm_X11_own s m args below meth c H locs 0 0 (MQ below (pw_Qi G r τ) args s 0 0 (pw_gA G)) (F0 m 59 ls [.int y0, .int y1, .ref (pw_ad G 10)]) := by
  have hx := hC.1
  have hb := hC.2.1
  unfold b_X11_own_59 at hf
  refine lv_iload_n hx hb dX11_own_59 rfl (lv_at hl 2 rfl) ?_
  refine lv_iload_n hx hb dX11_own_60 rfl (lv_at hl 3 rfl) ?_
  obtain ⟨r1, σ1, h1, hf⟩ := pw_bi_some hf
  refine pw_ci hw (pw_runV (As := [.int y1, .int y0, .int x2, .int x3]) (rest := []) hC hw (c_X11_comes  h1) mw_849 wm_X11_comes ⟨Nat.zero_le _, Nat.zero_le _⟩ ⟨rfl, rfl, Nat.le_of_ble_eq_true rfl, Nat.le_of_ble_eq_true rfl⟩ (by decide) rfl rfl rfl hl.1 rfl (Nat.le_of_ble_eq_true rfl) dX11_own_61) (fun H locs hw => ?_)
  refine lv_istore (lv' := [(5, .int r1), (0, .ref (pw_ad G 10)), (1, .int x1), (2, .int x2), (3, .int x3)]) hx hb dX11_own_64 hl (by decide) rfl (fun ls hl => ?_)
  refine lv_aload_n hx hb dX11_own_66 rfl (lv_at hl 1 rfl) ?_
  refine pg_10_2 hC hw mw_751 dX11_own_67 ?_
  refine lv_iload_n hx hb dX11_own_70 rfl (lv_at hl 2 rfl) ?_
  obtain ⟨hin, hf⟩ := pw_gd hf
  refine pw_ild hC hw ca_34 hin dX11_own_71 ?_
  exact pw_iret hC hw hf dX11_own_72
set_option maxHeartbeats 4000000 in
set_option maxRecDepth 100000 in
theorem c_X11_own {l : Launch} {G : pw_Gh} {x1 : Int32} {x2 : Int32} {x3 : Int32} {x4 : Int32} {σ : pw_St} {r : Int32} {τ : pw_St} (hf : f_X11_own x1 x2 x3 x4 σ = some (r, τ)) : Met l yX11_own (.code yX11_own cX11_own 6 (some .int) :: pw_BW) rm_X11_own (pw_Pc G [.ref (pw_ad G 10), .int x1, .int x2, .int x3, .int x4] σ) (pw_Qi G r τ) 0 0 (pw_gA G) := by
  refine pw_met (by decide +kernel) (Nat.le_of_ble_eq_true rfl) ?_
  intro p e s m args below meth c ls hC hw hl
  replace hl : lv_has ls 6 [(0, .ref (pw_ad G 10)), (1, .int x1), (2, .int x2), (3, .int x3), (4, .int x4)] := hl
  have hx := hC.1
  have hb := hC.2.1
  unfold f_X11_own at hf
  refine lv_aload_n hx hb dX11_own_0 rfl (lv_at hl 0 rfl) ?_
  refine lv_iload_n hx hb dX11_own_1 rfl (lv_at hl 1 rfl) ?_
  obtain ⟨r1, σ1, h1, hf⟩ := pw_bi_some hf
  refine pw_ci hw (pw_runV (As := [.int x1]) (rest := []) hC hw (c_X11_isProcess  h1) mw_842 wm_X11_isProcess ⟨Nat.zero_le _, Nat.zero_le _⟩ ⟨rfl, rfl, Nat.le_of_ble_eq_true rfl, Nat.le_of_ble_eq_true rfl⟩ (by decide) rfl rfl rfl hl.1 rfl (Nat.le_of_ble_eq_true rfl) dX11_own_2) (fun H locs hw => ?_)
  refine lv_if_eq (tgt := 17) hx hb dX11_own_5 (by decide) (fun hc => ?_) (fun hc => ?_)
  · replace hf := pw_ifp hc hf
    refine lv_iconst (v := -1) hx hb dX11_own_17 (by decide) ?_
    exact pw_iret hC hw hf dX11_own_18
  · replace hf := pw_ifn hc hf
    refine lv_iload_n hx hb dX11_own_8 rfl (lv_at hl 2 rfl) ?_
    refine lv_iconst (v := 0) hx hb dX11_own_9 (by decide) ?_
    refine lv_iconst (v := 2) hx hb dX11_own_10 (by decide) ?_
    obtain ⟨r2, σ2, h2, hf⟩ := pw_bi_some hf
    refine pw_ci hw (pw_runS (As := [.int x2, .int (0 : Int32), .int (2 : Int32)]) (rest := []) hC hw (c_X11_in  h2) mw_846 wm_X11_in ⟨Nat.zero_le _, Nat.zero_le _⟩ ⟨rfl, rfl, Nat.le_of_ble_eq_true rfl, Nat.le_of_ble_eq_true rfl⟩ rfl hl.1 rfl (Nat.le_of_ble_eq_true rfl) dX11_own_11) (fun H locs hw => ?_)
    refine lv_if_ne (tgt := 19) hx hb dX11_own_14 (by decide) (fun hc => ?_) (fun hc => ?_)
    · replace hf := pw_ifn hc hf
      refine lv_iload hx hb dX11_own_19 (lv_at hl 4 rfl) ?_
      refine lv_iconst (v := 0) hx hb dX11_own_21 (by decide) ?_
      refine lv_iconst (v := 1) hx hb dX11_own_22 (by decide) ?_
      obtain ⟨r3, σ3, h3, hf⟩ := pw_bi_some hf
      refine pw_ci hw (pw_runS (As := [.int x4, .int (0 : Int32), .int (1 : Int32)]) (rest := []) hC hw (c_X11_in  h3) mw_846 wm_X11_in ⟨Nat.zero_le _, Nat.zero_le _⟩ ⟨rfl, rfl, Nat.le_of_ble_eq_true rfl, Nat.le_of_ble_eq_true rfl⟩ rfl hl.1 rfl (Nat.le_of_ble_eq_true rfl) dX11_own_23) (fun H locs hw => ?_)
      refine lv_if_ne (tgt := 32) hx hb dX11_own_26 (by decide) (fun hc => ?_) (fun hc => ?_)
      · replace hf := pw_ifn hc hf
        refine lv_aload_n hx hb dX11_own_32 rfl (lv_at hl 0 rfl) ?_
        refine pg_10_2 hC hw mw_751 dX11_own_33 ?_
        refine lv_iload_n hx hb dX11_own_36 rfl (lv_at hl 1 rfl) ?_
        obtain ⟨hin, hf⟩ := pw_gd hf
        refine pw_ild hC hw ca_34 hin dX11_own_37 ?_
        refine lv_bipush (v := 6) hx hb dX11_own_38 (by decide) ?_
        refine lv_icmp_ne (tgt := 46) hx hb dX11_own_40 (by decide) (fun hc => ?_) (fun hc => ?_)
        · replace hf := pw_ifn hc hf
          refine lv_aload_n hx hb dX11_own_46 rfl (lv_at hl 0 rfl) ?_
          refine lv_iload_n hx hb dX11_own_47 rfl (lv_at hl 1 rfl) ?_
          refine lv_iload hx hb dX11_own_48 (lv_at hl 4 rfl) ?_
          refine lv_iconst (v := 1) hx hb dX11_own_50 (by decide) ?_
          refine lv_icmp_ne (tgt := 58) hx hb dX11_own_51 (by decide) (fun hc => ?_) (fun hc => ?_)
          · replace hf := pw_ifn hc hf
            refine lv_iconst (v := 0) hx hb dX11_own_58 (by decide) ?_
            exact t_X11_own_59 hC   hw (lv_sub hl [0, 1, 2, 3] rfl) hf
          · replace hf := pw_ifp hc hf
            refine lv_iconst (v := 1) hx hb dX11_own_54 (by decide) ?_
            refine lv_goto (tgt := 59) hx hb dX11_own_55 (by decide) ?_
            exact t_X11_own_59 hC   hw (lv_sub hl [0, 1, 2, 3] rfl) hf
        · replace hf := pw_ifp hc hf
          refine lv_bipush (v := -4) hx hb dX11_own_43 (by decide) ?_
          exact pw_iret hC hw hf dX11_own_45
      · replace hf := pw_ifp hc hf
        refine lv_bipush (v := -2) hx hb dX11_own_29 (by decide) ?_
        exact pw_iret hC hw hf dX11_own_31
    · replace hf := pw_ifp hc hf
      refine lv_iconst (v := -1) hx hb dX11_own_17 (by decide) ?_
      exact pw_iret hC hw hf dX11_own_18
-- PerhapsWasModel send
def f_X11_send (x1 : Int32) (x2 : Int32) (σ : pw_St) : Option (Int32 × pw_St) := (pw_bi (f_X11_isProcess x1 σ) fun r1 σ1 => (if r1 = 0 then (some ((-1 : Int32), σ1)) else (pw_bi (f_X11_isProcess x2 σ1) fun r2 σ2 => (if r2 = 0 then (some ((-1 : Int32), σ2)) else (if x1 = x2 then (some ((-2 : Int32), σ2)) else (if pw_in x1 4 = true then (if (σ2.1 34 x1.toNatClampNeg) = (6 : Int32) then (some ((-4 : Int32), σ2)) else (if pw_in (σ2.1 10 9) 24 = true then (pw_lt (pw_sM σ2 40 (σ2.1 10 9).toNatClampNeg x1) fun σ3 => (if pw_in (σ3.1 10 9) 24 = true then (pw_lt (pw_sM σ3 41 (σ3.1 10 9).toNatClampNeg x2) fun σ4 => (if pw_in x1 4 = true then (if pw_in (σ4.1 10 9) 24 = true then (pw_lt (pw_sM σ4 42 (σ4.1 10 9).toNatClampNeg (σ4.1 34 x1.toNatClampNeg)) fun σ5 => (if pw_in (σ5.1 10 9) 24 = true then (pw_lt (pw_sM σ5 43 (σ5.1 10 9).toNatClampNeg (-1 : Int32)) fun σ6 => (pw_bi (f_X11_comes x1 (2 : Int32) (σ6.1 10 9) (0 : Int32) σ6) fun r7 σ7 => (pw_lt (pw_sM σ7 10 9 ((σ7.1 10 9) + (1 : Int32))) fun σ8 => (some (((σ8.1 10 9) - (1 : Int32)), σ8))))) else none)) else none) else none)) else none)) else none)) else none))))))
def rm_X11_send : Room := { frames := 2, cells := 0, slots := 0, locals := 43 }
set_option maxHeartbeats 4000000 in
set_option maxRecDepth 100000 in
theorem c_X11_send {l : Launch} {G : pw_Gh} {x1 : Int32} {x2 : Int32} {σ : pw_St} {r : Int32} {τ : pw_St} (hf : f_X11_send x1 x2 σ = some (r, τ)) : Met l yX11_send (.code yX11_send cX11_send 4 (some .int) :: pw_BW) rm_X11_send (pw_Pc G [.ref (pw_ad G 10), .int x1, .int x2] σ) (pw_Qi G r τ) 0 0 (pw_gA G) := by
  refine pw_met (by decide +kernel) (Nat.le_of_ble_eq_true rfl) ?_
  intro p e s m args below meth c ls hC hw hl
  replace hl : lv_has ls 4 [(0, .ref (pw_ad G 10)), (1, .int x1), (2, .int x2)] := hl
  have hx := hC.1
  have hb := hC.2.1
  unfold f_X11_send at hf
  refine lv_aload_n hx hb dX11_send_0 rfl (lv_at hl 0 rfl) ?_
  refine lv_iload_n hx hb dX11_send_1 rfl (lv_at hl 1 rfl) ?_
  obtain ⟨r1, σ1, h1, hf⟩ := pw_bi_some hf
  refine pw_ci hw (pw_runV (As := [.int x1]) (rest := []) hC hw (c_X11_isProcess  h1) mw_842 wm_X11_isProcess ⟨Nat.zero_le _, Nat.zero_le _⟩ ⟨rfl, rfl, Nat.le_of_ble_eq_true rfl, Nat.le_of_ble_eq_true rfl⟩ (by decide) rfl rfl rfl hl.1 rfl (Nat.le_of_ble_eq_true rfl) dX11_send_2) (fun H locs hw => ?_)
  refine lv_if_eq (tgt := 16) hx hb dX11_send_5 (by decide) (fun hc => ?_) (fun hc => ?_)
  · replace hf := pw_ifp hc hf
    refine lv_iconst (v := -1) hx hb dX11_send_16 (by decide) ?_
    exact pw_iret hC hw hf dX11_send_17
  · replace hf := pw_ifn hc hf
    refine lv_aload_n hx hb dX11_send_8 rfl (lv_at hl 0 rfl) ?_
    refine lv_iload_n hx hb dX11_send_9 rfl (lv_at hl 2 rfl) ?_
    obtain ⟨r2, σ2, h2, hf⟩ := pw_bi_some hf
    refine pw_ci hw (pw_runV (As := [.int x2]) (rest := []) hC hw (c_X11_isProcess  h2) mw_842 wm_X11_isProcess ⟨Nat.zero_le _, Nat.zero_le _⟩ ⟨rfl, rfl, Nat.le_of_ble_eq_true rfl, Nat.le_of_ble_eq_true rfl⟩ (by decide) rfl rfl rfl hl.1 rfl (Nat.le_of_ble_eq_true rfl) dX11_send_10) (fun H locs hw => ?_)
    refine lv_if_ne (tgt := 18) hx hb dX11_send_13 (by decide) (fun hc => ?_) (fun hc => ?_)
    · replace hf := pw_ifn hc hf
      refine lv_iload_n hx hb dX11_send_18 rfl (lv_at hl 1 rfl) ?_
      refine lv_iload_n hx hb dX11_send_19 rfl (lv_at hl 2 rfl) ?_
      refine lv_icmp_ne (tgt := 26) hx hb dX11_send_20 (by decide) (fun hc => ?_) (fun hc => ?_)
      · replace hf := pw_ifn hc hf
        refine lv_aload_n hx hb dX11_send_26 rfl (lv_at hl 0 rfl) ?_
        refine pg_10_2 hC hw mw_751 dX11_send_27 ?_
        refine lv_iload_n hx hb dX11_send_30 rfl (lv_at hl 1 rfl) ?_
        obtain ⟨hin, hf⟩ := pw_gd hf
        refine pw_ild hC hw ca_34 hin dX11_send_31 ?_
        refine lv_bipush (v := 6) hx hb dX11_send_32 (by decide) ?_
        refine lv_icmp_ne (tgt := 40) hx hb dX11_send_34 (by decide) (fun hc => ?_) (fun hc => ?_)
        · replace hf := pw_ifn hc hf
          refine lv_aload_n hx hb dX11_send_40 rfl (lv_at hl 0 rfl) ?_
          refine pg_10_10 hC hw mw_759 dX11_send_41 ?_
          refine lv_aload_n hx hb dX11_send_44 rfl (lv_at hl 0 rfl) ?_
          refine pg_10_9 hC hw mw_758 dX11_send_45 ?_
          refine lv_iload_n hx hb dX11_send_48 rfl (lv_at hl 1 rfl) ?_
          obtain ⟨hin, hf⟩ := pw_gd hf
          refine pw_ist hC hw ca_40 hin dX11_send_49 (fun H locs hw => ?_)
          obtain ⟨σ3, e3, hf⟩ := pw_lts hf
          replace hw := pw_WHe e3 hw
          refine lv_aload_n hx hb dX11_send_50 rfl (lv_at hl 0 rfl) ?_
          refine pg_10_11 hC hw mw_760 dX11_send_51 ?_
          refine lv_aload_n hx hb dX11_send_54 rfl (lv_at hl 0 rfl) ?_
          refine pg_10_9 hC hw mw_758 dX11_send_55 ?_
          refine lv_iload_n hx hb dX11_send_58 rfl (lv_at hl 2 rfl) ?_
          obtain ⟨hin, hf⟩ := pw_gd hf
          refine pw_ist hC hw ca_41 hin dX11_send_59 (fun H locs hw => ?_)
          obtain ⟨σ4, e4, hf⟩ := pw_lts hf
          replace hw := pw_WHe e4 hw
          refine lv_aload_n hx hb dX11_send_60 rfl (lv_at hl 0 rfl) ?_
          refine pg_10_12 hC hw mw_761 dX11_send_61 ?_
          refine lv_aload_n hx hb dX11_send_64 rfl (lv_at hl 0 rfl) ?_
          refine pg_10_9 hC hw mw_758 dX11_send_65 ?_
          refine lv_aload_n hx hb dX11_send_68 rfl (lv_at hl 0 rfl) ?_
          refine pg_10_2 hC hw mw_751 dX11_send_69 ?_
          refine lv_iload_n hx hb dX11_send_72 rfl (lv_at hl 1 rfl) ?_
          obtain ⟨hin, hf⟩ := pw_gd hf
          refine pw_ild hC hw ca_34 hin dX11_send_73 ?_
          obtain ⟨hin, hf⟩ := pw_gd hf
          refine pw_ist hC hw ca_42 hin dX11_send_74 (fun H locs hw => ?_)
          obtain ⟨σ5, e5, hf⟩ := pw_lts hf
          replace hw := pw_WHe e5 hw
          refine lv_aload_n hx hb dX11_send_75 rfl (lv_at hl 0 rfl) ?_
          refine pg_10_13 hC hw mw_762 dX11_send_76 ?_
          refine lv_aload_n hx hb dX11_send_79 rfl (lv_at hl 0 rfl) ?_
          refine pg_10_9 hC hw mw_758 dX11_send_80 ?_
          refine lv_iconst (v := -1) hx hb dX11_send_83 (by decide) ?_
          obtain ⟨hin, hf⟩ := pw_gd hf
          refine pw_ist hC hw ca_43 hin dX11_send_84 (fun H locs hw => ?_)
          obtain ⟨σ6, e6, hf⟩ := pw_lts hf
          replace hw := pw_WHe e6 hw
          refine lv_aload_n hx hb dX11_send_85 rfl (lv_at hl 0 rfl) ?_
          refine lv_iload_n hx hb dX11_send_86 rfl (lv_at hl 1 rfl) ?_
          refine lv_iconst (v := 2) hx hb dX11_send_87 (by decide) ?_
          refine lv_aload_n hx hb dX11_send_88 rfl (lv_at hl 0 rfl) ?_
          refine pg_10_9 hC hw mw_758 dX11_send_89 ?_
          refine lv_iconst (v := 0) hx hb dX11_send_92 (by decide) ?_
          obtain ⟨r7, σ7, h7, hf⟩ := pw_bi_some hf
          refine pw_ci hw (pw_runV (As := [.int x1, .int (2 : Int32), .int (σ6.1 10 9), .int (0 : Int32)]) (rest := []) hC hw (c_X11_comes  h7) mw_849 wm_X11_comes ⟨Nat.zero_le _, Nat.zero_le _⟩ ⟨rfl, rfl, Nat.le_of_ble_eq_true rfl, Nat.le_of_ble_eq_true rfl⟩ (by decide) rfl rfl rfl hl.1 rfl (Nat.le_of_ble_eq_true rfl) dX11_send_93) (fun H locs hw => ?_)
          refine lv_istore_n (lv' := [(3, .int r7), (0, .ref (pw_ad G 10)), (1, .int x1), (2, .int x2)]) hx hb dX11_send_96 rfl hl (by decide) rfl (fun ls hl => ?_)
          refine lv_aload_n hx hb dX11_send_97 rfl (lv_at hl 1 rfl) ?_
          refine lv_dup hx hb dX11_send_98 rfl ?_
          refine pg_10_9 hC hw mw_758 dX11_send_99 ?_
          refine lv_iconst (v := 1) hx hb dX11_send_102 (by decide) ?_
          refine lv_iadd hx hb dX11_send_103 ?_
          refine pp_10_9 hC hw mw_758 dX11_send_104 (fun H locs hw => ?_)
          obtain ⟨σ8, e8, hf⟩ := pw_lts hf
          replace hw := pw_WHe e8 hw
          refine lv_aload_n hx hb dX11_send_107 rfl (lv_at hl 1 rfl) ?_
          refine pg_10_9 hC hw mw_758 dX11_send_108 ?_
          refine lv_iconst (v := 1) hx hb dX11_send_111 (by decide) ?_
          refine lv_isub hx hb dX11_send_112 ?_
          exact pw_iret hC hw hf dX11_send_113
        · replace hf := pw_ifp hc hf
          refine lv_bipush (v := -4) hx hb dX11_send_37 (by decide) ?_
          exact pw_iret hC hw hf dX11_send_39
      · replace hf := pw_ifp hc hf
        refine lv_bipush (v := -2) hx hb dX11_send_23 (by decide) ?_
        exact pw_iret hC hw hf dX11_send_25
    · replace hf := pw_ifp hc hf
      refine lv_iconst (v := -1) hx hb dX11_send_16 (by decide) ?_
      exact pw_iret hC hw hf dX11_send_17
end PM
