section PM
variable {p : Program} {l : Launch} {e : Env} {s : State} {m : MethodId} {args : Array Value} {below : List Frame} {meth : Method} {c : Code} {G : pw_Gh}
-- PerhapsWasModel take
def f_X11_take (x1 : Int32) (σ : pw_St) : Option (Int32 × pw_St) := (pw_bi (f_X11_in x1 (0 : Int32) ((σ.1 10 9) - (1 : Int32)) σ) fun r1 σ1 => (if r1 = 0 then (some ((-1 : Int32), σ1)) else (if pw_in x1 24 = true then (if (σ1.1 43 x1.toNatClampNeg) = (-1 : Int32) then (if pw_in x1 24 = true then (if pw_in (σ1.1 41 x1.toNatClampNeg) 4 = true then (if (σ1.1 34 (σ1.1 41 x1.toNatClampNeg).toNatClampNeg) = (6 : Int32) then (some ((-4 : Int32), σ1)) else (if pw_in (σ1.1 41 x1.toNatClampNeg) 4 = true then (if pw_in x1 24 = true then (pw_lt (pw_sM σ1 43 x1.toNatClampNeg (σ1.1 34 (σ1.1 41 x1.toNatClampNeg).toNatClampNeg)) fun σ2 => (pw_bi (f_X11_comes (σ1.1 41 x1.toNatClampNeg) (3 : Int32) x1 (0 : Int32) σ2) fun r3 σ3 => (if pw_in x1 24 = true then (if pw_in x1 24 = true then (pw_bv (f_X11_joins r3 (((6 : Int32) * (σ3.1 40 x1.toNatClampNeg)) + (σ3.1 42 x1.toNatClampNeg)) σ3) fun σ4 => (if pw_in (σ1.1 41 x1.toNatClampNeg) 4 = true then (some ((σ4.1 34 (σ1.1 41 x1.toNatClampNeg).toNatClampNeg), σ4)) else none)) else none) else none))) else none) else none)) else none) else none) else (some ((-3 : Int32), σ1))) else none)))
def rm_X11_take : Room := { frames := 1, cells := 0, slots := 0, locals := 26 }
set_option maxHeartbeats 4000000 in
set_option maxRecDepth 100000 in
theorem c_X11_take {l : Launch} {G : pw_Gh} {x1 : Int32} {σ : pw_St} {r : Int32} {τ : pw_St} (hf : f_X11_take x1 σ = some (r, τ)) : Met l yX11_take (.code yX11_take cX11_take 4 (some .int) :: pw_BW) rm_X11_take (pw_Pc G [.ref (pw_ad G 10), .int x1] σ) (pw_Qi G r τ) 0 0 (pw_gA G) := by
  refine pw_met (by decide +kernel) (Nat.le_of_ble_eq_true rfl) ?_
  intro p e s m args below meth c ls hC hw hl
  replace hl : lv_has ls 4 [(0, .ref (pw_ad G 10)), (1, .int x1)] := hl
  have hx := hC.1
  have hb := hC.2.1
  unfold f_X11_take at hf
  refine lv_iload_n hx hb dX11_take_0 rfl (lv_at hl 1 rfl) ?_
  refine lv_iconst (v := 0) hx hb dX11_take_1 (by decide) ?_
  refine lv_aload_n hx hb dX11_take_2 rfl (lv_at hl 0 rfl) ?_
  refine pg_10_9 hC hw mw_758 dX11_take_3 ?_
  refine lv_iconst (v := 1) hx hb dX11_take_6 (by decide) ?_
  refine lv_isub hx hb dX11_take_7 ?_
  obtain ⟨r1, σ1, h1, hf⟩ := pw_bi_some hf
  refine pw_ci hw (pw_runS (As := [.int x1, .int (0 : Int32), .int ((σ.1 10 9) - (1 : Int32))]) (rest := []) hC hw (c_X11_in  h1) mw_846 wm_X11_in ⟨Nat.zero_le _, Nat.zero_le _⟩ ⟨rfl, rfl, Nat.le_of_ble_eq_true rfl, Nat.le_of_ble_eq_true rfl⟩ rfl hl.1 rfl (Nat.le_of_ble_eq_true rfl) dX11_take_8) (fun H locs hw => ?_)
  refine lv_if_ne (tgt := 16) hx hb dX11_take_11 (by decide) (fun hc => ?_) (fun hc => ?_)
  · replace hf := pw_ifn hc hf
    refine lv_aload_n hx hb dX11_take_16 rfl (lv_at hl 0 rfl) ?_
    refine pg_10_13 hC hw mw_762 dX11_take_17 ?_
    refine lv_iload_n hx hb dX11_take_20 rfl (lv_at hl 1 rfl) ?_
    obtain ⟨hin, hf⟩ := pw_gd hf
    refine pw_ild hC hw ca_43 hin dX11_take_21 ?_
    refine lv_iconst (v := -1) hx hb dX11_take_22 (by decide) ?_
    refine lv_icmp_eq (tgt := 29) hx hb dX11_take_23 (by decide) (fun hc => ?_) (fun hc => ?_)
    · replace hf := pw_ifp hc hf
      refine lv_aload_n hx hb dX11_take_29 rfl (lv_at hl 0 rfl) ?_
      refine pg_10_11 hC hw mw_760 dX11_take_30 ?_
      refine lv_iload_n hx hb dX11_take_33 rfl (lv_at hl 1 rfl) ?_
      obtain ⟨hin, hf⟩ := pw_gd hf
      refine pw_ild hC hw ca_41 hin dX11_take_34 ?_
      refine lv_istore_n (lv' := [(2, .int (σ1.1 41 x1.toNatClampNeg)), (0, .ref (pw_ad G 10)), (1, .int x1)]) hx hb dX11_take_35 rfl hl (by decide) rfl (fun ls hl => ?_)
      refine lv_aload_n hx hb dX11_take_36 rfl (lv_at hl 1 rfl) ?_
      refine pg_10_2 hC hw mw_751 dX11_take_37 ?_
      refine lv_iload_n hx hb dX11_take_40 rfl (lv_at hl 0 rfl) ?_
      obtain ⟨hin, hf⟩ := pw_gd hf
      refine pw_ild hC hw ca_34 hin dX11_take_41 ?_
      refine lv_bipush (v := 6) hx hb dX11_take_42 (by decide) ?_
      refine lv_icmp_ne (tgt := 50) hx hb dX11_take_44 (by decide) (fun hc => ?_) (fun hc => ?_)
      · replace hf := pw_ifn hc hf
        refine lv_aload_n hx hb dX11_take_50 rfl (lv_at hl 1 rfl) ?_
        refine pg_10_13 hC hw mw_762 dX11_take_51 ?_
        refine lv_iload_n hx hb dX11_take_54 rfl (lv_at hl 2 rfl) ?_
        refine lv_aload_n hx hb dX11_take_55 rfl (lv_at hl 1 rfl) ?_
        refine pg_10_2 hC hw mw_751 dX11_take_56 ?_
        refine lv_iload_n hx hb dX11_take_59 rfl (lv_at hl 0 rfl) ?_
        obtain ⟨hin, hf⟩ := pw_gd hf
        refine pw_ild hC hw ca_34 hin dX11_take_60 ?_
        obtain ⟨hin, hf⟩ := pw_gd hf
        refine pw_ist hC hw ca_43 hin dX11_take_61 (fun H locs hw => ?_)
        obtain ⟨σ2, e2, hf⟩ := pw_lts hf
        replace hw := pw_WHe e2 hw
        refine lv_aload_n hx hb dX11_take_62 rfl (lv_at hl 1 rfl) ?_
        refine lv_iload_n hx hb dX11_take_63 rfl (lv_at hl 0 rfl) ?_
        refine lv_iconst (v := 3) hx hb dX11_take_64 (by decide) ?_
        refine lv_iload_n hx hb dX11_take_65 rfl (lv_at hl 2 rfl) ?_
        refine lv_iconst (v := 0) hx hb dX11_take_66 (by decide) ?_
        obtain ⟨r3, σ3, h3, hf⟩ := pw_bi_some hf
        refine pw_ci hw (pw_runV (As := [.int (σ1.1 41 x1.toNatClampNeg), .int (3 : Int32), .int x1, .int (0 : Int32)]) (rest := []) hC hw (c_X11_comes  h3) mw_849 wm_X11_comes ⟨Nat.zero_le _, Nat.zero_le _⟩ ⟨rfl, rfl, Nat.le_of_ble_eq_true rfl, Nat.le_of_ble_eq_true rfl⟩ (by decide) rfl rfl rfl hl.1 rfl (Nat.le_of_ble_eq_true rfl) dX11_take_67) (fun H locs hw => ?_)
        refine lv_istore_n (lv' := [(3, .int r3), (2, .int (σ1.1 41 x1.toNatClampNeg)), (0, .ref (pw_ad G 10)), (1, .int x1)]) hx hb dX11_take_70 rfl hl (by decide) rfl (fun ls hl => ?_)
        refine lv_aload_n hx hb dX11_take_71 rfl (lv_at hl 2 rfl) ?_
        refine lv_iload_n hx hb dX11_take_72 rfl (lv_at hl 0 rfl) ?_
        refine lv_bipush (v := 6) hx hb dX11_take_73 (by decide) ?_
        refine lv_aload_n hx hb dX11_take_75 rfl (lv_at hl 2 rfl) ?_
        refine pg_10_10 hC hw mw_759 dX11_take_76 ?_
        refine lv_iload_n hx hb dX11_take_79 rfl (lv_at hl 3 rfl) ?_
        obtain ⟨hin, hf⟩ := pw_gd hf
        refine pw_ild hC hw ca_40 hin dX11_take_80 ?_
        refine lv_imul hx hb dX11_take_81 ?_
        refine lv_aload_n hx hb dX11_take_82 rfl (lv_at hl 2 rfl) ?_
        refine pg_10_12 hC hw mw_761 dX11_take_83 ?_
        refine lv_iload_n hx hb dX11_take_86 rfl (lv_at hl 3 rfl) ?_
        obtain ⟨hin, hf⟩ := pw_gd hf
        refine pw_ild hC hw ca_42 hin dX11_take_87 ?_
        refine lv_iadd hx hb dX11_take_88 ?_
        obtain ⟨σ4, h4, hf⟩ := pw_bv_some hf
        refine pw_cv hw (pw_runV (As := [.int r3, .int (((6 : Int32) * (σ3.1 40 x1.toNatClampNeg)) + (σ3.1 42 x1.toNatClampNeg))]) (rest := []) hC hw (c_X11_joins  h4) mw_861 wm_X11_joins ⟨Nat.zero_le _, Nat.zero_le _⟩ ⟨rfl, rfl, Nat.le_of_ble_eq_true rfl, Nat.le_of_ble_eq_true rfl⟩ (by decide) rfl rfl rfl hl.1 rfl (Nat.le_of_ble_eq_true rfl) dX11_take_89) (fun H locs hw => ?_)
        refine lv_aload_n hx hb dX11_take_92 rfl (lv_at hl 2 rfl) ?_
        refine pg_10_2 hC hw mw_751 dX11_take_93 ?_
        refine lv_iload_n hx hb dX11_take_96 rfl (lv_at hl 1 rfl) ?_
        obtain ⟨hin, hf⟩ := pw_gd hf
        refine pw_ild hC hw ca_34 hin dX11_take_97 ?_
        exact pw_iret hC hw hf dX11_take_98
      · replace hf := pw_ifp hc hf
        refine lv_bipush (v := -4) hx hb dX11_take_47 (by decide) ?_
        exact pw_iret hC hw hf dX11_take_49
    · replace hf := pw_ifn hc hf
      refine lv_bipush (v := -3) hx hb dX11_take_26 (by decide) ?_
      exact pw_iret hC hw hf dX11_take_28
  · replace hf := pw_ifp hc hf
    refine lv_iconst (v := -1) hx hb dX11_take_14 (by decide) ?_
    exact pw_iret hC hw hf dX11_take_15
-- PerhapsWasModel wait
def b_X11_wait_76 (x1 : Int32) (σ : pw_St) : Option (Int32 × pw_St) := (if pw_in x1 4 = true then (some ((σ.1 34 x1.toNatClampNeg), σ)) else none)
def f_X11_wait (x1 : Int32) (x2 : Int32) (σ : pw_St) : Option (Int32 × pw_St) := (pw_bi (f_X11_isProcess x1 σ) fun r1 σ1 => (if r1 = 0 then (some ((-1 : Int32), σ1)) else (pw_bi (f_X11_isProcess x2 σ1) fun r2 σ2 => (if r2 = 0 then (some ((-1 : Int32), σ2)) else (if x1 = x2 then (some ((-2 : Int32), σ2)) else (if pw_in x1 4 = true then (if (σ2.1 34 x1.toNatClampNeg) = (6 : Int32) then (some ((-4 : Int32), σ2)) else (pw_bi (f_X11_comes x1 (4 : Int32) x2 (0 : Int32) σ2) fun r3 σ3 => (if pw_in x2 4 = true then (if (σ3.1 34 x2.toNatClampNeg) ≤ 0 then (b_X11_wait_76  x1 σ3) else (if pw_in x2 4 = true then (pw_bv (f_X11_joins r3 ((((6 : Int32) * x2) + (σ3.1 34 x2.toNatClampNeg)) - (1 : Int32)) σ3) fun σ4 => (b_X11_wait_76  x1 σ4)) else none)) else none))) else none))))))
def rm_X11_wait : Room := { frames := 2, cells := 0, slots := 0, locals := 43 }
set_option maxHeartbeats 4000000 in
set_option maxRecDepth 100000 in
theorem t_X11_wait_76 (hC : pw_CX G RX11 cX11_wait 4 (some .int) p s m args meth c) {r : Int32} {τ : pw_St} {x1 : Int32} {σ : pw_St} {H : Heap} {locs : List Loc} {ls : Array Slot} (hw : pw_WH G σ s.heap H locs) (hl : lv_has ls 4 [(0, .ref (pw_ad G 10)), (1, .int x1)]) (hf : b_X11_wait_76 x1 σ = some (r, τ)) : W p l e rm_X11_wait s m args below meth c H locs 0 0 (MQ below (pw_Qi G r τ) args s 0 0 (pw_gA G)) (F0 m 76 ls []) := by
  have hx := hC.1
  have hb := hC.2.1
  unfold b_X11_wait_76 at hf
  refine lv_aload_n hx hb dX11_wait_76 rfl (lv_at hl 0 rfl) ?_
  refine pg_10_2 hC hw mw_751 dX11_wait_77 ?_
  refine lv_iload_n hx hb dX11_wait_80 rfl (lv_at hl 1 rfl) ?_
  obtain ⟨hin, hf⟩ := pw_gd hf
  refine pw_ild hC hw ca_34 hin dX11_wait_81 ?_
  exact pw_iret hC hw hf dX11_wait_82
set_option maxHeartbeats 4000000 in
set_option maxRecDepth 100000 in
theorem c_X11_wait {l : Launch} {G : pw_Gh} {x1 : Int32} {x2 : Int32} {σ : pw_St} {r : Int32} {τ : pw_St} (hf : f_X11_wait x1 x2 σ = some (r, τ)) : Met l yX11_wait (.code yX11_wait cX11_wait 4 (some .int) :: pw_BW) rm_X11_wait (pw_Pc G [.ref (pw_ad G 10), .int x1, .int x2] σ) (pw_Qi G r τ) 0 0 (pw_gA G) := by
  refine pw_met (by decide +kernel) (Nat.le_of_ble_eq_true rfl) ?_
  intro p e s m args below meth c ls hC hw hl
  replace hl : lv_has ls 4 [(0, .ref (pw_ad G 10)), (1, .int x1), (2, .int x2)] := hl
  have hx := hC.1
  have hb := hC.2.1
  unfold f_X11_wait at hf
  refine lv_aload_n hx hb dX11_wait_0 rfl (lv_at hl 0 rfl) ?_
  refine lv_iload_n hx hb dX11_wait_1 rfl (lv_at hl 1 rfl) ?_
  obtain ⟨r1, σ1, h1, hf⟩ := pw_bi_some hf
  refine pw_ci hw (pw_runV (As := [.int x1]) (rest := []) hC hw (c_X11_isProcess  h1) mw_842 wm_X11_isProcess ⟨Nat.zero_le _, Nat.zero_le _⟩ ⟨rfl, rfl, Nat.le_of_ble_eq_true rfl, Nat.le_of_ble_eq_true rfl⟩ (by decide) rfl rfl rfl hl.1 rfl (Nat.le_of_ble_eq_true rfl) dX11_wait_2) (fun H locs hw => ?_)
  refine lv_if_eq (tgt := 16) hx hb dX11_wait_5 (by decide) (fun hc => ?_) (fun hc => ?_)
  · replace hf := pw_ifp hc hf
    refine lv_iconst (v := -1) hx hb dX11_wait_16 (by decide) ?_
    exact pw_iret hC hw hf dX11_wait_17
  · replace hf := pw_ifn hc hf
    refine lv_aload_n hx hb dX11_wait_8 rfl (lv_at hl 0 rfl) ?_
    refine lv_iload_n hx hb dX11_wait_9 rfl (lv_at hl 2 rfl) ?_
    obtain ⟨r2, σ2, h2, hf⟩ := pw_bi_some hf
    refine pw_ci hw (pw_runV (As := [.int x2]) (rest := []) hC hw (c_X11_isProcess  h2) mw_842 wm_X11_isProcess ⟨Nat.zero_le _, Nat.zero_le _⟩ ⟨rfl, rfl, Nat.le_of_ble_eq_true rfl, Nat.le_of_ble_eq_true rfl⟩ (by decide) rfl rfl rfl hl.1 rfl (Nat.le_of_ble_eq_true rfl) dX11_wait_10) (fun H locs hw => ?_)
    refine lv_if_ne (tgt := 18) hx hb dX11_wait_13 (by decide) (fun hc => ?_) (fun hc => ?_)
    · replace hf := pw_ifn hc hf
      refine lv_iload_n hx hb dX11_wait_18 rfl (lv_at hl 1 rfl) ?_
      refine lv_iload_n hx hb dX11_wait_19 rfl (lv_at hl 2 rfl) ?_
      refine lv_icmp_ne (tgt := 26) hx hb dX11_wait_20 (by decide) (fun hc => ?_) (fun hc => ?_)
      · replace hf := pw_ifn hc hf
        refine lv_aload_n hx hb dX11_wait_26 rfl (lv_at hl 0 rfl) ?_
        refine pg_10_2 hC hw mw_751 dX11_wait_27 ?_
        refine lv_iload_n hx hb dX11_wait_30 rfl (lv_at hl 1 rfl) ?_
        obtain ⟨hin, hf⟩ := pw_gd hf
        refine pw_ild hC hw ca_34 hin dX11_wait_31 ?_
        refine lv_bipush (v := 6) hx hb dX11_wait_32 (by decide) ?_
        refine lv_icmp_ne (tgt := 40) hx hb dX11_wait_34 (by decide) (fun hc => ?_) (fun hc => ?_)
        · replace hf := pw_ifn hc hf
          refine lv_aload_n hx hb dX11_wait_40 rfl (lv_at hl 0 rfl) ?_
          refine lv_iload_n hx hb dX11_wait_41 rfl (lv_at hl 1 rfl) ?_
          refine lv_iconst (v := 4) hx hb dX11_wait_42 (by decide) ?_
          refine lv_iload_n hx hb dX11_wait_43 rfl (lv_at hl 2 rfl) ?_
          refine lv_iconst (v := 0) hx hb dX11_wait_44 (by decide) ?_
          obtain ⟨r3, σ3, h3, hf⟩ := pw_bi_some hf
          refine pw_ci hw (pw_runV (As := [.int x1, .int (4 : Int32), .int x2, .int (0 : Int32)]) (rest := []) hC hw (c_X11_comes  h3) mw_849 wm_X11_comes ⟨Nat.zero_le _, Nat.zero_le _⟩ ⟨rfl, rfl, Nat.le_of_ble_eq_true rfl, Nat.le_of_ble_eq_true rfl⟩ (by decide) rfl rfl rfl hl.1 rfl (Nat.le_of_ble_eq_true rfl) dX11_wait_45) (fun H locs hw => ?_)
          refine lv_istore_n (lv' := [(3, .int r3), (0, .ref (pw_ad G 10)), (1, .int x1), (2, .int x2)]) hx hb dX11_wait_48 rfl hl (by decide) rfl (fun ls hl => ?_)
          refine lv_aload_n hx hb dX11_wait_49 rfl (lv_at hl 1 rfl) ?_
          refine pg_10_2 hC hw mw_751 dX11_wait_50 ?_
          refine lv_iload_n hx hb dX11_wait_53 rfl (lv_at hl 3 rfl) ?_
          obtain ⟨hin, hf⟩ := pw_gd hf
          refine pw_ild hC hw ca_34 hin dX11_wait_54 ?_
          refine lv_if_le (tgt := 76) hx hb dX11_wait_55 (by decide) (fun hc => ?_) (fun hc => ?_)
          · replace hf := pw_ifp hc hf
            exact t_X11_wait_76 hC   hw (lv_sub hl [1, 2] rfl) hf
          · replace hf := pw_ifn hc hf
            refine lv_aload_n hx hb dX11_wait_58 rfl (lv_at hl 1 rfl) ?_
            refine lv_iload_n hx hb dX11_wait_59 rfl (lv_at hl 0 rfl) ?_
            refine lv_bipush (v := 6) hx hb dX11_wait_60 (by decide) ?_
            refine lv_iload_n hx hb dX11_wait_62 rfl (lv_at hl 3 rfl) ?_
            refine lv_imul hx hb dX11_wait_63 ?_
            refine lv_aload_n hx hb dX11_wait_64 rfl (lv_at hl 1 rfl) ?_
            refine pg_10_2 hC hw mw_751 dX11_wait_65 ?_
            refine lv_iload_n hx hb dX11_wait_68 rfl (lv_at hl 3 rfl) ?_
            obtain ⟨hin, hf⟩ := pw_gd hf
            refine pw_ild hC hw ca_34 hin dX11_wait_69 ?_
            refine lv_iadd hx hb dX11_wait_70 ?_
            refine lv_iconst (v := 1) hx hb dX11_wait_71 (by decide) ?_
            refine lv_isub hx hb dX11_wait_72 ?_
            obtain ⟨σ4, h4, hf⟩ := pw_bv_some hf
            refine pw_cv hw (pw_runV (As := [.int r3, .int ((((6 : Int32) * x2) + (σ3.1 34 x2.toNatClampNeg)) - (1 : Int32))]) (rest := []) hC hw (c_X11_joins  h4) mw_861 wm_X11_joins ⟨Nat.zero_le _, Nat.zero_le _⟩ ⟨rfl, rfl, Nat.le_of_ble_eq_true rfl, Nat.le_of_ble_eq_true rfl⟩ (by decide) rfl rfl rfl hl.1 rfl (Nat.le_of_ble_eq_true rfl) dX11_wait_73) (fun H locs hw => ?_)
            exact t_X11_wait_76 hC   hw (lv_sub hl [1, 2] rfl) hf
        · replace hf := pw_ifp hc hf
          refine lv_bipush (v := -4) hx hb dX11_wait_37 (by decide) ?_
          exact pw_iret hC hw hf dX11_wait_39
      · replace hf := pw_ifp hc hf
        refine lv_bipush (v := -2) hx hb dX11_wait_23 (by decide) ?_
        exact pw_iret hC hw hf dX11_wait_25
    · replace hf := pw_ifp hc hf
      refine lv_iconst (v := -1) hx hb dX11_wait_16 (by decide) ?_
      exact pw_iret hC hw hf dX11_wait_17
-- PerhapsWasModel undo
def b_X11_undo_110 (x1 : Int32) (σ : pw_St) : Option (Int32 × pw_St) := (if pw_in x1 4 = true then (if pw_in x1 4 = true then (pw_lt (pw_sM σ 34 x1.toNatClampNeg ((σ.1 34 x1.toNatClampNeg) - (1 : Int32))) fun σ1 => (pw_lt (pw_sM σ1 10 8 ((σ1.1 10 8) - (1 : Int32))) fun σ2 => (some (x1, σ2)))) else none) else none)
def b_X11_undo_88 (x1 : Int32) (x2 : Int32) (σ : pw_St) : Option (Int32 × pw_St) := (if pw_in x2 24 = true then (if (σ.1 35 x2.toNatClampNeg) = (3 : Int32) then (if pw_in x2 24 = true then (if pw_in (σ.1 36 x2.toNatClampNeg) 24 = true then (pw_lt (pw_sM σ 43 (σ.1 36 x2.toNatClampNeg).toNatClampNeg (-1 : Int32)) fun σ1 => (b_X11_undo_110  x1 σ1)) else none) else none) else (b_X11_undo_110  x1 σ)) else none)
def b_X11_undo_54 (x1 : Int32) (σ : pw_St) : Option (Int32 × pw_St) := (if pw_in x1 4 = true then (if pw_in ((((6 : Int32) * x1) + (σ.1 34 x1.toNatClampNeg)) - (1 : Int32)) 24 = true then (if (σ.1 35 ((((6 : Int32) * x1) + (σ.1 34 x1.toNatClampNeg)) - (1 : Int32)).toNatClampNeg) = (2 : Int32) then (pw_lt (pw_sM σ 10 9 ((σ.1 10 9) - (1 : Int32))) fun σ1 => (b_X11_undo_88  x1 ((((6 : Int32) * x1) + (σ.1 34 x1.toNatClampNeg)) - (1 : Int32)) σ1)) else (b_X11_undo_88  x1 ((((6 : Int32) * x1) + (σ.1 34 x1.toNatClampNeg)) - (1 : Int32)) σ)) else none) else none)
def b_X11_undo_12 (k12 : Int32 → pw_St → Option (Int32 × pw_St)) (x1 : Int32) (σ : pw_St) : Option (Int32 × pw_St) := (if pw_in x1 4 = true then (if (σ.1 34 x1.toNatClampNeg) = 0 then (k12 (x1 + (1 : Int32)) σ) else (if pw_in x1 4 = true then (if pw_in ((((6 : Int32) * x1) + (σ.1 34 x1.toNatClampNeg)) - (1 : Int32)) 24 = true then (if (σ.1 38 ((((6 : Int32) * x1) + (σ.1 34 x1.toNatClampNeg)) - (1 : Int32)).toNatClampNeg) = ((σ.1 10 8) - (1 : Int32)) then (b_X11_undo_54  x1 σ) else (k12 (x1 + (1 : Int32)) σ)) else none) else none)) else none)
def l_X11_undo_12 : Nat → Int32 → pw_St → Option (Int32 × pw_St)
  | 0 => fun _ _ => none
  | n + 1 => fun x1 σ => b_X11_undo_12  (l_X11_undo_12  n) x1 σ
def f_X11_undo (σ : pw_St) : Option (Int32 × pw_St) := (if (σ.1 10 8) = 0 then (some ((-3 : Int32), σ)) else (l_X11_undo_12  pw_FU (0 : Int32) σ))
def rm_X11_undo : Room := { frames := 0, cells := 0, slots := 0, locals := 0 }
set_option maxHeartbeats 4000000 in
set_option maxRecDepth 100000 in
theorem t_X11_undo_110 (hC : pw_CX G RX11 cX11_undo 3 (some .int) p s m args meth c) {r : Int32} {τ : pw_St} {x1 : Int32} {σ : pw_St} {H : Heap} {locs : List Loc} {ls : Array Slot} (hw : pw_WH G σ s.heap H locs) (hl : lv_has ls 3 [(0, .ref (pw_ad G 10)), (1, .int x1)]) (hf : b_X11_undo_110 x1 σ = some (r, τ)) : W p l e rm_X11_undo s m args below meth c H locs 0 0 (MQ below (pw_Qi G r τ) args s 0 0 (pw_gA G)) (F0 m 110 ls []) := by
  have hx := hC.1
  have hb := hC.2.1
  unfold b_X11_undo_110 at hf
  refine lv_aload_n hx hb dX11_undo_110 rfl (lv_at hl 0 rfl) ?_
  refine pg_10_2 hC hw mw_751 dX11_undo_111 ?_
  refine lv_iload_n hx hb dX11_undo_114 rfl (lv_at hl 1 rfl) ?_
  refine lv_dup2_11 hx hb dX11_undo_115 rfl rfl ?_
  obtain ⟨hin, hf⟩ := pw_gd hf
  refine pw_ild hC hw ca_34 hin dX11_undo_116 ?_
  refine lv_iconst (v := 1) hx hb dX11_undo_117 (by decide) ?_
  refine lv_isub hx hb dX11_undo_118 ?_
  obtain ⟨hin, hf⟩ := pw_gd hf
  refine pw_ist hC hw ca_34 hin dX11_undo_119 (fun H locs hw => ?_)
  obtain ⟨σ1, e1, hf⟩ := pw_lts hf
  replace hw := pw_WHe e1 hw
  refine lv_aload_n hx hb dX11_undo_120 rfl (lv_at hl 0 rfl) ?_
  refine lv_dup hx hb dX11_undo_121 rfl ?_
  refine pg_10_8 hC hw mw_757 dX11_undo_122 ?_
  refine lv_iconst (v := 1) hx hb dX11_undo_125 (by decide) ?_
  refine lv_isub hx hb dX11_undo_126 ?_
  refine pp_10_8 hC hw mw_757 dX11_undo_127 (fun H locs hw => ?_)
  obtain ⟨σ2, e2, hf⟩ := pw_lts hf
  replace hw := pw_WHe e2 hw
  refine lv_iload_n hx hb dX11_undo_130 rfl (lv_at hl 1 rfl) ?_
  exact pw_iret hC hw hf dX11_undo_131
set_option maxHeartbeats 4000000 in
set_option maxRecDepth 100000 in
theorem t_X11_undo_88 (hC : pw_CX G RX11 cX11_undo 3 (some .int) p s m args meth c) {r : Int32} {τ : pw_St} {x1 : Int32} {x2 : Int32} {σ : pw_St} {H : Heap} {locs : List Loc} {ls : Array Slot} (hw : pw_WH G σ s.heap H locs) (hl : lv_has ls 3 [(0, .ref (pw_ad G 10)), (1, .int x1), (2, .int x2)]) (hf : b_X11_undo_88 x1 x2 σ = some (r, τ)) : W p l e rm_X11_undo s m args below meth c H locs 0 0 (MQ below (pw_Qi G r τ) args s 0 0 (pw_gA G)) (F0 m 88 ls []) := by
  have hx := hC.1
  have hb := hC.2.1
  unfold b_X11_undo_88 at hf
  refine lv_aload_n hx hb dX11_undo_88 rfl (lv_at hl 0 rfl) ?_
  refine pg_10_3 hC hw mw_752 dX11_undo_89 ?_
  refine lv_iload_n hx hb dX11_undo_92 rfl (lv_at hl 2 rfl) ?_
  obtain ⟨hin, hf⟩ := pw_gd hf
  refine pw_ild hC hw ca_35 hin dX11_undo_93 ?_
  refine lv_iconst (v := 3) hx hb dX11_undo_94 (by decide) ?_
  refine lv_icmp_ne (tgt := 110) hx hb dX11_undo_95 (by decide) (fun hc => ?_) (fun hc => ?_)
  · replace hf := pw_ifn hc hf
    exact t_X11_undo_110 hC   hw (lv_sub hl [0, 1] rfl) hf
  · replace hf := pw_ifp hc hf
    refine lv_aload_n hx hb dX11_undo_98 rfl (lv_at hl 0 rfl) ?_
    refine pg_10_13 hC hw mw_762 dX11_undo_99 ?_
    refine lv_aload_n hx hb dX11_undo_102 rfl (lv_at hl 0 rfl) ?_
    refine pg_10_4 hC hw mw_753 dX11_undo_103 ?_
    refine lv_iload_n hx hb dX11_undo_106 rfl (lv_at hl 2 rfl) ?_
    obtain ⟨hin, hf⟩ := pw_gd hf
    refine pw_ild hC hw ca_36 hin dX11_undo_107 ?_
    refine lv_iconst (v := -1) hx hb dX11_undo_108 (by decide) ?_
    obtain ⟨hin, hf⟩ := pw_gd hf
    refine pw_ist hC hw ca_43 hin dX11_undo_109 (fun H locs hw => ?_)
    obtain ⟨σ1, e1, hf⟩ := pw_lts hf
    replace hw := pw_WHe e1 hw
    exact t_X11_undo_110 hC   hw (lv_sub hl [0, 1] rfl) hf
set_option maxHeartbeats 4000000 in
set_option maxRecDepth 100000 in
theorem t_X11_undo_54 (hC : pw_CX G RX11 cX11_undo 3 (some .int) p s m args meth c) {r : Int32} {τ : pw_St} {x1 : Int32} {σ : pw_St} {H : Heap} {locs : List Loc} {ls : Array Slot} (hw : pw_WH G σ s.heap H locs) (hl : lv_has ls 3 [(0, .ref (pw_ad G 10)), (1, .int x1)]) (hf : b_X11_undo_54 x1 σ = some (r, τ)) : W p l e rm_X11_undo s m args below meth c H locs 0 0 (MQ below (pw_Qi G r τ) args s 0 0 (pw_gA G)) (F0 m 54 ls []) := by
  have hx := hC.1
  have hb := hC.2.1
  unfold b_X11_undo_54 at hf
  refine lv_bipush (v := 6) hx hb dX11_undo_54 (by decide) ?_
  refine lv_iload_n hx hb dX11_undo_56 rfl (lv_at hl 1 rfl) ?_
  refine lv_imul hx hb dX11_undo_57 ?_
  refine lv_aload_n hx hb dX11_undo_58 rfl (lv_at hl 0 rfl) ?_
  refine pg_10_2 hC hw mw_751 dX11_undo_59 ?_
  refine lv_iload_n hx hb dX11_undo_62 rfl (lv_at hl 1 rfl) ?_
  obtain ⟨hin, hf⟩ := pw_gd hf
  refine pw_ild hC hw ca_34 hin dX11_undo_63 ?_
  refine lv_iadd hx hb dX11_undo_64 ?_
  refine lv_iconst (v := 1) hx hb dX11_undo_65 (by decide) ?_
  refine lv_isub hx hb dX11_undo_66 ?_
  refine lv_istore_n (lv' := [(2, .int ((((6 : Int32) * x1) + (σ.1 34 x1.toNatClampNeg)) - (1 : Int32))), (0, .ref (pw_ad G 10)), (1, .int x1)]) hx hb dX11_undo_67 rfl hl (by decide) rfl (fun ls hl => ?_)
  refine lv_aload_n hx hb dX11_undo_68 rfl (lv_at hl 1 rfl) ?_
  refine pg_10_3 hC hw mw_752 dX11_undo_69 ?_
  refine lv_iload_n hx hb dX11_undo_72 rfl (lv_at hl 0 rfl) ?_
  obtain ⟨hin, hf⟩ := pw_gd hf
  refine pw_ild hC hw ca_35 hin dX11_undo_73 ?_
  refine lv_iconst (v := 2) hx hb dX11_undo_74 (by decide) ?_
  refine lv_icmp_ne (tgt := 88) hx hb dX11_undo_75 (by decide) (fun hc => ?_) (fun hc => ?_)
  · replace hf := pw_ifn hc hf
    exact t_X11_undo_88 hC   hw (lv_sub hl [1, 2, 0] rfl) hf
  · replace hf := pw_ifp hc hf
    refine lv_aload_n hx hb dX11_undo_78 rfl (lv_at hl 1 rfl) ?_
    refine lv_dup hx hb dX11_undo_79 rfl ?_
    refine pg_10_9 hC hw mw_758 dX11_undo_80 ?_
    refine lv_iconst (v := 1) hx hb dX11_undo_83 (by decide) ?_
    refine lv_isub hx hb dX11_undo_84 ?_
    refine pp_10_9 hC hw mw_758 dX11_undo_85 (fun H locs hw => ?_)
    obtain ⟨σ1, e1, hf⟩ := pw_lts hf
    replace hw := pw_WHe e1 hw
    exact t_X11_undo_88 hC   hw (lv_sub hl [1, 2, 0] rfl) hf
set_option maxHeartbeats 4000000 in
set_option maxRecDepth 100000 in
theorem t_X11_undo_12 (hC : pw_CX G RX11 cX11_undo 3 (some .int) p s m args meth c) {k12 : Int32 → pw_St → Option (Int32 × pw_St)} {r : Int32} {τ : pw_St} (hk12 : ∀ (x1 : Int32), ∀ (σ : pw_St) (H : Heap) (locs : List Loc) (ls : Array Slot), pw_WH G σ s.heap H locs → lv_has ls 3 [(0, .ref (pw_ad G 10)), (1, .int x1)] → k12 x1 σ = some (r, τ) → W p l e rm_X11_undo s m args below meth c H locs 0 0 (MQ below (pw_Qi G r τ) args s 0 0 (pw_gA G)) (F0 m 12 ls [])) {x1 : Int32} {σ : pw_St} {H : Heap} {locs : List Loc} {ls : Array Slot} (hw : pw_WH G σ s.heap H locs) (hl : lv_has ls 3 [(0, .ref (pw_ad G 10)), (1, .int x1)]) (hf : b_X11_undo_12 k12 x1 σ = some (r, τ)) : W p l e rm_X11_undo s m args below meth c H locs 0 0 (MQ below (pw_Qi G r τ) args s 0 0 (pw_gA G)) (F0 m 12 ls []) := by
  have hx := hC.1
  have hb := hC.2.1
  unfold b_X11_undo_12 at hf
  refine lv_aload_n hx hb dX11_undo_12 rfl (lv_at hl 0 rfl) ?_
  refine pg_10_2 hC hw mw_751 dX11_undo_13 ?_
  refine lv_iload_n hx hb dX11_undo_16 rfl (lv_at hl 1 rfl) ?_
  obtain ⟨hin, hf⟩ := pw_gd hf
  refine pw_ild hC hw ca_34 hin dX11_undo_17 ?_
  refine lv_if_eq (tgt := 48) hx hb dX11_undo_18 (by decide) (fun hc => ?_) (fun hc => ?_)
  · replace hf := pw_ifp hc hf
    refine lv_iinc (v := (x1 + (1 : Int32))) (lv' := [(1, .int (x1 + (1 : Int32))), (0, .ref (pw_ad G 10))]) hx hb dX11_undo_48 hl (k := 1) rfl rfl (by decide) rfl (fun ls hl => ?_)
    refine lv_goto (tgt := 12) hx hb dX11_undo_51 (by decide) ?_
    exact hk12 _ _ _ _ _ hw (lv_sub hl [1, 0] rfl) hf
  · replace hf := pw_ifn hc hf
    refine lv_aload_n hx hb dX11_undo_21 rfl (lv_at hl 0 rfl) ?_
    refine pg_10_6 hC hw mw_755 dX11_undo_22 ?_
    refine lv_bipush (v := 6) hx hb dX11_undo_25 (by decide) ?_
    refine lv_iload_n hx hb dX11_undo_27 rfl (lv_at hl 1 rfl) ?_
    refine lv_imul hx hb dX11_undo_28 ?_
    refine lv_aload_n hx hb dX11_undo_29 rfl (lv_at hl 0 rfl) ?_
    refine pg_10_2 hC hw mw_751 dX11_undo_30 ?_
    refine lv_iload_n hx hb dX11_undo_33 rfl (lv_at hl 1 rfl) ?_
    obtain ⟨hin, hf⟩ := pw_gd hf
    refine pw_ild hC hw ca_34 hin dX11_undo_34 ?_
    refine lv_iadd hx hb dX11_undo_35 ?_
    refine lv_iconst (v := 1) hx hb dX11_undo_36 (by decide) ?_
    refine lv_isub hx hb dX11_undo_37 ?_
    obtain ⟨hin, hf⟩ := pw_gd hf
    refine pw_ild hC hw ca_38 hin dX11_undo_38 ?_
    refine lv_aload_n hx hb dX11_undo_39 rfl (lv_at hl 0 rfl) ?_
    refine pg_10_8 hC hw mw_757 dX11_undo_40 ?_
    refine lv_iconst (v := 1) hx hb dX11_undo_43 (by decide) ?_
    refine lv_isub hx hb dX11_undo_44 ?_
    refine lv_icmp_eq (tgt := 54) hx hb dX11_undo_45 (by decide) (fun hc => ?_) (fun hc => ?_)
    · replace hf := pw_ifp hc hf
      exact t_X11_undo_54 hC   hw (lv_sub hl [0, 1] rfl) hf
    · replace hf := pw_ifn hc hf
      refine lv_iinc (v := (x1 + (1 : Int32))) (lv' := [(1, .int (x1 + (1 : Int32))), (0, .ref (pw_ad G 10))]) hx hb dX11_undo_48 hl (k := 1) rfl rfl (by decide) rfl (fun ls hl => ?_)
      refine lv_goto (tgt := 12) hx hb dX11_undo_51 (by decide) ?_
      exact hk12 _ _ _ _ _ hw (lv_sub hl [1, 0] rfl) hf
set_option maxHeartbeats 4000000 in
theorem tl_X11_undo_12 (hC : pw_CX G RX11 cX11_undo 3 (some .int) p s m args meth c) {r : Int32} {τ : pw_St} : ∀ (n : Nat) (x1 : Int32) (σ : pw_St) (H : Heap) (locs : List Loc) (ls : Array Slot), pw_WH G σ s.heap H locs → lv_has ls 3 [(0, .ref (pw_ad G 10)), (1, .int x1)] → l_X11_undo_12  n x1 σ = some (r, τ) → W p l e rm_X11_undo s m args below meth c H locs 0 0 (MQ below (pw_Qi G r τ) args s 0 0 (pw_gA G)) (F0 m 12 ls []) := by
  intro n
  induction n with
  | zero => intro x1 σ H locs ls hw hl hf; cases hf
  | succ n ih => intro x1 σ H locs ls hw hl hf; exact t_X11_undo_12 hC ih  hw hl hf
set_option maxHeartbeats 4000000 in
set_option maxRecDepth 100000 in
theorem c_X11_undo {l : Launch} {G : pw_Gh} {σ : pw_St} {r : Int32} {τ : pw_St} (hf : f_X11_undo σ = some (r, τ)) : Met l yX11_undo (.code yX11_undo cX11_undo 3 (some .int) :: pw_BW) rm_X11_undo (pw_Pc G [.ref (pw_ad G 10)] σ) (pw_Qi G r τ) 0 0 (pw_gA G) := by
  refine pw_met (by decide +kernel) (Nat.le_of_ble_eq_true rfl) ?_
  intro p e s m args below meth c ls hC hw hl
  replace hl : lv_has ls 3 [(0, .ref (pw_ad G 10))] := hl
  have hx := hC.1
  have hb := hC.2.1
  unfold f_X11_undo at hf
  refine lv_aload_n hx hb dX11_undo_0 rfl (lv_at hl 0 rfl) ?_
  refine pg_10_8 hC hw mw_757 dX11_undo_1 ?_
  refine lv_if_ne (tgt := 10) hx hb dX11_undo_4 (by decide) (fun hc => ?_) (fun hc => ?_)
  · replace hf := pw_ifn hc hf
    refine lv_iconst (v := 0) hx hb dX11_undo_10 (by decide) ?_
    refine lv_istore_n (lv' := [(1, .int (0 : Int32)), (0, .ref (pw_ad G 10))]) hx hb dX11_undo_11 rfl hl (by decide) rfl (fun ls hl => ?_)
    exact tl_X11_undo_12 hC  pw_FU _ _ _ _ _ hw (lv_sub hl [1, 0] rfl) hf
  · replace hf := pw_ifp hc hf
    refine lv_bipush (v := -3) hx hb dX11_undo_7 (by decide) ?_
    exact pw_iret hC hw hf dX11_undo_9
-- PerhapsWasModel event
def f_X11_event (x1 : Int32) (x2 : Int32) (x3 : Int32) (σ : pw_St) : Option (Int32 × pw_St) := (pw_bi (f_X11_isEvent x1 x2 σ) fun r1 σ1 => (if r1 = 0 then (some ((-1 : Int32), σ1)) else (if x3 = 0 then (if pw_in (((6 : Int32) * x1) + x2) 24 = true then (some ((σ1.1 35 (((6 : Int32) * x1) + x2).toNatClampNeg), σ1)) else none) else (if x3 = (1 : Int32) then (if pw_in (((6 : Int32) * x1) + x2) 24 = true then (some ((σ1.1 36 (((6 : Int32) * x1) + x2).toNatClampNeg), σ1)) else none) else (if x3 = (2 : Int32) then (if pw_in (((6 : Int32) * x1) + x2) 24 = true then (some ((σ1.1 38 (((6 : Int32) * x1) + x2).toNatClampNeg), σ1)) else none) else (some ((-1 : Int32), σ1)))))))
def rm_X11_event : Room := { frames := 3, cells := 0, slots := 0, locals := 65 }
set_option maxHeartbeats 4000000 in
set_option maxRecDepth 100000 in
theorem c_X11_event {l : Launch} {G : pw_Gh} {x1 : Int32} {x2 : Int32} {x3 : Int32} {σ : pw_St} {r : Int32} {τ : pw_St} (hf : f_X11_event x1 x2 x3 σ = some (r, τ)) : Met l yX11_event (.code yX11_event cX11_event 5 (some .int) :: pw_BW) rm_X11_event (pw_Pc G [.ref (pw_ad G 10), .int x1, .int x2, .int x3] σ) (pw_Qi G r τ) 0 0 (pw_gA G) := by
  refine pw_met (by decide +kernel) (Nat.le_of_ble_eq_true rfl) ?_
  intro p e s m args below meth c ls hC hw hl
  replace hl : lv_has ls 5 [(0, .ref (pw_ad G 10)), (1, .int x1), (2, .int x2), (3, .int x3)] := hl
  have hx := hC.1
  have hb := hC.2.1
  unfold f_X11_event at hf
  refine lv_aload_n hx hb dX11_event_0 rfl (lv_at hl 0 rfl) ?_
  refine lv_iload_n hx hb dX11_event_1 rfl (lv_at hl 1 rfl) ?_
  refine lv_iload_n hx hb dX11_event_2 rfl (lv_at hl 2 rfl) ?_
  obtain ⟨r1, σ1, h1, hf⟩ := pw_bi_some hf
  refine pw_ci hw (pw_runV (As := [.int x1, .int x2]) (rest := []) hC hw (c_X11_isEvent  h1) mw_877 wm_X11_isEvent ⟨Nat.zero_le _, Nat.zero_le _⟩ ⟨rfl, rfl, Nat.le_of_ble_eq_true rfl, Nat.le_of_ble_eq_true rfl⟩ (by decide) rfl rfl rfl hl.1 rfl (Nat.le_of_ble_eq_true rfl) dX11_event_3) (fun H locs hw => ?_)
  refine lv_if_ne (tgt := 11) hx hb dX11_event_6 (by decide) (fun hc => ?_) (fun hc => ?_)
  · replace hf := pw_ifn hc hf
    refine lv_bipush (v := 6) hx hb dX11_event_11 (by decide) ?_
    refine lv_iload_n hx hb dX11_event_13 rfl (lv_at hl 1 rfl) ?_
    refine lv_imul hx hb dX11_event_14 ?_
    refine lv_iload_n hx hb dX11_event_15 rfl (lv_at hl 2 rfl) ?_
    refine lv_iadd hx hb dX11_event_16 ?_
    refine lv_istore (lv' := [(4, .int (((6 : Int32) * x1) + x2)), (0, .ref (pw_ad G 10)), (1, .int x1), (2, .int x2), (3, .int x3)]) hx hb dX11_event_17 hl (by decide) rfl (fun ls hl => ?_)
    refine lv_iload_n hx hb dX11_event_19 rfl (lv_at hl 4 rfl) ?_
    refine lv_if_ne (tgt := 33) hx hb dX11_event_20 (by decide) (fun hc => ?_) (fun hc => ?_)
    · replace hf := pw_ifn hc hf
      refine lv_iload_n hx hb dX11_event_33 rfl (lv_at hl 4 rfl) ?_
      refine lv_iconst (v := 1) hx hb dX11_event_34 (by decide) ?_
      refine lv_icmp_ne (tgt := 48) hx hb dX11_event_35 (by decide) (fun hc => ?_) (fun hc => ?_)
      · replace hf := pw_ifn hc hf
        refine lv_iload_n hx hb dX11_event_48 rfl (lv_at hl 4 rfl) ?_
        refine lv_iconst (v := 2) hx hb dX11_event_49 (by decide) ?_
        refine lv_icmp_ne (tgt := 63) hx hb dX11_event_50 (by decide) (fun hc => ?_) (fun hc => ?_)
        · replace hf := pw_ifn hc hf
          refine lv_iconst (v := -1) hx hb dX11_event_63 (by decide) ?_
          exact pw_iret hC hw hf dX11_event_64
        · replace hf := pw_ifp hc hf
          refine lv_aload_n hx hb dX11_event_53 rfl (lv_at hl 1 rfl) ?_
          refine pg_10_6 hC hw mw_755 dX11_event_54 ?_
          refine lv_iload hx hb dX11_event_57 (lv_at hl 0 rfl) ?_
          obtain ⟨hin, hf⟩ := pw_gd hf
          refine pw_ild hC hw ca_38 hin dX11_event_59 ?_
          refine lv_goto (tgt := 64) hx hb dX11_event_60 (by decide) ?_
          exact pw_iret hC hw hf dX11_event_64
      · replace hf := pw_ifp hc hf
        refine lv_aload_n hx hb dX11_event_38 rfl (lv_at hl 1 rfl) ?_
        refine pg_10_4 hC hw mw_753 dX11_event_39 ?_
        refine lv_iload hx hb dX11_event_42 (lv_at hl 0 rfl) ?_
        obtain ⟨hin, hf⟩ := pw_gd hf
        refine pw_ild hC hw ca_36 hin dX11_event_44 ?_
        refine lv_goto (tgt := 64) hx hb dX11_event_45 (by decide) ?_
        exact pw_iret hC hw hf dX11_event_64
    · replace hf := pw_ifp hc hf
      refine lv_aload_n hx hb dX11_event_23 rfl (lv_at hl 1 rfl) ?_
      refine pg_10_3 hC hw mw_752 dX11_event_24 ?_
      refine lv_iload hx hb dX11_event_27 (lv_at hl 0 rfl) ?_
      obtain ⟨hin, hf⟩ := pw_gd hf
      refine pw_ild hC hw ca_35 hin dX11_event_29 ?_
      refine lv_goto (tgt := 64) hx hb dX11_event_30 (by decide) ?_
      exact pw_iret hC hw hf dX11_event_64
  · replace hf := pw_ifp hc hf
    refine lv_iconst (v := -1) hx hb dX11_event_9 (by decide) ?_
    exact pw_iret hC hw hf dX11_event_10
-- PerhapsWasModel letter
def f_X11_letter (x1 : Int32) (x2 : Int32) (σ : pw_St) : Option (Int32 × pw_St) := (pw_bi (f_X11_in x1 (0 : Int32) ((σ.1 10 9) - (1 : Int32)) σ) fun r1 σ1 => (if r1 = 0 then (some ((-1 : Int32), σ1)) else (if x2 = 0 then (if pw_in x1 24 = true then (some ((σ1.1 40 x1.toNatClampNeg), σ1)) else none) else (if x2 = 1 then (if pw_in x1 24 = true then (some ((σ1.1 41 x1.toNatClampNeg), σ1)) else none) else (if x2 = 2 then (if pw_in x1 24 = true then (some ((σ1.1 42 x1.toNatClampNeg), σ1)) else none) else (if x2 = 3 then (if pw_in x1 24 = true then (some ((σ1.1 43 x1.toNatClampNeg), σ1)) else none) else (some ((-1 : Int32), σ1))))))))
def rm_X11_letter : Room := { frames := 1, cells := 0, slots := 0, locals := 22 }
set_option maxHeartbeats 4000000 in
set_option maxRecDepth 100000 in
theorem c_X11_letter {l : Launch} {G : pw_Gh} {x1 : Int32} {x2 : Int32} {σ : pw_St} {r : Int32} {τ : pw_St} (hf : f_X11_letter x1 x2 σ = some (r, τ)) : Met l yX11_letter (.code yX11_letter cX11_letter 3 (some .int) :: pw_BW) rm_X11_letter (pw_Pc G [.ref (pw_ad G 10), .int x1, .int x2] σ) (pw_Qi G r τ) 0 0 (pw_gA G) := by
  refine pw_met (by decide +kernel) (Nat.le_of_ble_eq_true rfl) ?_
  intro p e s m args below meth c ls hC hw hl
  replace hl : lv_has ls 3 [(0, .ref (pw_ad G 10)), (1, .int x1), (2, .int x2)] := hl
  have hx := hC.1
  have hb := hC.2.1
  unfold f_X11_letter at hf
  refine lv_iload_n hx hb dX11_letter_0 rfl (lv_at hl 1 rfl) ?_
  refine lv_iconst (v := 0) hx hb dX11_letter_1 (by decide) ?_
  refine lv_aload_n hx hb dX11_letter_2 rfl (lv_at hl 0 rfl) ?_
  refine pg_10_9 hC hw mw_758 dX11_letter_3 ?_
  refine lv_iconst (v := 1) hx hb dX11_letter_6 (by decide) ?_
  refine lv_isub hx hb dX11_letter_7 ?_
  obtain ⟨r1, σ1, h1, hf⟩ := pw_bi_some hf
  refine pw_ci hw (pw_runS (As := [.int x1, .int (0 : Int32), .int ((σ.1 10 9) - (1 : Int32))]) (rest := []) hC hw (c_X11_in  h1) mw_846 wm_X11_in ⟨Nat.zero_le _, Nat.zero_le _⟩ ⟨rfl, rfl, Nat.le_of_ble_eq_true rfl, Nat.le_of_ble_eq_true rfl⟩ rfl hl.1 rfl (Nat.le_of_ble_eq_true rfl) dX11_letter_8) (fun H locs hw => ?_)
  refine lv_if_ne (tgt := 16) hx hb dX11_letter_11 (by decide) (fun hc => ?_) (fun hc => ?_)
  · replace hf := pw_ifn hc hf
    refine lv_iload_n hx hb dX11_letter_16 rfl (lv_at hl 2 rfl) ?_
    by_cases hc0 : x2 = 0
    · replace hf := pw_ifp hc0 hf
      refine lv_tableIn (off := 31) (tgt := 48) hx hb dX11_letter_17 (by rw [hc0]; decide) (by rw [hc0]; decide) (by rw [hc0]; decide) (by decide) ?_
      refine lv_aload_n hx hb dX11_letter_48 rfl (lv_at hl 0 rfl) ?_
      refine pg_10_10 hC hw mw_759 dX11_letter_49 ?_
      refine lv_iload_n hx hb dX11_letter_52 rfl (lv_at hl 1 rfl) ?_
      obtain ⟨hin, hf⟩ := pw_gd hf
      refine pw_ild hC hw ca_40 hin dX11_letter_53 ?_
      exact pw_iret hC hw hf dX11_letter_54
    replace hf := pw_ifn hc0 hf
    by_cases hc1 : x2 = 1
    · replace hf := pw_ifp hc1 hf
      refine lv_tableIn (off := 38) (tgt := 55) hx hb dX11_letter_17 (by rw [hc1]; decide) (by rw [hc1]; decide) (by rw [hc1]; decide) (by decide) ?_
      refine lv_aload_n hx hb dX11_letter_55 rfl (lv_at hl 0 rfl) ?_
      refine pg_10_11 hC hw mw_760 dX11_letter_56 ?_
      refine lv_iload_n hx hb dX11_letter_59 rfl (lv_at hl 1 rfl) ?_
      obtain ⟨hin, hf⟩ := pw_gd hf
      refine pw_ild hC hw ca_41 hin dX11_letter_60 ?_
      exact pw_iret hC hw hf dX11_letter_61
    replace hf := pw_ifn hc1 hf
    by_cases hc2 : x2 = 2
    · replace hf := pw_ifp hc2 hf
      refine lv_tableIn (off := 45) (tgt := 62) hx hb dX11_letter_17 (by rw [hc2]; decide) (by rw [hc2]; decide) (by rw [hc2]; decide) (by decide) ?_
      refine lv_aload_n hx hb dX11_letter_62 rfl (lv_at hl 0 rfl) ?_
      refine pg_10_12 hC hw mw_761 dX11_letter_63 ?_
      refine lv_iload_n hx hb dX11_letter_66 rfl (lv_at hl 1 rfl) ?_
      obtain ⟨hin, hf⟩ := pw_gd hf
      refine pw_ild hC hw ca_42 hin dX11_letter_67 ?_
      exact pw_iret hC hw hf dX11_letter_68
    replace hf := pw_ifn hc2 hf
    by_cases hc3 : x2 = 3
    · replace hf := pw_ifp hc3 hf
      refine lv_tableIn (off := 52) (tgt := 69) hx hb dX11_letter_17 (by rw [hc3]; decide) (by rw [hc3]; decide) (by rw [hc3]; decide) (by decide) ?_
      refine lv_aload_n hx hb dX11_letter_69 rfl (lv_at hl 0 rfl) ?_
      refine pg_10_13 hC hw mw_762 dX11_letter_70 ?_
      refine lv_iload_n hx hb dX11_letter_73 rfl (lv_at hl 1 rfl) ?_
      obtain ⟨hin, hf⟩ := pw_gd hf
      refine pw_ild hC hw ca_43 hin dX11_letter_74 ?_
      exact pw_iret hC hw hf dX11_letter_75
    replace hf := pw_ifn hc3 hf
    refine lv_tableOut (tgt := 76) hx hb dX11_letter_17 (by have hq := And.intro (pw_ti hc0 (z := 0) (by decide)) (And.intro (pw_ti hc1 (z := 1) (by decide)) (And.intro (pw_ti hc2 (z := 2) (by decide)) (pw_ti hc3 (z := 3) (by decide)))); omega) (by decide) ?_
    refine lv_iconst (v := -1) hx hb dX11_letter_76 (by decide) ?_
    exact pw_iret hC hw hf dX11_letter_77
  · replace hf := pw_ifp hc hf
    refine lv_iconst (v := -1) hx hb dX11_letter_14 (by decide) ?_
    exact pw_iret hC hw hf dX11_letter_15
-- PerhapsWasModel ahead
def b_X11_ahead_34 (x1 : Int32) (x2 : Int32) (x3 : Int32) (x4 : Int32) (σ : pw_St) : Option (Int32 × pw_St) := (if pw_in (((4 : Int32) * (((6 : Int32) * x3) + x4)) + x1) 96 = true then (if (σ.1 39 (((4 : Int32) * (((6 : Int32) * x3) + x4)) + x1).toNatClampNeg) ≤ x2 then (if pw_in (((4 : Int32) * (((6 : Int32) * x1) + x2)) + x3) 96 = true then (if (σ.1 39 (((4 : Int32) * (((6 : Int32) * x1) + x2)) + x3).toNatClampNeg) ≤ x4 then (some ((3 : Int32), σ)) else (some ((2 : Int32), σ))) else none) else (some ((1 : Int32), σ))) else none)
def f_X11_ahead (x1 : Int32) (x2 : Int32) (x3 : Int32) (x4 : Int32) (σ : pw_St) : Option (Int32 × pw_St) := (pw_bi (f_X11_isEvent x1 x2 σ) fun r1 σ1 => (if r1 = 0 then (some ((-1 : Int32), σ1)) else (pw_bi (f_X11_isEvent x3 x4 σ1) fun r2 σ2 => (if r2 = 0 then (some ((-1 : Int32), σ2)) else (if x1 = x3 then (if x2 = x4 then (some ((0 : Int32), σ2)) else (b_X11_ahead_34  x1 x2 x3 x4 σ2)) else (b_X11_ahead_34  x1 x2 x3 x4 σ2))))))
def rm_X11_ahead : Room := { frames := 3, cells := 0, slots := 0, locals := 65 }
set_option maxHeartbeats 4000000 in
set_option maxRecDepth 100000 in
theorem t_X11_ahead_34 (hC : pw_CX G RX11 cX11_ahead 5 (some .int) p s m args meth c) {r : Int32} {τ : pw_St} {x1 : Int32} {x2 : Int32} {x3 : Int32} {x4 : Int32} {σ : pw_St} {H : Heap} {locs : List Loc} {ls : Array Slot} (hw : pw_WH G σ s.heap H locs) (hl : lv_has ls 5 [(0, .ref (pw_ad G 10)), (1, .int x1), (2, .int x2), (3, .int x3), (4, .int x4)]) (hf : b_X11_ahead_34 x1 x2 x3 x4 σ = some (r, τ)) : W p l e rm_X11_ahead s m args below meth c H locs 0 0 (MQ below (pw_Qi G r τ) args s 0 0 (pw_gA G)) (F0 m 34 ls []) := by
  have hx := hC.1
  have hb := hC.2.1
  unfold b_X11_ahead_34 at hf
  refine lv_aload_n hx hb dX11_ahead_34 rfl (lv_at hl 0 rfl) ?_
  refine pg_10_7 hC hw mw_756 dX11_ahead_35 ?_
  refine lv_iconst (v := 4) hx hb dX11_ahead_38 (by decide) ?_
  refine lv_bipush (v := 6) hx hb dX11_ahead_39 (by decide) ?_
  refine lv_iload_n hx hb dX11_ahead_41 rfl (lv_at hl 3 rfl) ?_
  refine lv_imul hx hb dX11_ahead_42 ?_
  refine lv_iload hx hb dX11_ahead_43 (lv_at hl 4 rfl) ?_
  refine lv_iadd hx hb dX11_ahead_45 ?_
  refine lv_imul hx hb dX11_ahead_46 ?_
  refine lv_iload_n hx hb dX11_ahead_47 rfl (lv_at hl 1 rfl) ?_
  refine lv_iadd hx hb dX11_ahead_48 ?_
  obtain ⟨hin, hf⟩ := pw_gd hf
  refine pw_ild hC hw ca_39 hin dX11_ahead_49 ?_
  refine lv_iload_n hx hb dX11_ahead_50 rfl (lv_at hl 2 rfl) ?_
  refine lv_icmp_le (tgt := 56) hx hb dX11_ahead_51 (by decide) (fun hc => ?_) (fun hc => ?_)
  · replace hf := pw_ifp hc hf
    refine lv_aload_n hx hb dX11_ahead_56 rfl (lv_at hl 0 rfl) ?_
    refine pg_10_7 hC hw mw_756 dX11_ahead_57 ?_
    refine lv_iconst (v := 4) hx hb dX11_ahead_60 (by decide) ?_
    refine lv_bipush (v := 6) hx hb dX11_ahead_61 (by decide) ?_
    refine lv_iload_n hx hb dX11_ahead_63 rfl (lv_at hl 1 rfl) ?_
    refine lv_imul hx hb dX11_ahead_64 ?_
    refine lv_iload_n hx hb dX11_ahead_65 rfl (lv_at hl 2 rfl) ?_
    refine lv_iadd hx hb dX11_ahead_66 ?_
    refine lv_imul hx hb dX11_ahead_67 ?_
    refine lv_iload_n hx hb dX11_ahead_68 rfl (lv_at hl 3 rfl) ?_
    refine lv_iadd hx hb dX11_ahead_69 ?_
    obtain ⟨hin, hf⟩ := pw_gd hf
    refine pw_ild hC hw ca_39 hin dX11_ahead_70 ?_
    refine lv_iload hx hb dX11_ahead_71 (lv_at hl 4 rfl) ?_
    refine lv_icmp_le (tgt := 80) hx hb dX11_ahead_73 (by decide) (fun hc => ?_) (fun hc => ?_)
    · replace hf := pw_ifp hc hf
      refine lv_iconst (v := 3) hx hb dX11_ahead_80 (by decide) ?_
      exact pw_iret hC hw hf dX11_ahead_81
    · replace hf := pw_ifn hc hf
      refine lv_iconst (v := 2) hx hb dX11_ahead_76 (by decide) ?_
      refine lv_goto (tgt := 81) hx hb dX11_ahead_77 (by decide) ?_
      exact pw_iret hC hw hf dX11_ahead_81
  · replace hf := pw_ifn hc hf
    refine lv_iconst (v := 1) hx hb dX11_ahead_54 (by decide) ?_
    exact pw_iret hC hw hf dX11_ahead_55
set_option maxHeartbeats 4000000 in
set_option maxRecDepth 100000 in
theorem c_X11_ahead {l : Launch} {G : pw_Gh} {x1 : Int32} {x2 : Int32} {x3 : Int32} {x4 : Int32} {σ : pw_St} {r : Int32} {τ : pw_St} (hf : f_X11_ahead x1 x2 x3 x4 σ = some (r, τ)) : Met l yX11_ahead (.code yX11_ahead cX11_ahead 5 (some .int) :: pw_BW) rm_X11_ahead (pw_Pc G [.ref (pw_ad G 10), .int x1, .int x2, .int x3, .int x4] σ) (pw_Qi G r τ) 0 0 (pw_gA G) := by
  refine pw_met (by decide +kernel) (Nat.le_of_ble_eq_true rfl) ?_
  intro p e s m args below meth c ls hC hw hl
  replace hl : lv_has ls 5 [(0, .ref (pw_ad G 10)), (1, .int x1), (2, .int x2), (3, .int x3), (4, .int x4)] := hl
  have hx := hC.1
  have hb := hC.2.1
  unfold f_X11_ahead at hf
  refine lv_aload_n hx hb dX11_ahead_0 rfl (lv_at hl 0 rfl) ?_
  refine lv_iload_n hx hb dX11_ahead_1 rfl (lv_at hl 1 rfl) ?_
  refine lv_iload_n hx hb dX11_ahead_2 rfl (lv_at hl 2 rfl) ?_
  obtain ⟨r1, σ1, h1, hf⟩ := pw_bi_some hf
  refine pw_ci hw (pw_runV (As := [.int x1, .int x2]) (rest := []) hC hw (c_X11_isEvent  h1) mw_877 wm_X11_isEvent ⟨Nat.zero_le _, Nat.zero_le _⟩ ⟨rfl, rfl, Nat.le_of_ble_eq_true rfl, Nat.le_of_ble_eq_true rfl⟩ (by decide) rfl rfl rfl hl.1 rfl (Nat.le_of_ble_eq_true rfl) dX11_ahead_3) (fun H locs hw => ?_)
  refine lv_if_eq (tgt := 19) hx hb dX11_ahead_6 (by decide) (fun hc => ?_) (fun hc => ?_)
  · replace hf := pw_ifp hc hf
    refine lv_iconst (v := -1) hx hb dX11_ahead_19 (by decide) ?_
    exact pw_iret hC hw hf dX11_ahead_20
  · replace hf := pw_ifn hc hf
    refine lv_aload_n hx hb dX11_ahead_9 rfl (lv_at hl 0 rfl) ?_
    refine lv_iload_n hx hb dX11_ahead_10 rfl (lv_at hl 3 rfl) ?_
    refine lv_iload hx hb dX11_ahead_11 (lv_at hl 4 rfl) ?_
    obtain ⟨r2, σ2, h2, hf⟩ := pw_bi_some hf
    refine pw_ci hw (pw_runV (As := [.int x3, .int x4]) (rest := []) hC hw (c_X11_isEvent  h2) mw_877 wm_X11_isEvent ⟨Nat.zero_le _, Nat.zero_le _⟩ ⟨rfl, rfl, Nat.le_of_ble_eq_true rfl, Nat.le_of_ble_eq_true rfl⟩ (by decide) rfl rfl rfl hl.1 rfl (Nat.le_of_ble_eq_true rfl) dX11_ahead_13) (fun H locs hw => ?_)
    refine lv_if_ne (tgt := 21) hx hb dX11_ahead_16 (by decide) (fun hc => ?_) (fun hc => ?_)
    · replace hf := pw_ifn hc hf
      refine lv_iload_n hx hb dX11_ahead_21 rfl (lv_at hl 1 rfl) ?_
      refine lv_iload_n hx hb dX11_ahead_22 rfl (lv_at hl 3 rfl) ?_
      refine lv_icmp_ne (tgt := 34) hx hb dX11_ahead_23 (by decide) (fun hc => ?_) (fun hc => ?_)
      · replace hf := pw_ifn hc hf
        exact t_X11_ahead_34 hC   hw (lv_sub hl [0, 1, 2, 3, 4] rfl) hf
      · replace hf := pw_ifp hc hf
        refine lv_iload_n hx hb dX11_ahead_26 rfl (lv_at hl 2 rfl) ?_
        refine lv_iload hx hb dX11_ahead_27 (lv_at hl 4 rfl) ?_
        refine lv_icmp_ne (tgt := 34) hx hb dX11_ahead_29 (by decide) (fun hc => ?_) (fun hc => ?_)
        · replace hf := pw_ifn hc hf
          exact t_X11_ahead_34 hC   hw (lv_sub hl [0, 1, 2, 3, 4] rfl) hf
        · replace hf := pw_ifp hc hf
          refine lv_iconst (v := 0) hx hb dX11_ahead_32 (by decide) ?_
          exact pw_iret hC hw hf dX11_ahead_33
    · replace hf := pw_ifp hc hf
      refine lv_iconst (v := -1) hx hb dX11_ahead_19 (by decide) ?_
      exact pw_iret hC hw hf dX11_ahead_20
-- PerhapsWasModel clock
def f_X11_clock (x1 : Int32) (x2 : Int32) (x3 : Int32) (σ : pw_St) : Option (Int32 × pw_St) := (pw_bi (f_X11_isEvent x1 x2 σ) fun r1 σ1 => (if r1 = 0 then (some ((-1 : Int32), σ1)) else (pw_bi (f_X11_isProcess x3 σ1) fun r2 σ2 => (if r2 = 0 then (some ((-1 : Int32), σ2)) else (if pw_in (((4 : Int32) * (((6 : Int32) * x1) + x2)) + x3) 96 = true then (some ((σ2.1 39 (((4 : Int32) * (((6 : Int32) * x1) + x2)) + x3).toNatClampNeg), σ2)) else none)))))
def rm_X11_clock : Room := { frames := 3, cells := 0, slots := 0, locals := 65 }
set_option maxHeartbeats 4000000 in
set_option maxRecDepth 100000 in
theorem c_X11_clock {l : Launch} {G : pw_Gh} {x1 : Int32} {x2 : Int32} {x3 : Int32} {σ : pw_St} {r : Int32} {τ : pw_St} (hf : f_X11_clock x1 x2 x3 σ = some (r, τ)) : Met l yX11_clock (.code yX11_clock cX11_clock 4 (some .int) :: pw_BW) rm_X11_clock (pw_Pc G [.ref (pw_ad G 10), .int x1, .int x2, .int x3] σ) (pw_Qi G r τ) 0 0 (pw_gA G) := by
  refine pw_met (by decide +kernel) (Nat.le_of_ble_eq_true rfl) ?_
  intro p e s m args below meth c ls hC hw hl
  replace hl : lv_has ls 4 [(0, .ref (pw_ad G 10)), (1, .int x1), (2, .int x2), (3, .int x3)] := hl
  have hx := hC.1
  have hb := hC.2.1
  unfold f_X11_clock at hf
  refine lv_aload_n hx hb dX11_clock_0 rfl (lv_at hl 0 rfl) ?_
  refine lv_iload_n hx hb dX11_clock_1 rfl (lv_at hl 1 rfl) ?_
  refine lv_iload_n hx hb dX11_clock_2 rfl (lv_at hl 2 rfl) ?_
  obtain ⟨r1, σ1, h1, hf⟩ := pw_bi_some hf
  refine pw_ci hw (pw_runV (As := [.int x1, .int x2]) (rest := []) hC hw (c_X11_isEvent  h1) mw_877 wm_X11_isEvent ⟨Nat.zero_le _, Nat.zero_le _⟩ ⟨rfl, rfl, Nat.le_of_ble_eq_true rfl, Nat.le_of_ble_eq_true rfl⟩ (by decide) rfl rfl rfl hl.1 rfl (Nat.le_of_ble_eq_true rfl) dX11_clock_3) (fun H locs hw => ?_)
  refine lv_if_eq (tgt := 17) hx hb dX11_clock_6 (by decide) (fun hc => ?_) (fun hc => ?_)
  · replace hf := pw_ifp hc hf
    refine lv_iconst (v := -1) hx hb dX11_clock_17 (by decide) ?_
    exact pw_iret hC hw hf dX11_clock_18
  · replace hf := pw_ifn hc hf
    refine lv_aload_n hx hb dX11_clock_9 rfl (lv_at hl 0 rfl) ?_
    refine lv_iload_n hx hb dX11_clock_10 rfl (lv_at hl 3 rfl) ?_
    obtain ⟨r2, σ2, h2, hf⟩ := pw_bi_some hf
    refine pw_ci hw (pw_runV (As := [.int x3]) (rest := []) hC hw (c_X11_isProcess  h2) mw_842 wm_X11_isProcess ⟨Nat.zero_le _, Nat.zero_le _⟩ ⟨rfl, rfl, Nat.le_of_ble_eq_true rfl, Nat.le_of_ble_eq_true rfl⟩ (by decide) rfl rfl rfl hl.1 rfl (Nat.le_of_ble_eq_true rfl) dX11_clock_11) (fun H locs hw => ?_)
    refine lv_if_ne (tgt := 19) hx hb dX11_clock_14 (by decide) (fun hc => ?_) (fun hc => ?_)
    · replace hf := pw_ifn hc hf
      refine lv_aload_n hx hb dX11_clock_19 rfl (lv_at hl 0 rfl) ?_
      refine pg_10_7 hC hw mw_756 dX11_clock_20 ?_
      refine lv_iconst (v := 4) hx hb dX11_clock_23 (by decide) ?_
      refine lv_bipush (v := 6) hx hb dX11_clock_24 (by decide) ?_
      refine lv_iload_n hx hb dX11_clock_26 rfl (lv_at hl 1 rfl) ?_
      refine lv_imul hx hb dX11_clock_27 ?_
      refine lv_iload_n hx hb dX11_clock_28 rfl (lv_at hl 2 rfl) ?_
      refine lv_iadd hx hb dX11_clock_29 ?_
      refine lv_imul hx hb dX11_clock_30 ?_
      refine lv_iload_n hx hb dX11_clock_31 rfl (lv_at hl 3 rfl) ?_
      refine lv_iadd hx hb dX11_clock_32 ?_
      obtain ⟨hin, hf⟩ := pw_gd hf
      refine pw_ild hC hw ca_39 hin dX11_clock_33 ?_
      exact pw_iret hC hw hf dX11_clock_34
    · replace hf := pw_ifp hc hf
      refine lv_iconst (v := -1) hx hb dX11_clock_17 (by decide) ?_
      exact pw_iret hC hw hf dX11_clock_18
-- PerhapsWasModel unit
def f_X11_unit (x0 : Int32) (σ : pw_St) : Option (Int32 × pw_St) := (if x0 = 0 then (some ((1 : Int32), σ)) else (if x0 = (1 : Int32) then (some ((7 : Int32), σ)) else (if x0 = (2 : Int32) then (some ((49 : Int32), σ)) else (some ((343 : Int32), σ)))))
def rm_X11_unit : Room := { frames := 0, cells := 0, slots := 0, locals := 0 }
set_option maxHeartbeats 4000000 in
set_option maxRecDepth 100000 in
theorem c_X11_unit {l : Launch} {G : pw_Gh} {x0 : Int32} {σ : pw_St} {r : Int32} {τ : pw_St} (hf : f_X11_unit x0 σ = some (r, τ)) : Met l yX11_unit (.code yX11_unit cX11_unit 1 (some .int) :: pw_BW) rm_X11_unit (pw_Pc G [.int x0] σ) (pw_Qi G r τ) 0 0 (pw_gA G) := by
  refine pw_met (by decide +kernel) (Nat.le_of_ble_eq_true rfl) ?_
  intro p e s m args below meth c ls hC hw hl
  replace hl : lv_has ls 1 [(0, .int x0)] := hl
  have hx := hC.1
  have hb := hC.2.1
  unfold f_X11_unit at hf
  refine lv_iload_n hx hb dX11_unit_0 rfl (lv_at hl 0 rfl) ?_
  refine lv_if_ne (tgt := 8) hx hb dX11_unit_1 (by decide) (fun hc => ?_) (fun hc => ?_)
  · replace hf := pw_ifn hc hf
    refine lv_iload_n hx hb dX11_unit_8 rfl (lv_at hl 0 rfl) ?_
    refine lv_iconst (v := 1) hx hb dX11_unit_9 (by decide) ?_
    refine lv_icmp_ne (tgt := 18) hx hb dX11_unit_10 (by decide) (fun hc => ?_) (fun hc => ?_)
    · replace hf := pw_ifn hc hf
      refine lv_iload_n hx hb dX11_unit_18 rfl (lv_at hl 0 rfl) ?_
      refine lv_iconst (v := 2) hx hb dX11_unit_19 (by decide) ?_
      refine lv_icmp_ne (tgt := 28) hx hb dX11_unit_20 (by decide) (fun hc => ?_) (fun hc => ?_)
      · replace hf := pw_ifn hc hf
        refine lv_sipush (v := 343) hx hb dX11_unit_28 (by decide) ?_
        exact pw_iret hC hw hf dX11_unit_31
      · replace hf := pw_ifp hc hf
        refine lv_bipush (v := 49) hx hb dX11_unit_23 (by decide) ?_
        refine lv_goto (tgt := 31) hx hb dX11_unit_25 (by decide) ?_
        exact pw_iret hC hw hf dX11_unit_31
    · replace hf := pw_ifp hc hf
      refine lv_bipush (v := 7) hx hb dX11_unit_13 (by decide) ?_
      refine lv_goto (tgt := 31) hx hb dX11_unit_15 (by decide) ?_
      exact pw_iret hC hw hf dX11_unit_31
  · replace hf := pw_ifp hc hf
    refine lv_iconst (v := 1) hx hb dX11_unit_4 (by decide) ?_
    refine lv_goto (tgt := 31) hx hb dX11_unit_5 (by decide) ?_
    exact pw_iret hC hw hf dX11_unit_31
-- PerhapsWasModel part
def f_X11_part (x0 : Int32) (x1 : Int32) (σ : pw_St) : Option (Int32 × pw_St) := (pw_bi (f_X11_unit x1 σ) fun r1 σ1 => (if r1 = 0 then none else (some (((x0 / r1) - (x0 / r1) / (7 : Int32) * (7 : Int32)), σ1))))
def rm_X11_part : Room := { frames := 1, cells := 0, slots := 0, locals := 20 }
set_option maxHeartbeats 4000000 in
set_option maxRecDepth 100000 in
theorem c_X11_part {l : Launch} {G : pw_Gh} {x0 : Int32} {x1 : Int32} {σ : pw_St} {r : Int32} {τ : pw_St} (hf : f_X11_part x0 x1 σ = some (r, τ)) : Met l yX11_part (.code yX11_part cX11_part 2 (some .int) :: pw_BW) rm_X11_part (pw_Pc G [.int x0, .int x1] σ) (pw_Qi G r τ) 0 0 (pw_gA G) := by
  refine pw_met (by decide +kernel) (Nat.le_of_ble_eq_true rfl) ?_
  intro p e s m args below meth c ls hC hw hl
  replace hl : lv_has ls 2 [(0, .int x0), (1, .int x1)] := hl
  have hx := hC.1
  have hb := hC.2.1
  unfold f_X11_part at hf
  refine lv_iload_n hx hb dX11_part_0 rfl (lv_at hl 0 rfl) ?_
  refine lv_iload_n hx hb dX11_part_1 rfl (lv_at hl 1 rfl) ?_
  obtain ⟨r1, σ1, h1, hf⟩ := pw_bi_some hf
  refine pw_ci hw (pw_runS (As := [.int x1]) (rest := [.int x0]) hC hw (c_X11_unit  h1) mw_904 wm_X11_unit ⟨Nat.zero_le _, Nat.zero_le _⟩ ⟨rfl, rfl, Nat.le_of_ble_eq_true rfl, Nat.le_of_ble_eq_true rfl⟩ rfl hl.1 rfl (Nat.le_of_ble_eq_true rfl) dX11_part_2) (fun H locs hw => ?_)
  obtain ⟨hne, hf⟩ := pw_nz hf
  refine lv_idiv hx hb dX11_part_5 hne ?_
  refine lv_bipush (v := 7) hx hb dX11_part_6 (by decide) ?_
  refine lv_irem hx hb dX11_part_8 (by decide) ?_
  exact pw_iret hC hw hf dX11_part_9
-- PerhapsWasModel isCut
def b_X11_isCut_43 (k15 : Int32 → Int32 → pw_St → Option (Int32 × pw_St)) (x1 : Int32) (x2 : Int32) (y0 : Int32) (y1 : Int32) (σ : pw_St) : Option (Int32 × pw_St) := (if y1 ≤ y0 then (k15 x1 (x2 + (1 : Int32)) σ) else (if pw_isb (0 : Int32) = true then some ((0 : Int32), σ) else none))
def b_X11_isCut_15 (k15 : Int32 → Int32 → pw_St → Option (Int32 × pw_St)) (x1 : Int32) (x2 : Int32) (σ : pw_St) : Option (Int32 × pw_St) := (if (4 : Int32) ≤ x2 then (if pw_isb (1 : Int32) = true then some ((1 : Int32), σ) else none) else (pw_bi (f_X11_part x1 x2 σ) fun r1 σ1 => (if (σ1.1 10 1) ≤ x2 then (b_X11_isCut_43 k15 x1 x2 (0 : Int32) r1 σ1) else (if pw_in x2 4 = true then (b_X11_isCut_43 k15 x1 x2 (σ1.1 34 x2.toNatClampNeg) r1 σ1) else none))))
def l_X11_isCut_15 : Nat → Int32 → Int32 → pw_St → Option (Int32 × pw_St)
  | 0 => fun _ _ _ => none
  | n + 1 => fun x1 x2 σ => b_X11_isCut_15  (l_X11_isCut_15  n) x1 x2 σ
def f_X11_isCut (x1 : Int32) (σ : pw_St) : Option (Int32 × pw_St) := (pw_bi (f_X11_in x1 (0 : Int32) (2400 : Int32) σ) fun r1 σ1 => (if r1 = 0 then (if pw_isb (0 : Int32) = true then some ((0 : Int32), σ1) else none) else (l_X11_isCut_15  pw_FU x1 (0 : Int32) σ1)))
def rm_X11_isCut : Room := { frames := 2, cells := 0, slots := 0, locals := 41 }
set_option maxHeartbeats 4000000 in
set_option maxRecDepth 100000 in
theorem t_X11_isCut_43 (hC : pw_CX G RX11 cX11_isCut 3 (some .boolean) p s m args meth c) {k15 : Int32 → Int32 → pw_St → Option (Int32 × pw_St)} {r : Int32} {τ : pw_St} (hk15 : ∀ (x1 : Int32), ∀ (x2 : Int32), ∀ (σ : pw_St) (H : Heap) (locs : List Loc) (ls : Array Slot), pw_WH G σ s.heap H locs → lv_has ls 3 [(0, .ref (pw_ad G 10)), (1, .int x1), (2, .int x2)] → k15 x1 x2 σ = some (r, τ) → W p l e rm_X11_isCut s m args below meth c H locs 0 0 (MQ below (pw_Qi G r τ) args s 0 0 (pw_gA G)) (F0 m 15 ls [])) {x1 : Int32} {x2 : Int32} {y0 : Int32} {y1 : Int32} {σ : pw_St} {H : Heap} {locs : List Loc} {ls : Array Slot} (hw : pw_WH G σ s.heap H locs) (hl : lv_has ls 3 [(0, .ref (pw_ad G 10)), (1, .int x1), (2, .int x2)]) (hf : b_X11_isCut_43 k15 x1 x2 y0 y1 σ = some (r, τ)) : W p l e rm_X11_isCut s m args below meth c H locs 0 0 (MQ below (pw_Qi G r τ) args s 0 0 (pw_gA G)) (F0 m 43 ls [.int y0, .int y1]) := by
  have hx := hC.1
  have hb := hC.2.1
  unfold b_X11_isCut_43 at hf
  refine lv_icmp_le (tgt := 48) hx hb dX11_isCut_43 (by decide) (fun hc => ?_) (fun hc => ?_)
  · replace hf := pw_ifp hc hf
    refine lv_iinc (v := (x2 + (1 : Int32))) (lv' := [(2, .int (x2 + (1 : Int32))), (0, .ref (pw_ad G 10)), (1, .int x1)]) hx hb dX11_isCut_48 hl (k := 2) rfl rfl (by decide) rfl (fun ls hl => ?_)
    refine lv_goto (tgt := 15) hx hb dX11_isCut_51 (by decide) ?_
    exact hk15 _ _ _ _ _ _ hw (lv_sub hl [1, 2, 0] rfl) hf
  · replace hf := pw_ifn hc hf
    refine lv_iconst (v := 0) hx hb dX11_isCut_46 (by decide) ?_
    exact pw_zret hC hw hf dX11_isCut_47
set_option maxHeartbeats 4000000 in
set_option maxRecDepth 100000 in
theorem t_X11_isCut_15 (hC : pw_CX G RX11 cX11_isCut 3 (some .boolean) p s m args meth c) {k15 : Int32 → Int32 → pw_St → Option (Int32 × pw_St)} {r : Int32} {τ : pw_St} (hk15 : ∀ (x1 : Int32), ∀ (x2 : Int32), ∀ (σ : pw_St) (H : Heap) (locs : List Loc) (ls : Array Slot), pw_WH G σ s.heap H locs → lv_has ls 3 [(0, .ref (pw_ad G 10)), (1, .int x1), (2, .int x2)] → k15 x1 x2 σ = some (r, τ) → W p l e rm_X11_isCut s m args below meth c H locs 0 0 (MQ below (pw_Qi G r τ) args s 0 0 (pw_gA G)) (F0 m 15 ls [])) {x1 : Int32} {x2 : Int32} {σ : pw_St} {H : Heap} {locs : List Loc} {ls : Array Slot} (hw : pw_WH G σ s.heap H locs) (hl : lv_has ls 3 [(0, .ref (pw_ad G 10)), (1, .int x1), (2, .int x2)]) (hf : b_X11_isCut_15 k15 x1 x2 σ = some (r, τ)) : W p l e rm_X11_isCut s m args below meth c H locs 0 0 (MQ below (pw_Qi G r τ) args s 0 0 (pw_gA G)) (F0 m 15 ls []) := by
  have hx := hC.1
  have hb := hC.2.1
  unfold b_X11_isCut_15 at hf
  refine lv_iload_n hx hb dX11_isCut_15 rfl (lv_at hl 2 rfl) ?_
  refine lv_iconst (v := 4) hx hb dX11_isCut_16 (by decide) ?_
  refine lv_icmp_ge (tgt := 54) hx hb dX11_isCut_17 (by decide) (fun hc => ?_) (fun hc => ?_)
  · replace hf := pw_ifp hc hf
    refine lv_iconst (v := 1) hx hb dX11_isCut_54 (by decide) ?_
    exact pw_zret hC hw hf dX11_isCut_55
  · replace hf := pw_ifn hc hf
    refine lv_iload_n hx hb dX11_isCut_20 rfl (lv_at hl 1 rfl) ?_
    refine lv_iload_n hx hb dX11_isCut_21 rfl (lv_at hl 2 rfl) ?_
    obtain ⟨r1, σ1, h1, hf⟩ := pw_bi_some hf
    refine pw_ci hw (pw_runS (As := [.int x1, .int x2]) (rest := []) hC hw (c_X11_part  h1) mw_901 wm_X11_part ⟨Nat.zero_le _, Nat.zero_le _⟩ ⟨rfl, rfl, Nat.le_of_ble_eq_true rfl, Nat.le_of_ble_eq_true rfl⟩ rfl hl.1 rfl (Nat.le_of_ble_eq_true rfl) dX11_isCut_22) (fun H locs hw => ?_)
    refine lv_iload_n hx hb dX11_isCut_25 rfl (lv_at hl 2 rfl) ?_
    refine lv_aload_n hx hb dX11_isCut_26 rfl (lv_at hl 0 rfl) ?_
    refine pg_10_1 hC hw mw_750 dX11_isCut_27 ?_
    refine lv_icmp_ge (tgt := 42) hx hb dX11_isCut_30 (by decide) (fun hc => ?_) (fun hc => ?_)
    · replace hf := pw_ifp hc hf
      refine lv_iconst (v := 0) hx hb dX11_isCut_42 (by decide) ?_
      exact t_X11_isCut_43 hC hk15  hw (lv_sub hl [0, 1, 2] rfl) hf
    · replace hf := pw_ifn hc hf
      refine lv_aload_n hx hb dX11_isCut_33 rfl (lv_at hl 0 rfl) ?_
      refine pg_10_2 hC hw mw_751 dX11_isCut_34 ?_
      refine lv_iload_n hx hb dX11_isCut_37 rfl (lv_at hl 2 rfl) ?_
      obtain ⟨hin, hf⟩ := pw_gd hf
      refine pw_ild hC hw ca_34 hin dX11_isCut_38 ?_
      refine lv_goto (tgt := 43) hx hb dX11_isCut_39 (by decide) ?_
      exact t_X11_isCut_43 hC hk15  hw (lv_sub hl [0, 1, 2] rfl) hf
set_option maxHeartbeats 4000000 in
theorem tl_X11_isCut_15 (hC : pw_CX G RX11 cX11_isCut 3 (some .boolean) p s m args meth c) {r : Int32} {τ : pw_St} : ∀ (n : Nat) (x1 : Int32) (x2 : Int32) (σ : pw_St) (H : Heap) (locs : List Loc) (ls : Array Slot), pw_WH G σ s.heap H locs → lv_has ls 3 [(0, .ref (pw_ad G 10)), (1, .int x1), (2, .int x2)] → l_X11_isCut_15  n x1 x2 σ = some (r, τ) → W p l e rm_X11_isCut s m args below meth c H locs 0 0 (MQ below (pw_Qi G r τ) args s 0 0 (pw_gA G)) (F0 m 15 ls []) := by
  intro n
  induction n with
  | zero => intro x1 x2 σ H locs ls hw hl hf; cases hf
  | succ n ih => intro x1 x2 σ H locs ls hw hl hf; exact t_X11_isCut_15 hC ih  hw hl hf
set_option maxHeartbeats 4000000 in
set_option maxRecDepth 100000 in
theorem c_X11_isCut {l : Launch} {G : pw_Gh} {x1 : Int32} {σ : pw_St} {r : Int32} {τ : pw_St} (hf : f_X11_isCut x1 σ = some (r, τ)) : Met l yX11_isCut (.code yX11_isCut cX11_isCut 3 (some .boolean) :: pw_BW) rm_X11_isCut (pw_Pc G [.ref (pw_ad G 10), .int x1] σ) (pw_Qi G r τ) 0 0 (pw_gA G) := by
  refine pw_met (by decide +kernel) (Nat.le_of_ble_eq_true rfl) ?_
  intro p e s m args below meth c ls hC hw hl
  replace hl : lv_has ls 3 [(0, .ref (pw_ad G 10)), (1, .int x1)] := hl
  have hx := hC.1
  have hb := hC.2.1
  unfold f_X11_isCut at hf
  refine lv_iload_n hx hb dX11_isCut_0 rfl (lv_at hl 1 rfl) ?_
  refine lv_iconst (v := 0) hx hb dX11_isCut_1 (by decide) ?_
  refine lv_sipush (v := 2400) hx hb dX11_isCut_2 (by decide) ?_
  obtain ⟨r1, σ1, h1, hf⟩ := pw_bi_some hf
  refine pw_ci hw (pw_runS (As := [.int x1, .int (0 : Int32), .int (2400 : Int32)]) (rest := []) hC hw (c_X11_in  h1) mw_846 wm_X11_in ⟨Nat.zero_le _, Nat.zero_le _⟩ ⟨rfl, rfl, Nat.le_of_ble_eq_true rfl, Nat.le_of_ble_eq_true rfl⟩ rfl hl.1 rfl (Nat.le_of_ble_eq_true rfl) dX11_isCut_5) (fun H locs hw => ?_)
  refine lv_if_ne (tgt := 13) hx hb dX11_isCut_8 (by decide) (fun hc => ?_) (fun hc => ?_)
  · replace hf := pw_ifn hc hf
    refine lv_iconst (v := 0) hx hb dX11_isCut_13 (by decide) ?_
    refine lv_istore_n (lv' := [(2, .int (0 : Int32)), (0, .ref (pw_ad G 10)), (1, .int x1)]) hx hb dX11_isCut_14 rfl hl (by decide) rfl (fun ls hl => ?_)
    exact tl_X11_isCut_15 hC  pw_FU _ _ _ _ _ _ hw (lv_sub hl [1, 2, 0] rfl) hf
  · replace hf := pw_ifp hc hf
    refine lv_iconst (v := 0) hx hb dX11_isCut_11 (by decide) ?_
    exact pw_zret hC hw hf dX11_isCut_12
-- PerhapsWasModel sizeOf
def b_X11_sizeOf_4 (k4 : Int32 → Int32 → Int32 → pw_St → Option (Int32 × pw_St)) (x0 : Int32) (x1 : Int32) (x2 : Int32) (σ : pw_St) : Option (Int32 × pw_St) := (if (4 : Int32) ≤ x2 then (some (x1, σ)) else (pw_bi (f_X11_part x0 x2 σ) fun r1 σ1 => (k4 x0 (x1 + r1) (x2 + (1 : Int32)) σ1)))
def l_X11_sizeOf_4 : Nat → Int32 → Int32 → Int32 → pw_St → Option (Int32 × pw_St)
  | 0 => fun _ _ _ _ => none
  | n + 1 => fun x0 x1 x2 σ => b_X11_sizeOf_4  (l_X11_sizeOf_4  n) x0 x1 x2 σ
def f_X11_sizeOf (x0 : Int32) (σ : pw_St) : Option (Int32 × pw_St) := (l_X11_sizeOf_4  pw_FU x0 (0 : Int32) (0 : Int32) σ)
def rm_X11_sizeOf : Room := { frames := 2, cells := 0, slots := 0, locals := 41 }
set_option maxHeartbeats 4000000 in
set_option maxRecDepth 100000 in
theorem t_X11_sizeOf_4 (hC : pw_CX G RX11 cX11_sizeOf 3 (some .int) p s m args meth c) {k4 : Int32 → Int32 → Int32 → pw_St → Option (Int32 × pw_St)} {r : Int32} {τ : pw_St} (hk4 : ∀ (x0 : Int32), ∀ (x1 : Int32), ∀ (x2 : Int32), ∀ (σ : pw_St) (H : Heap) (locs : List Loc) (ls : Array Slot), pw_WH G σ s.heap H locs → lv_has ls 3 [(0, .int x0), (1, .int x1), (2, .int x2)] → k4 x0 x1 x2 σ = some (r, τ) → W p l e rm_X11_sizeOf s m args below meth c H locs 0 0 (MQ below (pw_Qi G r τ) args s 0 0 (pw_gA G)) (F0 m 4 ls [])) {x0 : Int32} {x1 : Int32} {x2 : Int32} {σ : pw_St} {H : Heap} {locs : List Loc} {ls : Array Slot} (hw : pw_WH G σ s.heap H locs) (hl : lv_has ls 3 [(0, .int x0), (1, .int x1), (2, .int x2)]) (hf : b_X11_sizeOf_4 k4 x0 x1 x2 σ = some (r, τ)) : W p l e rm_X11_sizeOf s m args below meth c H locs 0 0 (MQ below (pw_Qi G r τ) args s 0 0 (pw_gA G)) (F0 m 4 ls []) := by
  have hx := hC.1
  have hb := hC.2.1
  unfold b_X11_sizeOf_4 at hf
  refine lv_iload_n hx hb dX11_sizeOf_4 rfl (lv_at hl 2 rfl) ?_
  refine lv_iconst (v := 4) hx hb dX11_sizeOf_5 (by decide) ?_
  refine lv_icmp_ge (tgt := 23) hx hb dX11_sizeOf_6 (by decide) (fun hc => ?_) (fun hc => ?_)
  · replace hf := pw_ifp hc hf
    refine lv_iload_n hx hb dX11_sizeOf_23 rfl (lv_at hl 1 rfl) ?_
    exact pw_iret hC hw hf dX11_sizeOf_24
  · replace hf := pw_ifn hc hf
    refine lv_iload_n hx hb dX11_sizeOf_9 rfl (lv_at hl 1 rfl) ?_
    refine lv_iload_n hx hb dX11_sizeOf_10 rfl (lv_at hl 0 rfl) ?_
    refine lv_iload_n hx hb dX11_sizeOf_11 rfl (lv_at hl 2 rfl) ?_
    obtain ⟨r1, σ1, h1, hf⟩ := pw_bi_some hf
    refine pw_ci hw (pw_runS (As := [.int x0, .int x2]) (rest := [.int x1]) hC hw (c_X11_part  h1) mw_901 wm_X11_part ⟨Nat.zero_le _, Nat.zero_le _⟩ ⟨rfl, rfl, Nat.le_of_ble_eq_true rfl, Nat.le_of_ble_eq_true rfl⟩ rfl hl.1 rfl (Nat.le_of_ble_eq_true rfl) dX11_sizeOf_12) (fun H locs hw => ?_)
    refine lv_iadd hx hb dX11_sizeOf_15 ?_
    refine lv_istore_n (lv' := [(1, .int (x1 + r1)), (0, .int x0), (2, .int x2)]) hx hb dX11_sizeOf_16 rfl hl (by decide) rfl (fun ls hl => ?_)
    refine lv_iinc (v := (x2 + (1 : Int32))) (lv' := [(2, .int (x2 + (1 : Int32))), (1, .int (x1 + r1)), (0, .int x0)]) hx hb dX11_sizeOf_17 hl (k := 2) rfl rfl (by decide) rfl (fun ls hl => ?_)
    refine lv_goto (tgt := 4) hx hb dX11_sizeOf_20 (by decide) ?_
    exact hk4 _ _ _ _ _ _ _ hw (lv_sub hl [2, 1, 0] rfl) hf
set_option maxHeartbeats 4000000 in
theorem tl_X11_sizeOf_4 (hC : pw_CX G RX11 cX11_sizeOf 3 (some .int) p s m args meth c) {r : Int32} {τ : pw_St} : ∀ (n : Nat) (x0 : Int32) (x1 : Int32) (x2 : Int32) (σ : pw_St) (H : Heap) (locs : List Loc) (ls : Array Slot), pw_WH G σ s.heap H locs → lv_has ls 3 [(0, .int x0), (1, .int x1), (2, .int x2)] → l_X11_sizeOf_4  n x0 x1 x2 σ = some (r, τ) → W p l e rm_X11_sizeOf s m args below meth c H locs 0 0 (MQ below (pw_Qi G r τ) args s 0 0 (pw_gA G)) (F0 m 4 ls []) := by
  intro n
  induction n with
  | zero => intro x0 x1 x2 σ H locs ls hw hl hf; cases hf
  | succ n ih => intro x0 x1 x2 σ H locs ls hw hl hf; exact t_X11_sizeOf_4 hC ih  hw hl hf
set_option maxHeartbeats 4000000 in
set_option maxRecDepth 100000 in
theorem c_X11_sizeOf {l : Launch} {G : pw_Gh} {x0 : Int32} {σ : pw_St} {r : Int32} {τ : pw_St} (hf : f_X11_sizeOf x0 σ = some (r, τ)) : Met l yX11_sizeOf (.code yX11_sizeOf cX11_sizeOf 3 (some .int) :: pw_BW) rm_X11_sizeOf (pw_Pc G [.int x0] σ) (pw_Qi G r τ) 0 0 (pw_gA G) := by
  refine pw_met (by decide +kernel) (Nat.le_of_ble_eq_true rfl) ?_
  intro p e s m args below meth c ls hC hw hl
  replace hl : lv_has ls 3 [(0, .int x0)] := hl
  have hx := hC.1
  have hb := hC.2.1
  unfold f_X11_sizeOf at hf
  refine lv_iconst (v := 0) hx hb dX11_sizeOf_0 (by decide) ?_
  refine lv_istore_n (lv' := [(1, .int (0 : Int32)), (0, .int x0)]) hx hb dX11_sizeOf_1 rfl hl (by decide) rfl (fun ls hl => ?_)
  refine lv_iconst (v := 0) hx hb dX11_sizeOf_2 (by decide) ?_
  refine lv_istore_n (lv' := [(2, .int (0 : Int32)), (1, .int (0 : Int32)), (0, .int x0)]) hx hb dX11_sizeOf_3 rfl hl (by decide) rfl (fun ls hl => ?_)
  exact tl_X11_sizeOf_4 hC  pw_FU _ _ _ _ _ _ _ hw (lv_sub hl [2, 1, 0] rfl) hf
end PM
