section PM
variable {p : Program} {l : Launch} {e : Env} {s : State} {m : MethodId} {args : Array Value} {below : List Frame} {meth : Method} {c : Code} {G : pw_Gh}
-- PerhapsWas$History takeIn
def f_X2_takeIn (x1 : Int32) (σ : pw_St) : Option (Int32 × pw_St) := (if pw_in x1 24 = true then (if pw_in (σ.1 19 x1.toNatClampNeg) 4 = true then (if pw_in x1 24 = true then (pw_lt (pw_sM σ 21 x1.toNatClampNeg (σ.1 11 (σ.1 19 x1.toNatClampNeg).toNatClampNeg)) fun σ1 => (pw_bi (f_X2_append (σ.1 19 x1.toNatClampNeg) (3 : Int32) x1 σ1) fun r2 σ2 => (if pw_in x1 24 = true then (if pw_in x1 24 = true then (pw_bv (f_X2_follow (σ.1 19 x1.toNatClampNeg) (σ2.1 18 x1.toNatClampNeg) (σ2.1 20 x1.toNatClampNeg) σ2) fun σ3 => (some (r2, σ3))) else none) else none))) else none) else none) else none)
def rm_X2_takeIn : Room := { frames := 2, cells := 0, slots := 0, locals := 49 }
set_option maxHeartbeats 4000000 in
set_option maxRecDepth 100000 in
theorem c_X2_takeIn {l : Launch} {G : pw_Gh} {x1 : Int32} {σ : pw_St} {r : Int32} {τ : pw_St} (hf : f_X2_takeIn x1 σ = some (r, τ)) : Met l yX2_takeIn (.code yX2_takeIn cX2_takeIn 4 (some .int) :: pw_BW) rm_X2_takeIn (pw_Pc G [.ref (pw_ad G 1), .int x1] σ) (pw_Qi G r τ) 0 0 (pw_gA G) := by
  refine pw_met (by decide +kernel) (Nat.le_of_ble_eq_true rfl) ?_
  intro p e s m args below meth c ls hC hw hl
  replace hl : lv_has ls 4 [(0, .ref (pw_ad G 1)), (1, .int x1)] := hl
  have hx := hC.1
  have hb := hC.2.1
  unfold f_X2_takeIn at hf
  refine lv_aload_n hx hb dX2_takeIn_0 rfl (lv_at hl 0 rfl) ?_
  refine pg_1_0 hC hw mw_100 dX2_takeIn_1 ?_
  refine pg_2_1 hC hw mw_75 dX2_takeIn_4 ?_
  refine lv_iload_n hx hb dX2_takeIn_7 rfl (lv_at hl 1 rfl) ?_
  obtain ⟨hin, hf⟩ := pw_gd hf
  refine pw_ild hC hw ca_19 hin dX2_takeIn_8 ?_
  refine lv_istore_n (lv' := [(2, .int (σ.1 19 x1.toNatClampNeg)), (0, .ref (pw_ad G 1)), (1, .int x1)]) hx hb dX2_takeIn_9 rfl hl (by decide) rfl (fun ls hl => ?_)
  refine lv_aload_n hx hb dX2_takeIn_10 rfl (lv_at hl 1 rfl) ?_
  refine pg_1_0 hC hw mw_100 dX2_takeIn_11 ?_
  refine pg_2_3 hC hw mw_83 dX2_takeIn_14 ?_
  refine lv_iload_n hx hb dX2_takeIn_17 rfl (lv_at hl 2 rfl) ?_
  refine lv_aload_n hx hb dX2_takeIn_18 rfl (lv_at hl 1 rfl) ?_
  refine pg_1_1 hC hw mw_103 dX2_takeIn_19 ?_
  refine lv_iload_n hx hb dX2_takeIn_22 rfl (lv_at hl 0 rfl) ?_
  obtain ⟨hin, hf⟩ := pw_gd hf
  refine pw_ild hC hw ca_11 hin dX2_takeIn_23 ?_
  obtain ⟨hin, hf⟩ := pw_gd hf
  refine pw_ist hC hw ca_21 hin dX2_takeIn_24 (fun H locs hw => ?_)
  obtain ⟨σ1, e1, hf⟩ := pw_lts hf
  replace hw := pw_WHe e1 hw
  refine lv_aload_n hx hb dX2_takeIn_25 rfl (lv_at hl 1 rfl) ?_
  refine lv_iload_n hx hb dX2_takeIn_26 rfl (lv_at hl 0 rfl) ?_
  refine lv_iconst (v := 3) hx hb dX2_takeIn_27 (by decide) ?_
  refine lv_iload_n hx hb dX2_takeIn_28 rfl (lv_at hl 2 rfl) ?_
  obtain ⟨r2, σ2, h2, hf⟩ := pw_bi_some hf
  refine pw_ci hw (pw_runV (As := [.int (σ.1 19 x1.toNatClampNeg), .int (3 : Int32), .int x1]) (rest := []) hC hw (c_X2_append  h2) mw_349 wm_X2_append ⟨Nat.zero_le _, Nat.zero_le _⟩ ⟨rfl, rfl, Nat.le_of_ble_eq_true rfl, Nat.le_of_ble_eq_true rfl⟩ (by decide) rfl rfl rfl hl.1 rfl (Nat.le_of_ble_eq_true rfl) dX2_takeIn_29) (fun H locs hw => ?_)
  refine lv_istore_n (lv' := [(3, .int r2), (2, .int (σ.1 19 x1.toNatClampNeg)), (0, .ref (pw_ad G 1)), (1, .int x1)]) hx hb dX2_takeIn_32 rfl hl (by decide) rfl (fun ls hl => ?_)
  refine lv_aload_n hx hb dX2_takeIn_33 rfl (lv_at hl 2 rfl) ?_
  refine lv_iload_n hx hb dX2_takeIn_34 rfl (lv_at hl 1 rfl) ?_
  refine lv_aload_n hx hb dX2_takeIn_35 rfl (lv_at hl 2 rfl) ?_
  refine pg_1_0 hC hw mw_100 dX2_takeIn_36 ?_
  refine pg_2_0 hC hw mw_71 dX2_takeIn_39 ?_
  refine lv_iload_n hx hb dX2_takeIn_42 rfl (lv_at hl 3 rfl) ?_
  obtain ⟨hin, hf⟩ := pw_gd hf
  refine pw_ild hC hw ca_18 hin dX2_takeIn_43 ?_
  refine lv_aload_n hx hb dX2_takeIn_44 rfl (lv_at hl 2 rfl) ?_
  refine pg_1_0 hC hw mw_100 dX2_takeIn_45 ?_
  refine pg_2_2 hC hw mw_79 dX2_takeIn_48 ?_
  refine lv_iload_n hx hb dX2_takeIn_51 rfl (lv_at hl 3 rfl) ?_
  obtain ⟨hin, hf⟩ := pw_gd hf
  refine pw_ild hC hw ca_20 hin dX2_takeIn_52 ?_
  obtain ⟨σ3, h3, hf⟩ := pw_bv_some hf
  refine pw_cv hw (pw_runV (As := [.int (σ.1 19 x1.toNatClampNeg), .int (σ2.1 18 x1.toNatClampNeg), .int (σ2.1 20 x1.toNatClampNeg)]) (rest := []) hC hw (c_X2_follow  h3) mw_391 wm_X2_follow ⟨Nat.zero_le _, Nat.zero_le _⟩ ⟨rfl, rfl, Nat.le_of_ble_eq_true rfl, Nat.le_of_ble_eq_true rfl⟩ (by decide) rfl rfl rfl hl.1 rfl (Nat.le_of_ble_eq_true rfl) dX2_takeIn_53) (fun H locs hw => ?_)
  refine lv_iload_n hx hb dX2_takeIn_56 rfl (lv_at hl 0 rfl) ?_
  exact pw_iret hC hw hf dX2_takeIn_57
-- PerhapsWas$History awaitAll
def f_X2_awaitAll (x1 : Int32) (x2 : Int32) (σ : pw_St) : Option (Int32 × pw_St) := (pw_bi (f_X2_append x1 (4 : Int32) x2 σ) fun r1 σ1 => (if pw_in x2 4 = true then (if (σ1.1 11 x2.toNatClampNeg) ≤ 0 then (some (r1, σ1)) else (if pw_in x2 4 = true then (pw_bv (f_X2_follow x1 x2 ((σ1.1 11 x2.toNatClampNeg) - (1 : Int32)) σ1) fun σ2 => (some (r1, σ2))) else none)) else none))
def rm_X2_awaitAll : Room := { frames := 2, cells := 0, slots := 0, locals := 49 }
set_option maxHeartbeats 4000000 in
set_option maxRecDepth 100000 in
theorem c_X2_awaitAll {l : Launch} {G : pw_Gh} {x1 : Int32} {x2 : Int32} {σ : pw_St} {r : Int32} {τ : pw_St} (hf : f_X2_awaitAll x1 x2 σ = some (r, τ)) : Met l yX2_awaitAll (.code yX2_awaitAll cX2_awaitAll 4 (some .int) :: pw_BW) rm_X2_awaitAll (pw_Pc G [.ref (pw_ad G 1), .int x1, .int x2] σ) (pw_Qi G r τ) 0 0 (pw_gA G) := by
  refine pw_met (by decide +kernel) (Nat.le_of_ble_eq_true rfl) ?_
  intro p e s m args below meth c ls hC hw hl
  replace hl : lv_has ls 4 [(0, .ref (pw_ad G 1)), (1, .int x1), (2, .int x2)] := hl
  have hx := hC.1
  have hb := hC.2.1
  unfold f_X2_awaitAll at hf
  refine lv_aload_n hx hb dX2_awaitAll_0 rfl (lv_at hl 0 rfl) ?_
  refine lv_iload_n hx hb dX2_awaitAll_1 rfl (lv_at hl 1 rfl) ?_
  refine lv_iconst (v := 4) hx hb dX2_awaitAll_2 (by decide) ?_
  refine lv_iload_n hx hb dX2_awaitAll_3 rfl (lv_at hl 2 rfl) ?_
  obtain ⟨r1, σ1, h1, hf⟩ := pw_bi_some hf
  refine pw_ci hw (pw_runV (As := [.int x1, .int (4 : Int32), .int x2]) (rest := []) hC hw (c_X2_append  h1) mw_349 wm_X2_append ⟨Nat.zero_le _, Nat.zero_le _⟩ ⟨rfl, rfl, Nat.le_of_ble_eq_true rfl, Nat.le_of_ble_eq_true rfl⟩ (by decide) rfl rfl rfl hl.1 rfl (Nat.le_of_ble_eq_true rfl) dX2_awaitAll_4) (fun H locs hw => ?_)
  refine lv_istore_n (lv' := [(3, .int r1), (0, .ref (pw_ad G 1)), (1, .int x1), (2, .int x2)]) hx hb dX2_awaitAll_7 rfl hl (by decide) rfl (fun ls hl => ?_)
  refine lv_aload_n hx hb dX2_awaitAll_8 rfl (lv_at hl 1 rfl) ?_
  refine pg_1_1 hC hw mw_103 dX2_awaitAll_9 ?_
  refine lv_iload_n hx hb dX2_awaitAll_12 rfl (lv_at hl 3 rfl) ?_
  obtain ⟨hin, hf⟩ := pw_gd hf
  refine pw_ild hC hw ca_11 hin dX2_awaitAll_13 ?_
  refine lv_if_le (tgt := 31) hx hb dX2_awaitAll_14 (by decide) (fun hc => ?_) (fun hc => ?_)
  · replace hf := pw_ifp hc hf
    refine lv_iload_n hx hb dX2_awaitAll_31 rfl (lv_at hl 0 rfl) ?_
    exact pw_iret hC hw hf dX2_awaitAll_32
  · replace hf := pw_ifn hc hf
    refine lv_aload_n hx hb dX2_awaitAll_17 rfl (lv_at hl 1 rfl) ?_
    refine lv_iload_n hx hb dX2_awaitAll_18 rfl (lv_at hl 2 rfl) ?_
    refine lv_iload_n hx hb dX2_awaitAll_19 rfl (lv_at hl 3 rfl) ?_
    refine lv_aload_n hx hb dX2_awaitAll_20 rfl (lv_at hl 1 rfl) ?_
    refine pg_1_1 hC hw mw_103 dX2_awaitAll_21 ?_
    refine lv_iload_n hx hb dX2_awaitAll_24 rfl (lv_at hl 3 rfl) ?_
    obtain ⟨hin, hf⟩ := pw_gd hf
    refine pw_ild hC hw ca_11 hin dX2_awaitAll_25 ?_
    refine lv_iconst (v := 1) hx hb dX2_awaitAll_26 (by decide) ?_
    refine lv_isub hx hb dX2_awaitAll_27 ?_
    obtain ⟨σ2, h2, hf⟩ := pw_bv_some hf
    refine pw_cv hw (pw_runV (As := [.int x1, .int x2, .int ((σ1.1 11 x2.toNatClampNeg) - (1 : Int32))]) (rest := []) hC hw (c_X2_follow  h2) mw_391 wm_X2_follow ⟨Nat.zero_le _, Nat.zero_le _⟩ ⟨rfl, rfl, Nat.le_of_ble_eq_true rfl, Nat.le_of_ble_eq_true rfl⟩ (by decide) rfl rfl rfl hl.1 rfl (Nat.le_of_ble_eq_true rfl) dX2_awaitAll_28) (fun H locs hw => ?_)
    refine lv_iload_n hx hb dX2_awaitAll_31 rfl (lv_at hl 0 rfl) ?_
    exact pw_iret hC hw hf dX2_awaitAll_32
-- PerhapsWas$History takeBack
def f_X2_takeBack (σ : pw_St) : Option (Int32 × pw_St) := (pw_lt (pw_sM σ 1 9 ((σ.1 1 9) - (1 : Int32))) fun σ1 => (pw_lt (pw_sM σ1 1 10 ((σ1.1 1 10) + (1 : Int32))) fun σ2 => (if pw_in (σ2.1 1 9) 24 = true then (if pw_in (σ2.1 12 (σ2.1 1 9).toNatClampNeg) 4 = true then (if pw_in (σ2.1 12 (σ2.1 1 9).toNatClampNeg) 4 = true then (pw_lt (pw_sM σ2 11 (σ2.1 12 (σ2.1 1 9).toNatClampNeg).toNatClampNeg ((σ2.1 11 (σ2.1 12 (σ2.1 1 9).toNatClampNeg).toNatClampNeg) - (1 : Int32))) fun σ3 => (if pw_in (σ2.1 12 (σ2.1 1 9).toNatClampNeg) 4 = true then (pw_bi (f_X2_place (σ2.1 12 (σ2.1 1 9).toNatClampNeg) (σ3.1 11 (σ2.1 12 (σ2.1 1 9).toNatClampNeg).toNatClampNeg) σ3) fun r4 σ4 => (if pw_in r4 24 = true then (if (σ4.1 13 r4.toNatClampNeg) = (2 : Int32) then (pw_lt (pw_sM σ4 2 4 ((σ4.1 2 4) - (1 : Int32))) fun σ6 => (some ((σ2.1 12 (σ2.1 1 9).toNatClampNeg), σ6))) else (if pw_in r4 24 = true then (if (σ4.1 13 r4.toNatClampNeg) = (3 : Int32) then (if pw_in r4 24 = true then (if pw_in (σ4.1 14 r4.toNatClampNeg) 24 = true then (pw_lt (pw_sM σ4 21 (σ4.1 14 r4.toNatClampNeg).toNatClampNeg (-1 : Int32)) fun σ5 => (some ((σ2.1 12 (σ2.1 1 9).toNatClampNeg), σ5))) else none) else none) else (some ((σ2.1 12 (σ2.1 1 9).toNatClampNeg), σ4))) else none)) else none)) else none)) else none) else none) else none)))
def rm_X2_takeBack : Room := { frames := 1, cells := 0, slots := 0, locals := 21 }
set_option maxHeartbeats 4000000 in
set_option maxRecDepth 100000 in
theorem c_X2_takeBack {l : Launch} {G : pw_Gh} {σ : pw_St} {r : Int32} {τ : pw_St} (hf : f_X2_takeBack σ = some (r, τ)) : Met l yX2_takeBack (.code yX2_takeBack cX2_takeBack 3 (some .int) :: pw_BW) rm_X2_takeBack (pw_Pc G [.ref (pw_ad G 1)] σ) (pw_Qi G r τ) 0 0 (pw_gA G) := by
  refine pw_met (by decide +kernel) (Nat.le_of_ble_eq_true rfl) ?_
  intro p e s m args below meth c ls hC hw hl
  replace hl : lv_has ls 3 [(0, .ref (pw_ad G 1))] := hl
  have hx := hC.1
  have hb := hC.2.1
  unfold f_X2_takeBack at hf
  refine lv_aload_n hx hb dX2_takeBack_0 rfl (lv_at hl 0 rfl) ?_
  refine lv_dup hx hb dX2_takeBack_1 rfl ?_
  refine pg_1_9 hC hw mw_119 dX2_takeBack_2 ?_
  refine lv_iconst (v := 1) hx hb dX2_takeBack_5 (by decide) ?_
  refine lv_isub hx hb dX2_takeBack_6 ?_
  refine pp_1_9 hC hw mw_119 dX2_takeBack_7 (fun H locs hw => ?_)
  obtain ⟨σ1, e1, hf⟩ := pw_lts hf
  replace hw := pw_WHe e1 hw
  refine lv_aload_n hx hb dX2_takeBack_10 rfl (lv_at hl 0 rfl) ?_
  refine lv_dup hx hb dX2_takeBack_11 rfl ?_
  refine pg_1_10 hC hw mw_121 dX2_takeBack_12 ?_
  refine lv_iconst (v := 1) hx hb dX2_takeBack_15 (by decide) ?_
  refine lv_iadd hx hb dX2_takeBack_16 ?_
  refine pp_1_10 hC hw mw_121 dX2_takeBack_17 (fun H locs hw => ?_)
  obtain ⟨σ2, e2, hf⟩ := pw_lts hf
  replace hw := pw_WHe e2 hw
  refine lv_aload_n hx hb dX2_takeBack_20 rfl (lv_at hl 0 rfl) ?_
  refine pg_1_2 hC hw mw_106 dX2_takeBack_21 ?_
  refine lv_aload_n hx hb dX2_takeBack_24 rfl (lv_at hl 0 rfl) ?_
  refine pg_1_9 hC hw mw_119 dX2_takeBack_25 ?_
  obtain ⟨hin, hf⟩ := pw_gd hf
  refine pw_ild hC hw ca_12 hin dX2_takeBack_28 ?_
  refine lv_istore_n (lv' := [(1, .int (σ2.1 12 (σ2.1 1 9).toNatClampNeg)), (0, .ref (pw_ad G 1))]) hx hb dX2_takeBack_29 rfl hl (by decide) rfl (fun ls hl => ?_)
  refine lv_aload_n hx hb dX2_takeBack_30 rfl (lv_at hl 1 rfl) ?_
  refine pg_1_1 hC hw mw_103 dX2_takeBack_31 ?_
  refine lv_iload_n hx hb dX2_takeBack_34 rfl (lv_at hl 0 rfl) ?_
  refine lv_dup2_11 hx hb dX2_takeBack_35 rfl rfl ?_
  obtain ⟨hin, hf⟩ := pw_gd hf
  refine pw_ild hC hw ca_11 hin dX2_takeBack_36 ?_
  refine lv_iconst (v := 1) hx hb dX2_takeBack_37 (by decide) ?_
  refine lv_isub hx hb dX2_takeBack_38 ?_
  obtain ⟨hin, hf⟩ := pw_gd hf
  refine pw_ist hC hw ca_11 hin dX2_takeBack_39 (fun H locs hw => ?_)
  obtain ⟨σ3, e3, hf⟩ := pw_lts hf
  replace hw := pw_WHe e3 hw
  refine lv_iload_n hx hb dX2_takeBack_40 rfl (lv_at hl 0 rfl) ?_
  refine lv_aload_n hx hb dX2_takeBack_41 rfl (lv_at hl 1 rfl) ?_
  refine pg_1_1 hC hw mw_103 dX2_takeBack_42 ?_
  refine lv_iload_n hx hb dX2_takeBack_45 rfl (lv_at hl 0 rfl) ?_
  obtain ⟨hin, hf⟩ := pw_gd hf
  refine pw_ild hC hw ca_11 hin dX2_takeBack_46 ?_
  obtain ⟨r4, σ4, h4, hf⟩ := pw_bi_some hf
  refine pw_ci hw (pw_runS (As := [.int (σ2.1 12 (σ2.1 1 9).toNatClampNeg), .int (σ3.1 11 (σ2.1 12 (σ2.1 1 9).toNatClampNeg).toNatClampNeg)]) (rest := []) hC hw (c_X2_place  h4) mw_353 wm_X2_place ⟨Nat.zero_le _, Nat.zero_le _⟩ ⟨rfl, rfl, Nat.le_of_ble_eq_true rfl, Nat.le_of_ble_eq_true rfl⟩ rfl hl.1 rfl (Nat.le_of_ble_eq_true rfl) dX2_takeBack_47) (fun H locs hw => ?_)
  refine lv_istore_n (lv' := [(2, .int r4), (1, .int (σ2.1 12 (σ2.1 1 9).toNatClampNeg)), (0, .ref (pw_ad G 1))]) hx hb dX2_takeBack_50 rfl hl (by decide) rfl (fun ls hl => ?_)
  refine lv_aload_n hx hb dX2_takeBack_51 rfl (lv_at hl 2 rfl) ?_
  refine pg_1_3 hC hw mw_107 dX2_takeBack_52 ?_
  refine lv_iload_n hx hb dX2_takeBack_55 rfl (lv_at hl 0 rfl) ?_
  obtain ⟨hin, hf⟩ := pw_gd hf
  refine pw_ild hC hw ca_13 hin dX2_takeBack_56 ?_
  refine lv_iconst (v := 2) hx hb dX2_takeBack_57 (by decide) ?_
  refine lv_icmp_ne (tgt := 77) hx hb dX2_takeBack_58 (by decide) (fun hc => ?_) (fun hc => ?_)
  · replace hf := pw_ifn hc hf
    refine lv_aload_n hx hb dX2_takeBack_77 rfl (lv_at hl 2 rfl) ?_
    refine pg_1_3 hC hw mw_107 dX2_takeBack_78 ?_
    refine lv_iload_n hx hb dX2_takeBack_81 rfl (lv_at hl 0 rfl) ?_
    obtain ⟨hin, hf⟩ := pw_gd hf
    refine pw_ild hC hw ca_13 hin dX2_takeBack_82 ?_
    refine lv_iconst (v := 3) hx hb dX2_takeBack_83 (by decide) ?_
    refine lv_icmp_ne (tgt := 102) hx hb dX2_takeBack_84 (by decide) (fun hc => ?_) (fun hc => ?_)
    · replace hf := pw_ifn hc hf
      refine lv_iload_n hx hb dX2_takeBack_102 rfl (lv_at hl 1 rfl) ?_
      exact pw_iret hC hw hf dX2_takeBack_103
    · replace hf := pw_ifp hc hf
      refine lv_aload_n hx hb dX2_takeBack_87 rfl (lv_at hl 2 rfl) ?_
      refine pg_1_0 hC hw mw_100 dX2_takeBack_88 ?_
      refine pg_2_3 hC hw mw_83 dX2_takeBack_91 ?_
      refine lv_aload_n hx hb dX2_takeBack_94 rfl (lv_at hl 2 rfl) ?_
      refine pg_1_4 hC hw mw_109 dX2_takeBack_95 ?_
      refine lv_iload_n hx hb dX2_takeBack_98 rfl (lv_at hl 0 rfl) ?_
      obtain ⟨hin, hf⟩ := pw_gd hf
      refine pw_ild hC hw ca_14 hin dX2_takeBack_99 ?_
      refine lv_iconst (v := -1) hx hb dX2_takeBack_100 (by decide) ?_
      obtain ⟨hin, hf⟩ := pw_gd hf
      refine pw_ist hC hw ca_21 hin dX2_takeBack_101 (fun H locs hw => ?_)
      obtain ⟨σ5, e5, hf⟩ := pw_lts hf
      replace hw := pw_WHe e5 hw
      refine lv_iload_n hx hb dX2_takeBack_102 rfl (lv_at hl 1 rfl) ?_
      exact pw_iret hC hw hf dX2_takeBack_103
  · replace hf := pw_ifp hc hf
    refine lv_aload_n hx hb dX2_takeBack_61 rfl (lv_at hl 2 rfl) ?_
    refine pg_1_0 hC hw mw_100 dX2_takeBack_62 ?_
    refine lv_dup hx hb dX2_takeBack_65 rfl ?_
    refine pg_2_4 hC hw mw_86 dX2_takeBack_66 ?_
    refine lv_iconst (v := 1) hx hb dX2_takeBack_69 (by decide) ?_
    refine lv_isub hx hb dX2_takeBack_70 ?_
    refine pp_2_4 hC hw mw_86 dX2_takeBack_71 (fun H locs hw => ?_)
    obtain ⟨σ6, e6, hf⟩ := pw_lts hf
    replace hw := pw_WHe e6 hw
    refine lv_goto (tgt := 102) hx hb dX2_takeBack_74 (by decide) ?_
    refine lv_iload_n hx hb dX2_takeBack_102 rfl (lv_at hl 1 rfl) ?_
    exact pw_iret hC hw hf dX2_takeBack_103
-- PerhapsWas$Letters has
def f_X3_has (x1 : Int32) (σ : pw_St) : Option (Int32 × pw_St) := (if x1 < 0 then (if pw_isb (0 : Int32) = true then some ((0 : Int32), σ) else none) else (if (σ.1 2 4) ≤ x1 then (if pw_isb (0 : Int32) = true then some ((0 : Int32), σ) else none) else (if pw_isb (1 : Int32) = true then some ((1 : Int32), σ) else none)))
def rm_X3_has : Room := { frames := 0, cells := 0, slots := 0, locals := 0 }
set_option maxHeartbeats 4000000 in
set_option maxRecDepth 100000 in
theorem c_X3_has {l : Launch} {G : pw_Gh} {x1 : Int32} {σ : pw_St} {r : Int32} {τ : pw_St} (hf : f_X3_has x1 σ = some (r, τ)) : Met l yX3_has (.code yX3_has cX3_has 2 (some .boolean) :: pw_BW) rm_X3_has (pw_Pc G [.ref (pw_ad G 2), .int x1] σ) (pw_Qi G r τ) 0 0 (pw_gA G) := by
  refine pw_met (by decide +kernel) (Nat.le_of_ble_eq_true rfl) ?_
  intro p e s m args below meth c ls hC hw hl
  replace hl : lv_has ls 2 [(0, .ref (pw_ad G 2)), (1, .int x1)] := hl
  have hx := hC.1
  have hb := hC.2.1
  unfold f_X3_has at hf
  refine lv_iload_n hx hb dX3_has_0 rfl (lv_at hl 1 rfl) ?_
  refine lv_if_lt (tgt := 16) hx hb dX3_has_1 (by decide) (fun hc => ?_) (fun hc => ?_)
  · replace hf := pw_ifp hc hf
    refine lv_iconst (v := 0) hx hb dX3_has_16 (by decide) ?_
    exact pw_zret hC hw hf dX3_has_17
  · replace hf := pw_ifn hc hf
    refine lv_iload_n hx hb dX3_has_4 rfl (lv_at hl 1 rfl) ?_
    refine lv_aload_n hx hb dX3_has_5 rfl (lv_at hl 0 rfl) ?_
    refine pg_2_4 hC hw mw_84 dX3_has_6 ?_
    refine lv_icmp_ge (tgt := 16) hx hb dX3_has_9 (by decide) (fun hc => ?_) (fun hc => ?_)
    · replace hf := pw_ifp hc hf
      refine lv_iconst (v := 0) hx hb dX3_has_16 (by decide) ?_
      exact pw_zret hC hw hf dX3_has_17
    · replace hf := pw_ifn hc hf
      refine lv_iconst (v := 1) hx hb dX3_has_12 (by decide) ?_
      refine lv_goto (tgt := 17) hx hb dX3_has_13 (by decide) ?_
      exact pw_zret hC hw hf dX3_has_17
-- PerhapsWas$Letters howManyUntaken
def b_X3_howManyUntaken_4 (k4 : Int32 → Int32 → pw_St → Option (Int32 × pw_St)) (x1 : Int32) (x2 : Int32) (σ : pw_St) : Option (Int32 × pw_St) := (if (σ.1 2 4) ≤ x2 then (some (x1, σ)) else (if pw_in x2 24 = true then (if (σ.1 21 x2.toNatClampNeg) = (-1 : Int32) then (k4 (x1 + (1 : Int32)) (x2 + (1 : Int32)) σ) else (k4 x1 (x2 + (1 : Int32)) σ)) else none))
def l_X3_howManyUntaken_4 : Nat → Int32 → Int32 → pw_St → Option (Int32 × pw_St)
  | 0 => fun _ _ _ => none
  | n + 1 => fun x1 x2 σ => b_X3_howManyUntaken_4  (l_X3_howManyUntaken_4  n) x1 x2 σ
def f_X3_howManyUntaken (σ : pw_St) : Option (Int32 × pw_St) := (l_X3_howManyUntaken_4  pw_FU (0 : Int32) (0 : Int32) σ)
def rm_X3_howManyUntaken : Room := { frames := 0, cells := 0, slots := 0, locals := 0 }
set_option maxHeartbeats 4000000 in
set_option maxRecDepth 100000 in
theorem t_X3_howManyUntaken_4 (hC : pw_CX G RX3 cX3_howManyUntaken 3 (some .int) p s m args meth c) {k4 : Int32 → Int32 → pw_St → Option (Int32 × pw_St)} {r : Int32} {τ : pw_St} (hk4 : ∀ (x1 : Int32), ∀ (x2 : Int32), ∀ (σ : pw_St) (H : Heap) (locs : List Loc) (ls : Array Slot), pw_WH G σ s.heap H locs → lv_has ls 3 [(0, .ref (pw_ad G 2)), (1, .int x1), (2, .int x2)] → k4 x1 x2 σ = some (r, τ) → W p l e rm_X3_howManyUntaken s m args below meth c H locs 0 0 (MQ below (pw_Qi G r τ) args s 0 0 (pw_gA G)) (F0 m 4 ls [])) {x1 : Int32} {x2 : Int32} {σ : pw_St} {H : Heap} {locs : List Loc} {ls : Array Slot} (hw : pw_WH G σ s.heap H locs) (hl : lv_has ls 3 [(0, .ref (pw_ad G 2)), (1, .int x1), (2, .int x2)]) (hf : b_X3_howManyUntaken_4 k4 x1 x2 σ = some (r, τ)) : W p l e rm_X3_howManyUntaken s m args below meth c H locs 0 0 (MQ below (pw_Qi G r τ) args s 0 0 (pw_gA G)) (F0 m 4 ls []) := by
  have hx := hC.1
  have hb := hC.2.1
  unfold b_X3_howManyUntaken_4 at hf
  refine lv_iload_n hx hb dX3_howManyUntaken_4 rfl (lv_at hl 2 rfl) ?_
  refine lv_aload_n hx hb dX3_howManyUntaken_5 rfl (lv_at hl 0 rfl) ?_
  refine pg_2_4 hC hw mw_84 dX3_howManyUntaken_6 ?_
  refine lv_icmp_ge (tgt := 31) hx hb dX3_howManyUntaken_9 (by decide) (fun hc => ?_) (fun hc => ?_)
  · replace hf := pw_ifp hc hf
    refine lv_iload_n hx hb dX3_howManyUntaken_31 rfl (lv_at hl 1 rfl) ?_
    exact pw_iret hC hw hf dX3_howManyUntaken_32
  · replace hf := pw_ifn hc hf
    refine lv_aload_n hx hb dX3_howManyUntaken_12 rfl (lv_at hl 0 rfl) ?_
    refine pg_2_3 hC hw mw_80 dX3_howManyUntaken_13 ?_
    refine lv_iload_n hx hb dX3_howManyUntaken_16 rfl (lv_at hl 2 rfl) ?_
    obtain ⟨hin, hf⟩ := pw_gd hf
    refine pw_ild hC hw ca_21 hin dX3_howManyUntaken_17 ?_
    refine lv_iconst (v := -1) hx hb dX3_howManyUntaken_18 (by decide) ?_
    refine lv_icmp_ne (tgt := 25) hx hb dX3_howManyUntaken_19 (by decide) (fun hc => ?_) (fun hc => ?_)
    · replace hf := pw_ifn hc hf
      refine lv_iinc (v := (x2 + (1 : Int32))) (lv' := [(2, .int (x2 + (1 : Int32))), (0, .ref (pw_ad G 2)), (1, .int x1)]) hx hb dX3_howManyUntaken_25 hl (k := 2) rfl rfl (by decide) rfl (fun ls hl => ?_)
      refine lv_goto (tgt := 4) hx hb dX3_howManyUntaken_28 (by decide) ?_
      exact hk4 _ _ _ _ _ _ hw (lv_sub hl [1, 2, 0] rfl) hf
    · replace hf := pw_ifp hc hf
      refine lv_iinc (v := (x1 + (1 : Int32))) (lv' := [(1, .int (x1 + (1 : Int32))), (0, .ref (pw_ad G 2)), (2, .int x2)]) hx hb dX3_howManyUntaken_22 hl (k := 1) rfl rfl (by decide) rfl (fun ls hl => ?_)
      refine lv_iinc (v := (x2 + (1 : Int32))) (lv' := [(2, .int (x2 + (1 : Int32))), (1, .int (x1 + (1 : Int32))), (0, .ref (pw_ad G 2))]) hx hb dX3_howManyUntaken_25 hl (k := 2) rfl rfl (by decide) rfl (fun ls hl => ?_)
      refine lv_goto (tgt := 4) hx hb dX3_howManyUntaken_28 (by decide) ?_
      exact hk4 _ _ _ _ _ _ hw (lv_sub hl [2, 1, 0] rfl) hf
set_option maxHeartbeats 4000000 in
theorem tl_X3_howManyUntaken_4 (hC : pw_CX G RX3 cX3_howManyUntaken 3 (some .int) p s m args meth c) {r : Int32} {τ : pw_St} : ∀ (n : Nat) (x1 : Int32) (x2 : Int32) (σ : pw_St) (H : Heap) (locs : List Loc) (ls : Array Slot), pw_WH G σ s.heap H locs → lv_has ls 3 [(0, .ref (pw_ad G 2)), (1, .int x1), (2, .int x2)] → l_X3_howManyUntaken_4  n x1 x2 σ = some (r, τ) → W p l e rm_X3_howManyUntaken s m args below meth c H locs 0 0 (MQ below (pw_Qi G r τ) args s 0 0 (pw_gA G)) (F0 m 4 ls []) := by
  intro n
  induction n with
  | zero => intro x1 x2 σ H locs ls hw hl hf; cases hf
  | succ n ih => intro x1 x2 σ H locs ls hw hl hf; exact t_X3_howManyUntaken_4 hC ih  hw hl hf
set_option maxHeartbeats 4000000 in
set_option maxRecDepth 100000 in
theorem c_X3_howManyUntaken {l : Launch} {G : pw_Gh} {σ : pw_St} {r : Int32} {τ : pw_St} (hf : f_X3_howManyUntaken σ = some (r, τ)) : Met l yX3_howManyUntaken (.code yX3_howManyUntaken cX3_howManyUntaken 3 (some .int) :: pw_BW) rm_X3_howManyUntaken (pw_Pc G [.ref (pw_ad G 2)] σ) (pw_Qi G r τ) 0 0 (pw_gA G) := by
  refine pw_met (by decide +kernel) (Nat.le_of_ble_eq_true rfl) ?_
  intro p e s m args below meth c ls hC hw hl
  replace hl : lv_has ls 3 [(0, .ref (pw_ad G 2))] := hl
  have hx := hC.1
  have hb := hC.2.1
  unfold f_X3_howManyUntaken at hf
  refine lv_iconst (v := 0) hx hb dX3_howManyUntaken_0 (by decide) ?_
  refine lv_istore_n (lv' := [(1, .int (0 : Int32)), (0, .ref (pw_ad G 2))]) hx hb dX3_howManyUntaken_1 rfl hl (by decide) rfl (fun ls hl => ?_)
  refine lv_iconst (v := 0) hx hb dX3_howManyUntaken_2 (by decide) ?_
  refine lv_istore_n (lv' := [(2, .int (0 : Int32)), (1, .int (0 : Int32)), (0, .ref (pw_ad G 2))]) hx hb dX3_howManyUntaken_3 rfl hl (by decide) rfl (fun ls hl => ?_)
  exact tl_X3_howManyUntaken_4 hC  pw_FU _ _ _ _ _ _ hw (lv_sub hl [2, 1, 0] rfl) hf
-- PerhapsWas$Marks wipe
def b_X4_wipe_2 (k2 : Int32 → pw_St → Option pw_St) (x2 : Int32) (σ : pw_St) : Option pw_St := (if (σ.1 3 5) ≤ x2 then (some σ) else (if pw_in x2 2401 = true then (if pw_in (σ.1 22 x2.toNatClampNeg) 2401 = true then (pw_lt (pw_sM σ 30 (σ.1 22 x2.toNatClampNeg).toNatClampNeg (vp_nar .boolean (0 : Int32))) fun σ1 => (k2 (x2 + (1 : Int32)) σ1)) else none) else none))
def l_X4_wipe_2 : Nat → Int32 → pw_St → Option pw_St
  | 0 => fun _ _ => none
  | n + 1 => fun x2 σ => b_X4_wipe_2  (l_X4_wipe_2  n) x2 σ
def f_X4_wipe (σ : pw_St) : Option pw_St := (l_X4_wipe_2  pw_FU (0 : Int32) σ)
def rm_X4_wipe : Room := { frames := 0, cells := 0, slots := 0, locals := 0 }
set_option maxHeartbeats 4000000 in
set_option maxRecDepth 100000 in
theorem t_X4_wipe_2 (hC : pw_CX G RX4 cX4_wipe 3 none p s m args meth c) {k2 : Int32 → pw_St → Option pw_St} {τ : pw_St} (hk2 : ∀ (x2 : Int32), ∀ (σ : pw_St) (H : Heap) (locs : List Loc) (ls : Array Slot), pw_WH G σ s.heap H locs → lv_has ls 3 [(0, .ref (pw_ad G 7)), (1, .ref (pw_ad G 3)), (2, .int x2)] → k2 x2 σ = some τ → W p l e rm_X4_wipe s m args below meth c H locs 0 0 (MQ below (pw_Qv G τ) args s 0 0 (pw_gA G)) (F0 m 2 ls [])) {x2 : Int32} {σ : pw_St} {H : Heap} {locs : List Loc} {ls : Array Slot} (hw : pw_WH G σ s.heap H locs) (hl : lv_has ls 3 [(0, .ref (pw_ad G 7)), (1, .ref (pw_ad G 3)), (2, .int x2)]) (hf : b_X4_wipe_2 k2 x2 σ = some τ) : W p l e rm_X4_wipe s m args below meth c H locs 0 0 (MQ below (pw_Qv G τ) args s 0 0 (pw_gA G)) (F0 m 2 ls []) := by
  have hx := hC.1
  have hb := hC.2.1
  unfold b_X4_wipe_2 at hf
  refine lv_iload_n hx hb dX4_wipe_2 rfl (lv_at hl 2 rfl) ?_
  refine lv_aload_n hx hb dX4_wipe_3 rfl (lv_at hl 1 rfl) ?_
  refine pg_3_5 hC hw mw_161 dX4_wipe_4 ?_
  refine lv_icmp_ge (tgt := 28) hx hb dX4_wipe_7 (by decide) (fun hc => ?_) (fun hc => ?_)
  · replace hf := pw_ifp hc hf
    exact pw_vret hC hw hf dX4_wipe_28
  · replace hf := pw_ifn hc hf
    refine lv_aload_n hx hb dX4_wipe_10 rfl (lv_at hl 0 rfl) ?_
    refine pg_7_1 hC hw mw_266 dX4_wipe_11 ?_
    refine lv_aload_n hx hb dX4_wipe_14 rfl (lv_at hl 1 rfl) ?_
    refine pg_3_1 hC hw mw_154 dX4_wipe_15 ?_
    refine lv_iload_n hx hb dX4_wipe_18 rfl (lv_at hl 2 rfl) ?_
    obtain ⟨hin, hf⟩ := pw_gd hf
    refine pw_ild hC hw ca_22 hin dX4_wipe_19 ?_
    refine lv_iconst (v := 0) hx hb dX4_wipe_20 (by decide) ?_
    obtain ⟨hin, hf⟩ := pw_gd hf
    refine pw_zst hC hw ca_30 hin dX4_wipe_21 (fun H locs hw => ?_)
    obtain ⟨σ1, e1, hf⟩ := pw_lts hf
    replace hw := pw_WHe e1 hw
    refine lv_iinc (v := (x2 + (1 : Int32))) (lv' := [(2, .int (x2 + (1 : Int32))), (0, .ref (pw_ad G 7)), (1, .ref (pw_ad G 3))]) hx hb dX4_wipe_22 hl (k := 2) rfl rfl (by decide) rfl (fun ls hl => ?_)
    refine lv_goto (tgt := 2) hx hb dX4_wipe_25 (by decide) ?_
    exact hk2 _ _ _ _ _ hw (lv_sub hl [1, 2, 0] rfl) hf
set_option maxHeartbeats 4000000 in
theorem tl_X4_wipe_2 (hC : pw_CX G RX4 cX4_wipe 3 none p s m args meth c) {τ : pw_St} : ∀ (n : Nat) (x2 : Int32) (σ : pw_St) (H : Heap) (locs : List Loc) (ls : Array Slot), pw_WH G σ s.heap H locs → lv_has ls 3 [(0, .ref (pw_ad G 7)), (1, .ref (pw_ad G 3)), (2, .int x2)] → l_X4_wipe_2  n x2 σ = some τ → W p l e rm_X4_wipe s m args below meth c H locs 0 0 (MQ below (pw_Qv G τ) args s 0 0 (pw_gA G)) (F0 m 2 ls []) := by
  intro n
  induction n with
  | zero => intro x2 σ H locs ls hw hl hf; cases hf
  | succ n ih => intro x2 σ H locs ls hw hl hf; exact t_X4_wipe_2 hC ih  hw hl hf
set_option maxHeartbeats 4000000 in
set_option maxRecDepth 100000 in
theorem c_X4_wipe {l : Launch} {G : pw_Gh} {σ : pw_St} {τ : pw_St} (hf : f_X4_wipe σ = some τ) : Met l yX4_wipe (.code yX4_wipe cX4_wipe 3 none :: pw_BW) rm_X4_wipe (pw_Pc G [.ref (pw_ad G 7), .ref (pw_ad G 3)] σ) (pw_Qv G τ) 0 0 (pw_gA G) := by
  refine pw_met (by decide +kernel) (Nat.le_of_ble_eq_true rfl) ?_
  intro p e s m args below meth c ls hC hw hl
  replace hl : lv_has ls 3 [(0, .ref (pw_ad G 7)), (1, .ref (pw_ad G 3))] := hl
  have hx := hC.1
  have hb := hC.2.1
  unfold f_X4_wipe at hf
  refine lv_iconst (v := 0) hx hb dX4_wipe_0 (by decide) ?_
  refine lv_istore_n (lv' := [(2, .int (0 : Int32)), (0, .ref (pw_ad G 7)), (1, .ref (pw_ad G 3))]) hx hb dX4_wipe_1 rfl hl (by decide) rfl (fun ls hl => ?_)
  exact tl_X4_wipe_2 hC  pw_FU _ _ _ _ _ hw (lv_sub hl [1, 2, 0] rfl) hf
-- PerhapsWas$Net shareOf
def b_X6_shareOf_4 (k4 : Int32 → Int32 → Int32 → pw_St → Option (Int32 × pw_St)) (x1 : Int32) (x2 : Int32) (x3 : Int32) (σ : pw_St) : Option (Int32 × pw_St) := (if x1 ≤ x3 then (some ((x2 - x2 / (7 : Int32) * (7 : Int32)), σ)) else (k4 x1 (x2 / (7 : Int32)) (x3 + (1 : Int32)) σ))
def l_X6_shareOf_4 : Nat → Int32 → Int32 → Int32 → pw_St → Option (Int32 × pw_St)
  | 0 => fun _ _ _ _ => none
  | n + 1 => fun x1 x2 x3 σ => b_X6_shareOf_4  (l_X6_shareOf_4  n) x1 x2 x3 σ
def f_X6_shareOf (x0 : Int32) (x1 : Int32) (σ : pw_St) : Option (Int32 × pw_St) := (l_X6_shareOf_4  pw_FU x1 x0 (0 : Int32) σ)
def rm_X6_shareOf : Room := { frames := 0, cells := 0, slots := 0, locals := 0 }
set_option maxHeartbeats 4000000 in
set_option maxRecDepth 100000 in
theorem t_X6_shareOf_4 (hC : pw_CX G RX6 cX6_shareOf 4 (some .int) p s m args meth c) {k4 : Int32 → Int32 → Int32 → pw_St → Option (Int32 × pw_St)} {r : Int32} {τ : pw_St} (hk4 : ∀ (x1 : Int32), ∀ (x2 : Int32), ∀ (x3 : Int32), ∀ (σ : pw_St) (H : Heap) (locs : List Loc) (ls : Array Slot), pw_WH G σ s.heap H locs → lv_has ls 4 [(1, .int x1), (2, .int x2), (3, .int x3)] → k4 x1 x2 x3 σ = some (r, τ) → W p l e rm_X6_shareOf s m args below meth c H locs 0 0 (MQ below (pw_Qi G r τ) args s 0 0 (pw_gA G)) (F0 m 4 ls [])) {x1 : Int32} {x2 : Int32} {x3 : Int32} {σ : pw_St} {H : Heap} {locs : List Loc} {ls : Array Slot} (hw : pw_WH G σ s.heap H locs) (hl : lv_has ls 4 [(1, .int x1), (2, .int x2), (3, .int x3)]) (hf : b_X6_shareOf_4 k4 x1 x2 x3 σ = some (r, τ)) : W p l e rm_X6_shareOf s m args below meth c H locs 0 0 (MQ below (pw_Qi G r τ) args s 0 0 (pw_gA G)) (F0 m 4 ls []) := by
  have hx := hC.1
  have hb := hC.2.1
  unfold b_X6_shareOf_4 at hf
  refine lv_iload_n hx hb dX6_shareOf_4 rfl (lv_at hl 2 rfl) ?_
  refine lv_iload_n hx hb dX6_shareOf_5 rfl (lv_at hl 0 rfl) ?_
  refine lv_icmp_ge (tgt := 20) hx hb dX6_shareOf_6 (by decide) (fun hc => ?_) (fun hc => ?_)
  · replace hf := pw_ifp hc hf
    refine lv_iload_n hx hb dX6_shareOf_20 rfl (lv_at hl 1 rfl) ?_
    refine lv_bipush (v := 7) hx hb dX6_shareOf_21 (by decide) ?_
    refine lv_irem hx hb dX6_shareOf_23 (by decide) ?_
    exact pw_iret hC hw hf dX6_shareOf_24
  · replace hf := pw_ifn hc hf
    refine lv_iload_n hx hb dX6_shareOf_9 rfl (lv_at hl 1 rfl) ?_
    refine lv_bipush (v := 7) hx hb dX6_shareOf_10 (by decide) ?_
    refine lv_idiv hx hb dX6_shareOf_12 (by decide) ?_
    refine lv_istore_n (lv' := [(2, .int (x2 / (7 : Int32))), (1, .int x1), (3, .int x3)]) hx hb dX6_shareOf_13 rfl hl (by decide) rfl (fun ls hl => ?_)
    refine lv_iinc (v := (x3 + (1 : Int32))) (lv' := [(3, .int (x3 + (1 : Int32))), (2, .int (x2 / (7 : Int32))), (1, .int x1)]) hx hb dX6_shareOf_14 hl (k := 2) rfl rfl (by decide) rfl (fun ls hl => ?_)
    refine lv_goto (tgt := 4) hx hb dX6_shareOf_17 (by decide) ?_
    exact hk4 _ _ _ _ _ _ _ hw (lv_sub hl [2, 1, 0] rfl) hf
set_option maxHeartbeats 4000000 in
theorem tl_X6_shareOf_4 (hC : pw_CX G RX6 cX6_shareOf 4 (some .int) p s m args meth c) {r : Int32} {τ : pw_St} : ∀ (n : Nat) (x1 : Int32) (x2 : Int32) (x3 : Int32) (σ : pw_St) (H : Heap) (locs : List Loc) (ls : Array Slot), pw_WH G σ s.heap H locs → lv_has ls 4 [(1, .int x1), (2, .int x2), (3, .int x3)] → l_X6_shareOf_4  n x1 x2 x3 σ = some (r, τ) → W p l e rm_X6_shareOf s m args below meth c H locs 0 0 (MQ below (pw_Qi G r τ) args s 0 0 (pw_gA G)) (F0 m 4 ls []) := by
  intro n
  induction n with
  | zero => intro x1 x2 x3 σ H locs ls hw hl hf; cases hf
  | succ n ih => intro x1 x2 x3 σ H locs ls hw hl hf; exact t_X6_shareOf_4 hC ih  hw hl hf
set_option maxHeartbeats 4000000 in
set_option maxRecDepth 100000 in
theorem c_X6_shareOf {l : Launch} {G : pw_Gh} {x0 : Int32} {x1 : Int32} {σ : pw_St} {r : Int32} {τ : pw_St} (hf : f_X6_shareOf x0 x1 σ = some (r, τ)) : Met l yX6_shareOf (.code yX6_shareOf cX6_shareOf 4 (some .int) :: pw_BW) rm_X6_shareOf (pw_Pc G [.int x0, .int x1] σ) (pw_Qi G r τ) 0 0 (pw_gA G) := by
  refine pw_met (by decide +kernel) (Nat.le_of_ble_eq_true rfl) ?_
  intro p e s m args below meth c ls hC hw hl
  replace hl : lv_has ls 4 [(0, .int x0), (1, .int x1)] := hl
  have hx := hC.1
  have hb := hC.2.1
  unfold f_X6_shareOf at hf
  refine lv_iload_n hx hb dX6_shareOf_0 rfl (lv_at hl 0 rfl) ?_
  refine lv_istore_n (lv' := [(2, .int x0), (0, .int x0), (1, .int x1)]) hx hb dX6_shareOf_1 rfl hl (by decide) rfl (fun ls hl => ?_)
  refine lv_iconst (v := 0) hx hb dX6_shareOf_2 (by decide) ?_
  refine lv_istore_n (lv' := [(3, .int (0 : Int32)), (2, .int x0), (0, .int x0), (1, .int x1)]) hx hb dX6_shareOf_3 rfl hl (by decide) rfl (fun ls hl => ?_)
  exact tl_X6_shareOf_4 hC  pw_FU _ _ _ _ _ _ _ hw (lv_sub hl [3, 1, 0] rfl) hf
-- PerhapsWas$Moment howManyUnderWay
def b_X5_howManyUnderWay_107 (k14 : Int32 → Int32 → Int32 → Int32 → pw_St → Option (Int32 × pw_St)) (x1 : Int32) (x2 : Int32) (x4 : Int32) (x5 : Int32) (x6 : Int32) (x7 : Int32) (y0 : Int32) (σ : pw_St) : Option (Int32 × pw_St) := (if x6 = 0 then (k14 x1 x2 x4 (x5 + (1 : Int32)) σ) else (if x7 = 0 then (k14 x1 x2 x4 (x5 + (1 : Int32)) σ) else (if y0 = 0 then (k14 x1 x2 (x4 + (1 : Int32)) (x5 + (1 : Int32)) σ) else (k14 x1 x2 x4 (x5 + (1 : Int32)) σ))))
def b_X5_howManyUnderWay_106 (k14 : Int32 → Int32 → Int32 → Int32 → pw_St → Option (Int32 × pw_St)) (x1 : Int32) (x2 : Int32) (x4 : Int32) (x5 : Int32) (x6 : Int32) (x7 : Int32) (σ : pw_St) : Option (Int32 × pw_St) := (b_X5_howManyUnderWay_107 k14 x1 x2 x4 x5 x6 x7 (0 : Int32) σ)
def b_X5_howManyUnderWay_73 (k14 : Int32 → Int32 → Int32 → Int32 → pw_St → Option (Int32 × pw_St)) (x1 : Int32) (x2 : Int32) (x4 : Int32) (x5 : Int32) (x6 : Int32) (y0 : Int32) (σ : pw_St) : Option (Int32 × pw_St) := (if pw_in x5 24 = true then (if (σ.1 21 x5.toNatClampNeg) = (-1 : Int32) then (b_X5_howManyUnderWay_106 k14 x1 x2 x4 x5 x6 y0 σ) else (if pw_in x5 24 = true then (if pw_in x2 4 = true then (if (σ.1 28 x2.toNatClampNeg) ≤ (σ.1 21 x5.toNatClampNeg) then (b_X5_howManyUnderWay_106 k14 x1 x2 x4 x5 x6 y0 σ) else (b_X5_howManyUnderWay_107 k14 x1 x2 x4 x5 x6 y0 (1 : Int32) σ)) else none) else none)) else none)
def b_X5_howManyUnderWay_50 (k14 : Int32 → Int32 → Int32 → Int32 → pw_St → Option (Int32 × pw_St)) (x1 : Int32) (x2 : Int32) (x4 : Int32) (x5 : Int32) (y0 : Int32) (σ : pw_St) : Option (Int32 × pw_St) := (if pw_in x5 24 = true then (if pw_in x1 4 = true then (if (σ.1 28 x1.toNatClampNeg) ≤ (σ.1 20 x5.toNatClampNeg) then (b_X5_howManyUnderWay_73 k14 x1 x2 x4 x5 y0 (0 : Int32) σ) else (b_X5_howManyUnderWay_73 k14 x1 x2 x4 x5 y0 (1 : Int32) σ)) else none) else none)
def b_X5_howManyUnderWay_49 (k14 : Int32 → Int32 → Int32 → Int32 → pw_St → Option (Int32 × pw_St)) (x1 : Int32) (x2 : Int32) (x4 : Int32) (x5 : Int32) (σ : pw_St) : Option (Int32 × pw_St) := (b_X5_howManyUnderWay_50 k14 x1 x2 x4 x5 (0 : Int32) σ)
def b_X5_howManyUnderWay_14 (k14 : Int32 → Int32 → Int32 → Int32 → pw_St → Option (Int32 × pw_St)) (x1 : Int32) (x2 : Int32) (x4 : Int32) (x5 : Int32) (σ : pw_St) : Option (Int32 × pw_St) := (if (σ.1 2 4) ≤ x5 then (some (x4, σ)) else (if pw_in x5 24 = true then (if (σ.1 18 x5.toNatClampNeg) = x1 then (if pw_in x5 24 = true then (if (σ.1 19 x5.toNatClampNeg) = x2 then (b_X5_howManyUnderWay_50 k14 x1 x2 x4 x5 (1 : Int32) σ) else (b_X5_howManyUnderWay_49 k14 x1 x2 x4 x5 σ)) else none) else (b_X5_howManyUnderWay_49 k14 x1 x2 x4 x5 σ)) else none))
def l_X5_howManyUnderWay_14 : Nat → Int32 → Int32 → Int32 → Int32 → pw_St → Option (Int32 × pw_St)
  | 0 => fun _ _ _ _ _ => none
  | n + 1 => fun x1 x2 x4 x5 σ => b_X5_howManyUnderWay_14  (l_X5_howManyUnderWay_14  n) x1 x2 x4 x5 σ
def f_X5_howManyUnderWay (x1 : Int32) (x2 : Int32) (σ : pw_St) : Option (Int32 × pw_St) := (l_X5_howManyUnderWay_14  pw_FU x1 x2 (0 : Int32) (0 : Int32) σ)
def rm_X5_howManyUnderWay : Room := { frames := 0, cells := 0, slots := 0, locals := 0 }
set_option maxHeartbeats 4000000 in
set_option maxRecDepth 100000 in
theorem t_X5_howManyUnderWay_107 (hC : pw_CX G RX5 cX5_howManyUnderWay 9 (some .int) p s m args meth c) {k14 : Int32 → Int32 → Int32 → Int32 → pw_St → Option (Int32 × pw_St)} {r : Int32} {τ : pw_St} (hk14 : ∀ (x1 : Int32), ∀ (x2 : Int32), ∀ (x4 : Int32), ∀ (x5 : Int32), ∀ (σ : pw_St) (H : Heap) (locs : List Loc) (ls : Array Slot), pw_WH G σ s.heap H locs → lv_has ls 9 [(0, .ref (pw_ad G 6)), (1, .int x1), (2, .int x2), (3, .ref (pw_ad G 2)), (4, .int x4), (5, .int x5)] → k14 x1 x2 x4 x5 σ = some (r, τ) → W p l e rm_X5_howManyUnderWay s m args below meth c H locs 0 0 (MQ below (pw_Qi G r τ) args s 0 0 (pw_gA G)) (F0 m 14 ls [])) {x1 : Int32} {x2 : Int32} {x4 : Int32} {x5 : Int32} {x6 : Int32} {x7 : Int32} {y0 : Int32} {σ : pw_St} {H : Heap} {locs : List Loc} {ls : Array Slot} (hw : pw_WH G σ s.heap H locs) (hl : lv_has ls 9 [(0, .ref (pw_ad G 6)), (1, .int x1), (2, .int x2), (3, .ref (pw_ad G 2)), (4, .int x4), (5, .int x5), (6, .int x6), (7, .int x7)]) (hf : b_X5_howManyUnderWay_107 k14 x1 x2 x4 x5 x6 x7 y0 σ = some (r, τ)) : W p l e rm_X5_howManyUnderWay s m args below meth c H locs 0 0 (MQ below (pw_Qi G r τ) args s 0 0 (pw_gA G)) (F0 m 107 ls [.int y0]) := by
  have hx := hC.1
  have hb := hC.2.1
  unfold b_X5_howManyUnderWay_107 at hf
  refine lv_istore (lv' := [(8, .int y0), (0, .ref (pw_ad G 6)), (1, .int x1), (2, .int x2), (3, .ref (pw_ad G 2)), (4, .int x4), (5, .int x5), (6, .int x6), (7, .int x7)]) hx hb dX5_howManyUnderWay_107 hl (by decide) rfl (fun ls hl => ?_)
  refine lv_iload hx hb dX5_howManyUnderWay_109 (lv_at hl 7 rfl) ?_
  refine lv_if_eq (tgt := 127) hx hb dX5_howManyUnderWay_111 (by decide) (fun hc => ?_) (fun hc => ?_)
  · replace hf := pw_ifp hc hf
    refine lv_iinc (v := (x5 + (1 : Int32))) (lv' := [(5, .int (x5 + (1 : Int32))), (8, .int y0), (0, .ref (pw_ad G 6)), (1, .int x1), (2, .int x2), (3, .ref (pw_ad G 2)), (4, .int x4), (6, .int x6), (7, .int x7)]) hx hb dX5_howManyUnderWay_127 hl (k := 6) rfl rfl (by decide) rfl (fun ls hl => ?_)
    refine lv_goto (tgt := 14) hx hb dX5_howManyUnderWay_130 (by decide) ?_
    exact hk14 _ _ _ _ _ _ _ _ hw (lv_sub hl [2, 3, 4, 5, 6, 0] rfl) hf
  · replace hf := pw_ifn hc hf
    refine lv_iload hx hb dX5_howManyUnderWay_114 (lv_at hl 8 rfl) ?_
    refine lv_if_eq (tgt := 127) hx hb dX5_howManyUnderWay_116 (by decide) (fun hc => ?_) (fun hc => ?_)
    · replace hf := pw_ifp hc hf
      refine lv_iinc (v := (x5 + (1 : Int32))) (lv' := [(5, .int (x5 + (1 : Int32))), (8, .int y0), (0, .ref (pw_ad G 6)), (1, .int x1), (2, .int x2), (3, .ref (pw_ad G 2)), (4, .int x4), (6, .int x6), (7, .int x7)]) hx hb dX5_howManyUnderWay_127 hl (k := 6) rfl rfl (by decide) rfl (fun ls hl => ?_)
      refine lv_goto (tgt := 14) hx hb dX5_howManyUnderWay_130 (by decide) ?_
      exact hk14 _ _ _ _ _ _ _ _ hw (lv_sub hl [2, 3, 4, 5, 6, 0] rfl) hf
    · replace hf := pw_ifn hc hf
      refine lv_iload hx hb dX5_howManyUnderWay_119 (lv_at hl 0 rfl) ?_
      refine lv_if_ne (tgt := 127) hx hb dX5_howManyUnderWay_121 (by decide) (fun hc => ?_) (fun hc => ?_)
      · replace hf := pw_ifn hc hf
        refine lv_iinc (v := (x5 + (1 : Int32))) (lv' := [(5, .int (x5 + (1 : Int32))), (8, .int y0), (0, .ref (pw_ad G 6)), (1, .int x1), (2, .int x2), (3, .ref (pw_ad G 2)), (4, .int x4), (6, .int x6), (7, .int x7)]) hx hb dX5_howManyUnderWay_127 hl (k := 6) rfl rfl (by decide) rfl (fun ls hl => ?_)
        refine lv_goto (tgt := 14) hx hb dX5_howManyUnderWay_130 (by decide) ?_
        exact hk14 _ _ _ _ _ _ _ _ hw (lv_sub hl [2, 3, 4, 5, 6, 0] rfl) hf
      · replace hf := pw_ifp hc hf
        refine lv_iinc (v := (x4 + (1 : Int32))) (lv' := [(4, .int (x4 + (1 : Int32))), (8, .int y0), (0, .ref (pw_ad G 6)), (1, .int x1), (2, .int x2), (3, .ref (pw_ad G 2)), (5, .int x5), (6, .int x6), (7, .int x7)]) hx hb dX5_howManyUnderWay_124 hl (k := 5) rfl rfl (by decide) rfl (fun ls hl => ?_)
        refine lv_iinc (v := (x5 + (1 : Int32))) (lv' := [(5, .int (x5 + (1 : Int32))), (4, .int (x4 + (1 : Int32))), (8, .int y0), (0, .ref (pw_ad G 6)), (1, .int x1), (2, .int x2), (3, .ref (pw_ad G 2)), (6, .int x6), (7, .int x7)]) hx hb dX5_howManyUnderWay_127 hl (k := 6) rfl rfl (by decide) rfl (fun ls hl => ?_)
        refine lv_goto (tgt := 14) hx hb dX5_howManyUnderWay_130 (by decide) ?_
        exact hk14 _ _ _ _ _ _ _ _ hw (lv_sub hl [3, 4, 5, 6, 1, 0] rfl) hf
set_option maxHeartbeats 4000000 in
set_option maxRecDepth 100000 in
theorem t_X5_howManyUnderWay_106 (hC : pw_CX G RX5 cX5_howManyUnderWay 9 (some .int) p s m args meth c) {k14 : Int32 → Int32 → Int32 → Int32 → pw_St → Option (Int32 × pw_St)} {r : Int32} {τ : pw_St} (hk14 : ∀ (x1 : Int32), ∀ (x2 : Int32), ∀ (x4 : Int32), ∀ (x5 : Int32), ∀ (σ : pw_St) (H : Heap) (locs : List Loc) (ls : Array Slot), pw_WH G σ s.heap H locs → lv_has ls 9 [(0, .ref (pw_ad G 6)), (1, .int x1), (2, .int x2), (3, .ref (pw_ad G 2)), (4, .int x4), (5, .int x5)] → k14 x1 x2 x4 x5 σ = some (r, τ) → W p l e rm_X5_howManyUnderWay s m args below meth c H locs 0 0 (MQ below (pw_Qi G r τ) args s 0 0 (pw_gA G)) (F0 m 14 ls [])) {x1 : Int32} {x2 : Int32} {x4 : Int32} {x5 : Int32} {x6 : Int32} {x7 : Int32} {σ : pw_St} {H : Heap} {locs : List Loc} {ls : Array Slot} (hw : pw_WH G σ s.heap H locs) (hl : lv_has ls 9 [(0, .ref (pw_ad G 6)), (1, .int x1), (2, .int x2), (3, .ref (pw_ad G 2)), (4, .int x4), (5, .int x5), (6, .int x6), (7, .int x7)]) (hf : b_X5_howManyUnderWay_106 k14 x1 x2 x4 x5 x6 x7 σ = some (r, τ)) : W p l e rm_X5_howManyUnderWay s m args below meth c H locs 0 0 (MQ below (pw_Qi G r τ) args s 0 0 (pw_gA G)) (F0 m 106 ls []) := by
  have hx := hC.1
  have hb := hC.2.1
  unfold b_X5_howManyUnderWay_106 at hf
  refine lv_iconst (v := 0) hx hb dX5_howManyUnderWay_106 (by decide) ?_
  exact t_X5_howManyUnderWay_107 hC hk14  hw (lv_sub hl [0, 1, 2, 3, 4, 5, 6, 7] rfl) hf
set_option maxHeartbeats 4000000 in
set_option maxRecDepth 100000 in
theorem t_X5_howManyUnderWay_73 (hC : pw_CX G RX5 cX5_howManyUnderWay 9 (some .int) p s m args meth c) {k14 : Int32 → Int32 → Int32 → Int32 → pw_St → Option (Int32 × pw_St)} {r : Int32} {τ : pw_St} (hk14 : ∀ (x1 : Int32), ∀ (x2 : Int32), ∀ (x4 : Int32), ∀ (x5 : Int32), ∀ (σ : pw_St) (H : Heap) (locs : List Loc) (ls : Array Slot), pw_WH G σ s.heap H locs → lv_has ls 9 [(0, .ref (pw_ad G 6)), (1, .int x1), (2, .int x2), (3, .ref (pw_ad G 2)), (4, .int x4), (5, .int x5)] → k14 x1 x2 x4 x5 σ = some (r, τ) → W p l e rm_X5_howManyUnderWay s m args below meth c H locs 0 0 (MQ below (pw_Qi G r τ) args s 0 0 (pw_gA G)) (F0 m 14 ls [])) {x1 : Int32} {x2 : Int32} {x4 : Int32} {x5 : Int32} {x6 : Int32} {y0 : Int32} {σ : pw_St} {H : Heap} {locs : List Loc} {ls : Array Slot} (hw : pw_WH G σ s.heap H locs) (hl : lv_has ls 9 [(0, .ref (pw_ad G 6)), (1, .int x1), (2, .int x2), (3, .ref (pw_ad G 2)), (4, .int x4), (5, .int x5), (6, .int x6)]) (hf : b_X5_howManyUnderWay_73 k14 x1 x2 x4 x5 x6 y0 σ = some (r, τ)) : W p l e rm_X5_howManyUnderWay s m args below meth c H locs 0 0 (MQ below (pw_Qi G r τ) args s 0 0 (pw_gA G)) (F0 m 73 ls [.int y0]) := by
  have hx := hC.1
  have hb := hC.2.1
  unfold b_X5_howManyUnderWay_73 at hf
  refine lv_istore (lv' := [(7, .int y0), (0, .ref (pw_ad G 6)), (1, .int x1), (2, .int x2), (3, .ref (pw_ad G 2)), (4, .int x4), (5, .int x5), (6, .int x6)]) hx hb dX5_howManyUnderWay_73 hl (by decide) rfl (fun ls hl => ?_)
  refine lv_aload_n hx hb dX5_howManyUnderWay_75 rfl (lv_at hl 4 rfl) ?_
  refine pg_2_3 hC hw mw_81 dX5_howManyUnderWay_76 ?_
  refine lv_iload hx hb dX5_howManyUnderWay_79 (lv_at hl 6 rfl) ?_
  obtain ⟨hin, hf⟩ := pw_gd hf
  refine pw_ild hC hw ca_21 hin dX5_howManyUnderWay_81 ?_
  refine lv_iconst (v := -1) hx hb dX5_howManyUnderWay_82 (by decide) ?_
  refine lv_icmp_eq (tgt := 106) hx hb dX5_howManyUnderWay_83 (by decide) (fun hc => ?_) (fun hc => ?_)
  · replace hf := pw_ifp hc hf
    exact t_X5_howManyUnderWay_106 hC hk14  hw (lv_sub hl [1, 2, 3, 4, 5, 6, 7, 0] rfl) hf
  · replace hf := pw_ifn hc hf
    refine lv_aload_n hx hb dX5_howManyUnderWay_86 rfl (lv_at hl 4 rfl) ?_
    refine pg_2_3 hC hw mw_81 dX5_howManyUnderWay_87 ?_
    refine lv_iload hx hb dX5_howManyUnderWay_90 (lv_at hl 6 rfl) ?_
    obtain ⟨hin, hf⟩ := pw_gd hf
    refine pw_ild hC hw ca_21 hin dX5_howManyUnderWay_92 ?_
    refine lv_aload_n hx hb dX5_howManyUnderWay_93 rfl (lv_at hl 1 rfl) ?_
    refine pg_6_1 hC hw mw_250 dX5_howManyUnderWay_94 ?_
    refine lv_iload_n hx hb dX5_howManyUnderWay_97 rfl (lv_at hl 3 rfl) ?_
    obtain ⟨hin, hf⟩ := pw_gd hf
    refine pw_ild hC hw ca_28 hin dX5_howManyUnderWay_98 ?_
    refine lv_icmp_ge (tgt := 106) hx hb dX5_howManyUnderWay_99 (by decide) (fun hc => ?_) (fun hc => ?_)
    · replace hf := pw_ifp hc hf
      exact t_X5_howManyUnderWay_106 hC hk14  hw (lv_sub hl [1, 2, 3, 4, 5, 6, 7, 0] rfl) hf
    · replace hf := pw_ifn hc hf
      refine lv_iconst (v := 1) hx hb dX5_howManyUnderWay_102 (by decide) ?_
      refine lv_goto (tgt := 107) hx hb dX5_howManyUnderWay_103 (by decide) ?_
      exact t_X5_howManyUnderWay_107 hC hk14  hw (lv_sub hl [1, 2, 3, 4, 5, 6, 7, 0] rfl) hf
set_option maxHeartbeats 4000000 in
set_option maxRecDepth 100000 in
theorem t_X5_howManyUnderWay_50 (hC : pw_CX G RX5 cX5_howManyUnderWay 9 (some .int) p s m args meth c) {k14 : Int32 → Int32 → Int32 → Int32 → pw_St → Option (Int32 × pw_St)} {r : Int32} {τ : pw_St} (hk14 : ∀ (x1 : Int32), ∀ (x2 : Int32), ∀ (x4 : Int32), ∀ (x5 : Int32), ∀ (σ : pw_St) (H : Heap) (locs : List Loc) (ls : Array Slot), pw_WH G σ s.heap H locs → lv_has ls 9 [(0, .ref (pw_ad G 6)), (1, .int x1), (2, .int x2), (3, .ref (pw_ad G 2)), (4, .int x4), (5, .int x5)] → k14 x1 x2 x4 x5 σ = some (r, τ) → W p l e rm_X5_howManyUnderWay s m args below meth c H locs 0 0 (MQ below (pw_Qi G r τ) args s 0 0 (pw_gA G)) (F0 m 14 ls [])) {x1 : Int32} {x2 : Int32} {x4 : Int32} {x5 : Int32} {y0 : Int32} {σ : pw_St} {H : Heap} {locs : List Loc} {ls : Array Slot} (hw : pw_WH G σ s.heap H locs) (hl : lv_has ls 9 [(0, .ref (pw_ad G 6)), (1, .int x1), (2, .int x2), (3, .ref (pw_ad G 2)), (4, .int x4), (5, .int x5)]) (hf : b_X5_howManyUnderWay_50 k14 x1 x2 x4 x5 y0 σ = some (r, τ)) : W p l e rm_X5_howManyUnderWay s m args below meth c H locs 0 0 (MQ below (pw_Qi G r τ) args s 0 0 (pw_gA G)) (F0 m 50 ls [.int y0]) := by
  have hx := hC.1
  have hb := hC.2.1
  unfold b_X5_howManyUnderWay_50 at hf
  refine lv_istore (lv' := [(6, .int y0), (0, .ref (pw_ad G 6)), (1, .int x1), (2, .int x2), (3, .ref (pw_ad G 2)), (4, .int x4), (5, .int x5)]) hx hb dX5_howManyUnderWay_50 hl (by decide) rfl (fun ls hl => ?_)
  refine lv_aload_n hx hb dX5_howManyUnderWay_52 rfl (lv_at hl 4 rfl) ?_
  refine pg_2_2 hC hw mw_77 dX5_howManyUnderWay_53 ?_
  refine lv_iload hx hb dX5_howManyUnderWay_56 (lv_at hl 6 rfl) ?_
  obtain ⟨hin, hf⟩ := pw_gd hf
  refine pw_ild hC hw ca_20 hin dX5_howManyUnderWay_58 ?_
  refine lv_aload_n hx hb dX5_howManyUnderWay_59 rfl (lv_at hl 1 rfl) ?_
  refine pg_6_1 hC hw mw_250 dX5_howManyUnderWay_60 ?_
  refine lv_iload_n hx hb dX5_howManyUnderWay_63 rfl (lv_at hl 2 rfl) ?_
  obtain ⟨hin, hf⟩ := pw_gd hf
  refine pw_ild hC hw ca_28 hin dX5_howManyUnderWay_64 ?_
  refine lv_icmp_ge (tgt := 72) hx hb dX5_howManyUnderWay_65 (by decide) (fun hc => ?_) (fun hc => ?_)
  · replace hf := pw_ifp hc hf
    refine lv_iconst (v := 0) hx hb dX5_howManyUnderWay_72 (by decide) ?_
    exact t_X5_howManyUnderWay_73 hC hk14  hw (lv_sub hl [1, 2, 3, 4, 5, 6, 0] rfl) hf
  · replace hf := pw_ifn hc hf
    refine lv_iconst (v := 1) hx hb dX5_howManyUnderWay_68 (by decide) ?_
    refine lv_goto (tgt := 73) hx hb dX5_howManyUnderWay_69 (by decide) ?_
    exact t_X5_howManyUnderWay_73 hC hk14  hw (lv_sub hl [1, 2, 3, 4, 5, 6, 0] rfl) hf
set_option maxHeartbeats 4000000 in
set_option maxRecDepth 100000 in
theorem t_X5_howManyUnderWay_49 (hC : pw_CX G RX5 cX5_howManyUnderWay 9 (some .int) p s m args meth c) {k14 : Int32 → Int32 → Int32 → Int32 → pw_St → Option (Int32 × pw_St)} {r : Int32} {τ : pw_St} (hk14 : ∀ (x1 : Int32), ∀ (x2 : Int32), ∀ (x4 : Int32), ∀ (x5 : Int32), ∀ (σ : pw_St) (H : Heap) (locs : List Loc) (ls : Array Slot), pw_WH G σ s.heap H locs → lv_has ls 9 [(0, .ref (pw_ad G 6)), (1, .int x1), (2, .int x2), (3, .ref (pw_ad G 2)), (4, .int x4), (5, .int x5)] → k14 x1 x2 x4 x5 σ = some (r, τ) → W p l e rm_X5_howManyUnderWay s m args below meth c H locs 0 0 (MQ below (pw_Qi G r τ) args s 0 0 (pw_gA G)) (F0 m 14 ls [])) {x1 : Int32} {x2 : Int32} {x4 : Int32} {x5 : Int32} {σ : pw_St} {H : Heap} {locs : List Loc} {ls : Array Slot} (hw : pw_WH G σ s.heap H locs) (hl : lv_has ls 9 [(0, .ref (pw_ad G 6)), (1, .int x1), (2, .int x2), (3, .ref (pw_ad G 2)), (4, .int x4), (5, .int x5)]) (hf : b_X5_howManyUnderWay_49 k14 x1 x2 x4 x5 σ = some (r, τ)) : W p l e rm_X5_howManyUnderWay s m args below meth c H locs 0 0 (MQ below (pw_Qi G r τ) args s 0 0 (pw_gA G)) (F0 m 49 ls []) := by
  have hx := hC.1
  have hb := hC.2.1
  unfold b_X5_howManyUnderWay_49 at hf
  refine lv_iconst (v := 0) hx hb dX5_howManyUnderWay_49 (by decide) ?_
  exact t_X5_howManyUnderWay_50 hC hk14  hw (lv_sub hl [0, 1, 2, 3, 4, 5] rfl) hf
set_option maxHeartbeats 4000000 in
set_option maxRecDepth 100000 in
theorem t_X5_howManyUnderWay_14 (hC : pw_CX G RX5 cX5_howManyUnderWay 9 (some .int) p s m args meth c) {k14 : Int32 → Int32 → Int32 → Int32 → pw_St → Option (Int32 × pw_St)} {r : Int32} {τ : pw_St} (hk14 : ∀ (x1 : Int32), ∀ (x2 : Int32), ∀ (x4 : Int32), ∀ (x5 : Int32), ∀ (σ : pw_St) (H : Heap) (locs : List Loc) (ls : Array Slot), pw_WH G σ s.heap H locs → lv_has ls 9 [(0, .ref (pw_ad G 6)), (1, .int x1), (2, .int x2), (3, .ref (pw_ad G 2)), (4, .int x4), (5, .int x5)] → k14 x1 x2 x4 x5 σ = some (r, τ) → W p l e rm_X5_howManyUnderWay s m args below meth c H locs 0 0 (MQ below (pw_Qi G r τ) args s 0 0 (pw_gA G)) (F0 m 14 ls [])) {x1 : Int32} {x2 : Int32} {x4 : Int32} {x5 : Int32} {σ : pw_St} {H : Heap} {locs : List Loc} {ls : Array Slot} (hw : pw_WH G σ s.heap H locs) (hl : lv_has ls 9 [(0, .ref (pw_ad G 6)), (1, .int x1), (2, .int x2), (3, .ref (pw_ad G 2)), (4, .int x4), (5, .int x5)]) (hf : b_X5_howManyUnderWay_14 k14 x1 x2 x4 x5 σ = some (r, τ)) : W p l e rm_X5_howManyUnderWay s m args below meth c H locs 0 0 (MQ below (pw_Qi G r τ) args s 0 0 (pw_gA G)) (F0 m 14 ls []) := by
  have hx := hC.1
  have hb := hC.2.1
  unfold b_X5_howManyUnderWay_14 at hf
  refine lv_iload hx hb dX5_howManyUnderWay_14 (lv_at hl 5 rfl) ?_
  refine lv_aload_n hx hb dX5_howManyUnderWay_16 rfl (lv_at hl 3 rfl) ?_
  refine pg_2_4 hC hw mw_85 dX5_howManyUnderWay_17 ?_
  refine lv_icmp_ge (tgt := 133) hx hb dX5_howManyUnderWay_20 (by decide) (fun hc => ?_) (fun hc => ?_)
  · replace hf := pw_ifp hc hf
    refine lv_iload hx hb dX5_howManyUnderWay_133 (lv_at hl 4 rfl) ?_
    exact pw_iret hC hw hf dX5_howManyUnderWay_135
  · replace hf := pw_ifn hc hf
    refine lv_aload_n hx hb dX5_howManyUnderWay_23 rfl (lv_at hl 3 rfl) ?_
    refine pg_2_0 hC hw mw_69 dX5_howManyUnderWay_24 ?_
    refine lv_iload hx hb dX5_howManyUnderWay_27 (lv_at hl 5 rfl) ?_
    obtain ⟨hin, hf⟩ := pw_gd hf
    refine pw_ild hC hw ca_18 hin dX5_howManyUnderWay_29 ?_
    refine lv_iload_n hx hb dX5_howManyUnderWay_30 rfl (lv_at hl 1 rfl) ?_
    refine lv_icmp_ne (tgt := 49) hx hb dX5_howManyUnderWay_31 (by decide) (fun hc => ?_) (fun hc => ?_)
    · replace hf := pw_ifn hc hf
      exact t_X5_howManyUnderWay_49 hC hk14  hw (lv_sub hl [0, 1, 2, 3, 4, 5] rfl) hf
    · replace hf := pw_ifp hc hf
      refine lv_aload_n hx hb dX5_howManyUnderWay_34 rfl (lv_at hl 3 rfl) ?_
      refine pg_2_1 hC hw mw_73 dX5_howManyUnderWay_35 ?_
      refine lv_iload hx hb dX5_howManyUnderWay_38 (lv_at hl 5 rfl) ?_
      obtain ⟨hin, hf⟩ := pw_gd hf
      refine pw_ild hC hw ca_19 hin dX5_howManyUnderWay_40 ?_
      refine lv_iload_n hx hb dX5_howManyUnderWay_41 rfl (lv_at hl 2 rfl) ?_
      refine lv_icmp_ne (tgt := 49) hx hb dX5_howManyUnderWay_42 (by decide) (fun hc => ?_) (fun hc => ?_)
      · replace hf := pw_ifn hc hf
        exact t_X5_howManyUnderWay_49 hC hk14  hw (lv_sub hl [0, 1, 2, 3, 4, 5] rfl) hf
      · replace hf := pw_ifp hc hf
        refine lv_iconst (v := 1) hx hb dX5_howManyUnderWay_45 (by decide) ?_
        refine lv_goto (tgt := 50) hx hb dX5_howManyUnderWay_46 (by decide) ?_
        exact t_X5_howManyUnderWay_50 hC hk14  hw (lv_sub hl [0, 1, 2, 3, 4, 5] rfl) hf
set_option maxHeartbeats 4000000 in
theorem tl_X5_howManyUnderWay_14 (hC : pw_CX G RX5 cX5_howManyUnderWay 9 (some .int) p s m args meth c) {r : Int32} {τ : pw_St} : ∀ (n : Nat) (x1 : Int32) (x2 : Int32) (x4 : Int32) (x5 : Int32) (σ : pw_St) (H : Heap) (locs : List Loc) (ls : Array Slot), pw_WH G σ s.heap H locs → lv_has ls 9 [(0, .ref (pw_ad G 6)), (1, .int x1), (2, .int x2), (3, .ref (pw_ad G 2)), (4, .int x4), (5, .int x5)] → l_X5_howManyUnderWay_14  n x1 x2 x4 x5 σ = some (r, τ) → W p l e rm_X5_howManyUnderWay s m args below meth c H locs 0 0 (MQ below (pw_Qi G r τ) args s 0 0 (pw_gA G)) (F0 m 14 ls []) := by
  intro n
  induction n with
  | zero => intro x1 x2 x4 x5 σ H locs ls hw hl hf; cases hf
  | succ n ih => intro x1 x2 x4 x5 σ H locs ls hw hl hf; exact t_X5_howManyUnderWay_14 hC ih  hw hl hf
set_option maxHeartbeats 4000000 in
set_option maxRecDepth 100000 in
theorem c_X5_howManyUnderWay {l : Launch} {G : pw_Gh} {x1 : Int32} {x2 : Int32} {σ : pw_St} {r : Int32} {τ : pw_St} (hf : f_X5_howManyUnderWay x1 x2 σ = some (r, τ)) : Met l yX5_howManyUnderWay (.code yX5_howManyUnderWay cX5_howManyUnderWay 9 (some .int) :: pw_BW) rm_X5_howManyUnderWay (pw_Pc G [.ref (pw_ad G 6), .int x1, .int x2] σ) (pw_Qi G r τ) 0 0 (pw_gA G) := by
  refine pw_met (by decide +kernel) (Nat.le_of_ble_eq_true rfl) ?_
  intro p e s m args below meth c ls hC hw hl
  replace hl : lv_has ls 9 [(0, .ref (pw_ad G 6)), (1, .int x1), (2, .int x2)] := hl
  have hx := hC.1
  have hb := hC.2.1
  unfold f_X5_howManyUnderWay at hf
  refine lv_aload_n hx hb dX5_howManyUnderWay_0 rfl (lv_at hl 0 rfl) ?_
  refine pg_6_0 hC hw mw_249 dX5_howManyUnderWay_1 ?_
  refine pg_1_0 hC hw mw_101 dX5_howManyUnderWay_4 ?_
  refine lv_astore_n (lv' := [(3, .ref (pw_ad G 2)), (0, .ref (pw_ad G 6)), (1, .int x1), (2, .int x2)]) hx hb dX5_howManyUnderWay_7 rfl hl (by decide) rfl (fun ls hl => ?_)
  refine lv_iconst (v := 0) hx hb dX5_howManyUnderWay_8 (by decide) ?_
  refine lv_istore (lv' := [(4, .int (0 : Int32)), (3, .ref (pw_ad G 2)), (0, .ref (pw_ad G 6)), (1, .int x1), (2, .int x2)]) hx hb dX5_howManyUnderWay_9 hl (by decide) rfl (fun ls hl => ?_)
  refine lv_iconst (v := 0) hx hb dX5_howManyUnderWay_11 (by decide) ?_
  refine lv_istore (lv' := [(5, .int (0 : Int32)), (4, .int (0 : Int32)), (3, .ref (pw_ad G 2)), (0, .ref (pw_ad G 6)), (1, .int x1), (2, .int x2)]) hx hb dX5_howManyUnderWay_12 hl (by decide) rfl (fun ls hl => ?_)
  exact tl_X5_howManyUnderWay_14 hC  pw_FU _ _ _ _ _ _ _ _ hw (lv_sub hl [3, 4, 5, 2, 1, 0] rfl) hf
-- PerhapsWas$Moment seen
def f_X5_seen (x1 : Int32) (x2 : Int32) (x3 : Int32) (σ : pw_St) : Option (Int32 × pw_St) := (if x1 = 8 then (if pw_in x2 4 = true then (pw_bi (f_X2_valuePlace x2 (σ.1 28 x2.toNatClampNeg) x3 σ) fun r1 σ1 => (if pw_in r1 84 = true then (some ((σ1.1 17 r1.toNatClampNeg), σ1)) else none)) else none) else (if x1 = 9 then (pw_bi (f_X5_howManyUnderWay x2 x3 σ) fun r2 σ2 => (some (r2, σ2))) else (if x1 = 10 then (if pw_in x2 4 = true then (some ((σ.1 28 x2.toNatClampNeg), σ)) else none) else (some (x2, σ)))))
def rm_X5_seen : Room := { frames := 1, cells := 0, slots := 0, locals := 28 }
set_option maxHeartbeats 4000000 in
set_option maxRecDepth 100000 in
theorem c_X5_seen {l : Launch} {G : pw_Gh} {x1 : Int32} {x2 : Int32} {x3 : Int32} {σ : pw_St} {r : Int32} {τ : pw_St} (hf : f_X5_seen x1 x2 x3 σ = some (r, τ)) : Met l yX5_seen (.code yX5_seen cX5_seen 4 (some .int) :: pw_BW) rm_X5_seen (pw_Pc G [.ref (pw_ad G 6), .int x1, .int x2, .int x3] σ) (pw_Qi G r τ) 0 0 (pw_gA G) := by
  refine pw_met (by decide +kernel) (Nat.le_of_ble_eq_true rfl) ?_
  intro p e s m args below meth c ls hC hw hl
  replace hl : lv_has ls 4 [(0, .ref (pw_ad G 6)), (1, .int x1), (2, .int x2), (3, .int x3)] := hl
  have hx := hC.1
  have hb := hC.2.1
  unfold f_X5_seen at hf
  refine lv_iload_n hx hb dX5_seen_0 rfl (lv_at hl 1 rfl) ?_
  by_cases hc8 : x1 = 8
  · replace hf := pw_ifp hc8 hf
    refine lv_tableIn (off := 27) (tgt := 28) hx hb dX5_seen_1 (by rw [hc8]; decide) (by rw [hc8]; decide) (by rw [hc8]; decide) (by decide) ?_
    refine lv_aload_n hx hb dX5_seen_28 rfl (lv_at hl 0 rfl) ?_
    refine pg_6_0 hC hw mw_249 dX5_seen_29 ?_
    refine pg_1_7 hC hw mw_115 dX5_seen_32 ?_
    refine lv_iload_n hx hb dX5_seen_35 rfl (lv_at hl 2 rfl) ?_
    refine lv_aload_n hx hb dX5_seen_36 rfl (lv_at hl 0 rfl) ?_
    refine pg_6_1 hC hw mw_250 dX5_seen_37 ?_
    refine lv_iload_n hx hb dX5_seen_40 rfl (lv_at hl 2 rfl) ?_
    obtain ⟨hin, hf⟩ := pw_gd hf
    refine pw_ild hC hw ca_28 hin dX5_seen_41 ?_
    refine lv_iload_n hx hb dX5_seen_42 rfl (lv_at hl 3 rfl) ?_
    obtain ⟨r1, σ1, h1, hf⟩ := pw_bi_some hf
    refine pw_ci hw (pw_runS (As := [.int x2, .int (σ.1 28 x2.toNatClampNeg), .int x3]) (rest := [.ref (pw_ad G 17)]) hC hw (c_X2_valuePlace  h1) mw_615 wm_X2_valuePlace ⟨Nat.zero_le _, Nat.zero_le _⟩ ⟨rfl, rfl, Nat.le_of_ble_eq_true rfl, Nat.le_of_ble_eq_true rfl⟩ rfl hl.1 rfl (Nat.le_of_ble_eq_true rfl) dX5_seen_43) (fun H locs hw => ?_)
    obtain ⟨hin, hf⟩ := pw_gd hf
    refine pw_ild hC hw ca_17 hin dX5_seen_46 ?_
    exact pw_iret hC hw hf dX5_seen_47
  replace hf := pw_ifn hc8 hf
  by_cases hc9 : x1 = 9
  · replace hf := pw_ifp hc9 hf
    refine lv_tableIn (off := 47) (tgt := 48) hx hb dX5_seen_1 (by rw [hc9]; decide) (by rw [hc9]; decide) (by rw [hc9]; decide) (by decide) ?_
    refine lv_aload_n hx hb dX5_seen_48 rfl (lv_at hl 0 rfl) ?_
    refine lv_iload_n hx hb dX5_seen_49 rfl (lv_at hl 2 rfl) ?_
    refine lv_iload_n hx hb dX5_seen_50 rfl (lv_at hl 3 rfl) ?_
    obtain ⟨r2, σ2, h2, hf⟩ := pw_bi_some hf
    refine pw_ci hw (pw_runV (As := [.int x2, .int x3]) (rest := []) hC hw (c_X5_howManyUnderWay  h2) mw_616 wm_X5_howManyUnderWay ⟨Nat.zero_le _, Nat.zero_le _⟩ ⟨rfl, rfl, Nat.le_of_ble_eq_true rfl, Nat.le_of_ble_eq_true rfl⟩ (by decide) rfl rfl rfl hl.1 rfl (Nat.le_of_ble_eq_true rfl) dX5_seen_51) (fun H locs hw => ?_)
    exact pw_iret hC hw hf dX5_seen_54
  replace hf := pw_ifn hc9 hf
  by_cases hc10 : x1 = 10
  · replace hf := pw_ifp hc10 hf
    refine lv_tableIn (off := 54) (tgt := 55) hx hb dX5_seen_1 (by rw [hc10]; decide) (by rw [hc10]; decide) (by rw [hc10]; decide) (by decide) ?_
    refine lv_aload_n hx hb dX5_seen_55 rfl (lv_at hl 0 rfl) ?_
    refine pg_6_1 hC hw mw_250 dX5_seen_56 ?_
    refine lv_iload_n hx hb dX5_seen_59 rfl (lv_at hl 2 rfl) ?_
    obtain ⟨hin, hf⟩ := pw_gd hf
    refine pw_ild hC hw ca_28 hin dX5_seen_60 ?_
    exact pw_iret hC hw hf dX5_seen_61
  replace hf := pw_ifn hc10 hf
  refine lv_tableOut (tgt := 62) hx hb dX5_seen_1 (by have hq := And.intro (pw_ti hc8 (z := 8) (by decide)) (And.intro (pw_ti hc9 (z := 9) (by decide)) (pw_ti hc10 (z := 10) (by decide))); omega) (by decide) ?_
  refine lv_iload_n hx hb dX5_seen_62 rfl (lv_at hl 2 rfl) ?_
  exact pw_iret hC hw hf dX5_seen_63
-- PerhapsWas$Moment reckoned
def b_X5_reckoned_100 (σ : pw_St) : Option (Int32 × pw_St) := (some ((1 : Int32), σ))
def f_X5_reckoned (x0 : Int32) (x1 : Int32) (x2 : Int32) (σ : pw_St) : Option (Int32 × pw_St) := (if x0 = 0 then (some ((x1 + x2), σ)) else (if x0 = 1 then (some ((x1 - x2), σ)) else (if x0 = 2 then (some ((x1 * x2), σ)) else (if x0 = 3 then (if x2 ≤ x1 then (some ((0 : Int32), σ)) else (some ((1 : Int32), σ))) else (if x0 = 4 then (if x1 = x2 then (some ((1 : Int32), σ)) else (some ((0 : Int32), σ))) else (if x0 = 5 then (if x1 = 0 then (some ((0 : Int32), σ)) else (if x2 = 0 then (some ((0 : Int32), σ)) else (some ((1 : Int32), σ)))) else (if x0 = 6 then (if x1 = 0 then (if x2 = 0 then (some ((0 : Int32), σ)) else (b_X5_reckoned_100  σ)) else (b_X5_reckoned_100  σ)) else (if x1 = 0 then (some ((1 : Int32), σ)) else (some ((0 : Int32), σ))))))))))
def rm_X5_reckoned : Room := { frames := 0, cells := 0, slots := 0, locals := 0 }
set_option maxHeartbeats 4000000 in
set_option maxRecDepth 100000 in
theorem t_X5_reckoned_100 (hC : pw_CX G RX5 cX5_reckoned 3 (some .int) p s m args meth c) {r : Int32} {τ : pw_St} {σ : pw_St} {H : Heap} {locs : List Loc} {ls : Array Slot} (hw : pw_WH G σ s.heap H locs) (hl : lv_has ls 3 []) (hf : b_X5_reckoned_100 σ = some (r, τ)) : W p l e rm_X5_reckoned s m args below meth c H locs 0 0 (MQ below (pw_Qi G r τ) args s 0 0 (pw_gA G)) (F0 m 100 ls []) := by
  have hx := hC.1
  have hb := hC.2.1
  unfold b_X5_reckoned_100 at hf
  refine lv_iconst (v := 1) hx hb dX5_reckoned_100 (by decide) ?_
  refine lv_goto (tgt := 105) hx hb dX5_reckoned_101 (by decide) ?_
  exact pw_iret hC hw hf dX5_reckoned_105
set_option maxHeartbeats 4000000 in
set_option maxRecDepth 100000 in
theorem c_X5_reckoned {l : Launch} {G : pw_Gh} {x0 : Int32} {x1 : Int32} {x2 : Int32} {σ : pw_St} {r : Int32} {τ : pw_St} (hf : f_X5_reckoned x0 x1 x2 σ = some (r, τ)) : Met l yX5_reckoned (.code yX5_reckoned cX5_reckoned 3 (some .int) :: pw_BW) rm_X5_reckoned (pw_Pc G [.int x0, .int x1, .int x2] σ) (pw_Qi G r τ) 0 0 (pw_gA G) := by
  refine pw_met (by decide +kernel) (Nat.le_of_ble_eq_true rfl) ?_
  intro p e s m args below meth c ls hC hw hl
  replace hl : lv_has ls 3 [(0, .int x0), (1, .int x1), (2, .int x2)] := hl
  have hx := hC.1
  have hb := hC.2.1
  unfold f_X5_reckoned at hf
  refine lv_iload_n hx hb dX5_reckoned_0 rfl (lv_at hl 0 rfl) ?_
  by_cases hc0 : x0 = 0
  · replace hf := pw_ifp hc0 hf
    refine lv_tableIn (off := 43) (tgt := 44) hx hb dX5_reckoned_1 (by rw [hc0]; decide) (by rw [hc0]; decide) (by rw [hc0]; decide) (by decide) ?_
    refine lv_iload_n hx hb dX5_reckoned_44 rfl (lv_at hl 1 rfl) ?_
    refine lv_iload_n hx hb dX5_reckoned_45 rfl (lv_at hl 2 rfl) ?_
    refine lv_iadd hx hb dX5_reckoned_46 ?_
    exact pw_iret hC hw hf dX5_reckoned_47
  replace hf := pw_ifn hc0 hf
  by_cases hc1 : x0 = 1
  · replace hf := pw_ifp hc1 hf
    refine lv_tableIn (off := 47) (tgt := 48) hx hb dX5_reckoned_1 (by rw [hc1]; decide) (by rw [hc1]; decide) (by rw [hc1]; decide) (by decide) ?_
    refine lv_iload_n hx hb dX5_reckoned_48 rfl (lv_at hl 1 rfl) ?_
    refine lv_iload_n hx hb dX5_reckoned_49 rfl (lv_at hl 2 rfl) ?_
    refine lv_isub hx hb dX5_reckoned_50 ?_
    exact pw_iret hC hw hf dX5_reckoned_51
  replace hf := pw_ifn hc1 hf
  by_cases hc2 : x0 = 2
  · replace hf := pw_ifp hc2 hf
    refine lv_tableIn (off := 51) (tgt := 52) hx hb dX5_reckoned_1 (by rw [hc2]; decide) (by rw [hc2]; decide) (by rw [hc2]; decide) (by decide) ?_
    refine lv_iload_n hx hb dX5_reckoned_52 rfl (lv_at hl 1 rfl) ?_
    refine lv_iload_n hx hb dX5_reckoned_53 rfl (lv_at hl 2 rfl) ?_
    refine lv_imul hx hb dX5_reckoned_54 ?_
    exact pw_iret hC hw hf dX5_reckoned_55
  replace hf := pw_ifn hc2 hf
  by_cases hc3 : x0 = 3
  · replace hf := pw_ifp hc3 hf
    refine lv_tableIn (off := 55) (tgt := 56) hx hb dX5_reckoned_1 (by rw [hc3]; decide) (by rw [hc3]; decide) (by rw [hc3]; decide) (by decide) ?_
    refine lv_iload_n hx hb dX5_reckoned_56 rfl (lv_at hl 1 rfl) ?_
    refine lv_iload_n hx hb dX5_reckoned_57 rfl (lv_at hl 2 rfl) ?_
    refine lv_icmp_ge (tgt := 65) hx hb dX5_reckoned_58 (by decide) (fun hc => ?_) (fun hc => ?_)
    · replace hf := pw_ifp hc hf
      refine lv_iconst (v := 0) hx hb dX5_reckoned_65 (by decide) ?_
      exact pw_iret hC hw hf dX5_reckoned_66
    · replace hf := pw_ifn hc hf
      refine lv_iconst (v := 1) hx hb dX5_reckoned_61 (by decide) ?_
      refine lv_goto (tgt := 66) hx hb dX5_reckoned_62 (by decide) ?_
      exact pw_iret hC hw hf dX5_reckoned_66
  replace hf := pw_ifn hc3 hf
  by_cases hc4 : x0 = 4
  · replace hf := pw_ifp hc4 hf
    refine lv_tableIn (off := 66) (tgt := 67) hx hb dX5_reckoned_1 (by rw [hc4]; decide) (by rw [hc4]; decide) (by rw [hc4]; decide) (by decide) ?_
    refine lv_iload_n hx hb dX5_reckoned_67 rfl (lv_at hl 1 rfl) ?_
    refine lv_iload_n hx hb dX5_reckoned_68 rfl (lv_at hl 2 rfl) ?_
    refine lv_icmp_ne (tgt := 76) hx hb dX5_reckoned_69 (by decide) (fun hc => ?_) (fun hc => ?_)
    · replace hf := pw_ifn hc hf
      refine lv_iconst (v := 0) hx hb dX5_reckoned_76 (by decide) ?_
      exact pw_iret hC hw hf dX5_reckoned_77
    · replace hf := pw_ifp hc hf
      refine lv_iconst (v := 1) hx hb dX5_reckoned_72 (by decide) ?_
      refine lv_goto (tgt := 77) hx hb dX5_reckoned_73 (by decide) ?_
      exact pw_iret hC hw hf dX5_reckoned_77
  replace hf := pw_ifn hc4 hf
  by_cases hc5 : x0 = 5
  · replace hf := pw_ifp hc5 hf
    refine lv_tableIn (off := 77) (tgt := 78) hx hb dX5_reckoned_1 (by rw [hc5]; decide) (by rw [hc5]; decide) (by rw [hc5]; decide) (by decide) ?_
    refine lv_iload_n hx hb dX5_reckoned_78 rfl (lv_at hl 1 rfl) ?_
    refine lv_if_eq (tgt := 90) hx hb dX5_reckoned_79 (by decide) (fun hc => ?_) (fun hc => ?_)
    · replace hf := pw_ifp hc hf
      refine lv_iconst (v := 0) hx hb dX5_reckoned_90 (by decide) ?_
      exact pw_iret hC hw hf dX5_reckoned_91
    · replace hf := pw_ifn hc hf
      refine lv_iload_n hx hb dX5_reckoned_82 rfl (lv_at hl 2 rfl) ?_
      refine lv_if_eq (tgt := 90) hx hb dX5_reckoned_83 (by decide) (fun hc => ?_) (fun hc => ?_)
      · replace hf := pw_ifp hc hf
        refine lv_iconst (v := 0) hx hb dX5_reckoned_90 (by decide) ?_
        exact pw_iret hC hw hf dX5_reckoned_91
      · replace hf := pw_ifn hc hf
        refine lv_iconst (v := 1) hx hb dX5_reckoned_86 (by decide) ?_
        refine lv_goto (tgt := 91) hx hb dX5_reckoned_87 (by decide) ?_
        exact pw_iret hC hw hf dX5_reckoned_91
  replace hf := pw_ifn hc5 hf
  by_cases hc6 : x0 = 6
  · replace hf := pw_ifp hc6 hf
    refine lv_tableIn (off := 91) (tgt := 92) hx hb dX5_reckoned_1 (by rw [hc6]; decide) (by rw [hc6]; decide) (by rw [hc6]; decide) (by decide) ?_
    refine lv_iload_n hx hb dX5_reckoned_92 rfl (lv_at hl 1 rfl) ?_
    refine lv_if_ne (tgt := 100) hx hb dX5_reckoned_93 (by decide) (fun hc => ?_) (fun hc => ?_)
    · replace hf := pw_ifn hc hf
      exact t_X5_reckoned_100 hC   hw (lv_sub hl [] rfl) hf
    · replace hf := pw_ifp hc hf
      refine lv_iload_n hx hb dX5_reckoned_96 rfl (lv_at hl 2 rfl) ?_
      refine lv_if_eq (tgt := 104) hx hb dX5_reckoned_97 (by decide) (fun hc => ?_) (fun hc => ?_)
      · replace hf := pw_ifp hc hf
        refine lv_iconst (v := 0) hx hb dX5_reckoned_104 (by decide) ?_
        exact pw_iret hC hw hf dX5_reckoned_105
      · replace hf := pw_ifn hc hf
        exact t_X5_reckoned_100 hC   hw (lv_sub hl [] rfl) hf
  replace hf := pw_ifn hc6 hf
  refine lv_tableOut (tgt := 106) hx hb dX5_reckoned_1 (by have hq := And.intro (pw_ti hc0 (z := 0) (by decide)) (And.intro (pw_ti hc1 (z := 1) (by decide)) (And.intro (pw_ti hc2 (z := 2) (by decide)) (And.intro (pw_ti hc3 (z := 3) (by decide)) (And.intro (pw_ti hc4 (z := 4) (by decide)) (And.intro (pw_ti hc5 (z := 5) (by decide)) (pw_ti hc6 (z := 6) (by decide))))))); omega) (by decide) ?_
  refine lv_iload_n hx hb dX5_reckoned_106 rfl (lv_at hl 1 rfl) ?_
  refine lv_if_ne (tgt := 114) hx hb dX5_reckoned_107 (by decide) (fun hc => ?_) (fun hc => ?_)
  · replace hf := pw_ifn hc hf
    refine lv_iconst (v := 0) hx hb dX5_reckoned_114 (by decide) ?_
    exact pw_iret hC hw hf dX5_reckoned_115
  · replace hf := pw_ifp hc hf
    refine lv_iconst (v := 1) hx hb dX5_reckoned_110 (by decide) ?_
    refine lv_goto (tgt := 115) hx hb dX5_reckoned_111 (by decide) ?_
    exact pw_iret hC hw hf dX5_reckoned_115
-- PerhapsWas$Moment worth
def b_X5_worth_135 (σ : pw_St) : Option (Int32 × pw_St) := (if pw_in (0 : Int32) 6 = true then (some ((σ.1 29 (0 : Int32).toNatClampNeg), σ)) else none)
def b_X5_worth_128 (k29 : Nat → Int32 → Int32 → pw_St → Option (Int32 × pw_St)) (n1 : Nat) (x3 : Int32) (x4 : Int32) (y0 : Int32) (y1 : Int32) (σ : pw_St) : Option (Int32 × pw_St) := (if pw_in y1 6 = true then (pw_lt (pw_sM σ 29 y1.toNatClampNeg y0) fun σ1 => (k29 n1 x3 (x4 + (1 : Int32)) σ1)) else none)
def b_X5_worth_74 (k29 : Nat → Int32 → Int32 → pw_St → Option (Int32 × pw_St)) (n1 : Nat) (x3 : Int32) (x4 : Int32) (x5 : Int32) (y0 : Int32) (σ : pw_St) : Option (Int32 × pw_St) := (if x5 ≤ (7 : Int32) then (if pw_in (x3 - (1 : Int32)) 6 = true then (pw_bi (f_X5_reckoned x5 (σ.1 29 (x3 - (1 : Int32)).toNatClampNeg) y0 σ) fun r1 σ1 => (b_X5_worth_128 k29 n1 x3 x4 r1 (x3 - (1 : Int32)) σ1)) else none) else (if pw_in x4 15 = true then (if pw_in x4 15 = true then (pw_bi (f_X5_seen x5 (σ.1 (4 * n1 + 56) x4.toNatClampNeg) (σ.1 (4 * n1 + 57) x4.toNatClampNeg) σ) fun r2 σ2 => (b_X5_worth_128 k29 n1 x3 x4 r2 (x3 - (1 : Int32)) σ2)) else none) else none))
def b_X5_worth_29 (k29 : Nat → Int32 → Int32 → pw_St → Option (Int32 × pw_St)) (n1 : Nat) (x3 : Int32) (x4 : Int32) (σ : pw_St) : Option (Int32 × pw_St) := (if (σ.1 (4 * n1 + 54) 3) ≤ x4 then (b_X5_worth_135  σ) else (if pw_in x4 15 = true then (pw_bi (f_X1_sidesOf (σ.1 (4 * n1 + 55) x4.toNatClampNeg) σ) fun r1 σ1 => (if (7 : Int32) ≤ (σ.1 (4 * n1 + 55) x4.toNatClampNeg) then (b_X5_worth_74 k29 n1 (x3 + ((1 : Int32) - r1)) x4 (σ.1 (4 * n1 + 55) x4.toNatClampNeg) (0 : Int32) σ1) else (if pw_in (x3 + ((1 : Int32) - r1)) 6 = true then (b_X5_worth_74 k29 n1 (x3 + ((1 : Int32) - r1)) x4 (σ.1 (4 * n1 + 55) x4.toNatClampNeg) (σ1.1 29 (x3 + ((1 : Int32) - r1)).toNatClampNeg) σ1) else none))) else none))
def l_X5_worth_29 : Nat → Nat → Int32 → Int32 → pw_St → Option (Int32 × pw_St)
  | 0 => fun _ _ _ _ => none
  | n + 1 => fun n1 x3 x4 σ => b_X5_worth_29  (l_X5_worth_29  n) n1 x3 x4 σ
def b_X5_worth_24 (n1 : Nat) (σ : pw_St) : Option (Int32 × pw_St) := (l_X5_worth_29  pw_FU n1 (0 : Int32) (0 : Int32) σ)
def b_X5_worth_2 (k2 : Nat → Int32 → Int32 → pw_St → Option (Int32 × pw_St)) (n1 : Nat) (x2 : Int32) (x3 : Int32) (σ : pw_St) : Option (Int32 × pw_St) := (if (4 : Int32) ≤ x3 then (b_X5_worth_24  n1 σ) else (pw_bi (f_X6_shareOf x2 x3 σ) fun r1 σ1 => (if pw_in x3 4 = true then (pw_lt (pw_sM σ1 28 x3.toNatClampNeg r1) fun σ2 => (k2 n1 x2 (x3 + (1 : Int32)) σ2)) else none)))
def l_X5_worth_2 : Nat → Nat → Int32 → Int32 → pw_St → Option (Int32 × pw_St)
  | 0 => fun _ _ _ _ => none
  | n + 1 => fun n1 x2 x3 σ => b_X5_worth_2  (l_X5_worth_2  n) n1 x2 x3 σ
def f_X5_worth (n1 : Nat) (x2 : Int32) (σ : pw_St) : Option (Int32 × pw_St) := (l_X5_worth_2  pw_FU n1 x2 (0 : Int32) σ)
def rm_X5_worth : Room := { frames := 2, cells := 0, slots := 0, locals := 51 }
set_option maxHeartbeats 4000000 in
set_option maxRecDepth 100000 in
theorem t_X5_worth_135 (hC : pw_CX G RX5 cX5_worth 7 (some .int) p s m args meth c) {r : Int32} {τ : pw_St} {σ : pw_St} {H : Heap} {locs : List Loc} {ls : Array Slot} (hw : pw_WH G σ s.heap H locs) (hl : lv_has ls 7 [(0, .ref (pw_ad G 6))]) (hf : b_X5_worth_135 σ = some (r, τ)) : W p l e rm_X5_worth s m args below meth c H locs 0 0 (MQ below (pw_Qi G r τ) args s 0 0 (pw_gA G)) (F0 m 135 ls []) := by
  have hx := hC.1
  have hb := hC.2.1
  unfold b_X5_worth_135 at hf
  refine lv_aload_n hx hb dX5_worth_135 rfl (lv_at hl 0 rfl) ?_
  refine pg_6_2 hC hw mw_251 dX5_worth_136 ?_
  refine lv_iconst (v := 0) hx hb dX5_worth_139 (by decide) ?_
  obtain ⟨hin, hf⟩ := pw_gd hf
  refine pw_ild hC hw ca_29 hin dX5_worth_140 ?_
  exact pw_iret hC hw hf dX5_worth_141
set_option maxHeartbeats 4000000 in
set_option maxRecDepth 100000 in
theorem t_X5_worth_128 (hC : pw_CX G RX5 cX5_worth 7 (some .int) p s m args meth c) {k29 : Nat → Int32 → Int32 → pw_St → Option (Int32 × pw_St)} {r : Int32} {τ : pw_St} (hk29 : ∀ (n1 : Nat), ∀ (x3 : Int32), ∀ (x4 : Int32), ∀ (σ : pw_St) (H : Heap) (locs : List Loc) (ls : Array Slot), n1 < 14 → pw_WH G σ s.heap H locs → lv_has ls 7 [(0, .ref (pw_ad G 6)), (1, .ref (pw_ad G (4 * n1 + 54))), (3, .int x3), (4, .int x4)] → k29 n1 x3 x4 σ = some (r, τ) → W p l e rm_X5_worth s m args below meth c H locs 0 0 (MQ below (pw_Qi G r τ) args s 0 0 (pw_gA G)) (F0 m 29 ls [])) {n1 : Nat} {x3 : Int32} {x4 : Int32} {y0 : Int32} {y1 : Int32} (hbn1 : n1 < 14) {σ : pw_St} {H : Heap} {locs : List Loc} {ls : Array Slot} (hw : pw_WH G σ s.heap H locs) (hl : lv_has ls 7 [(0, .ref (pw_ad G 6)), (1, .ref (pw_ad G (4 * n1 + 54))), (3, .int x3), (4, .int x4)]) (hf : b_X5_worth_128 k29 n1 x3 x4 y0 y1 σ = some (r, τ)) : W p l e rm_X5_worth s m args below meth c H locs 0 0 (MQ below (pw_Qi G r τ) args s 0 0 (pw_gA G)) (F0 m 128 ls [.int y0, .int y1, .ref (pw_ad G 29)]) := by
  have hx := hC.1
  have hb := hC.2.1
  unfold b_X5_worth_128 at hf
  obtain ⟨hin, hf⟩ := pw_gd hf
  refine pw_ist hC hw ca_29 hin dX5_worth_128 (fun H locs hw => ?_)
  obtain ⟨σ1, e1, hf⟩ := pw_lts hf
  replace hw := pw_WHe e1 hw
  refine lv_iinc (v := (x4 + (1 : Int32))) (lv' := [(4, .int (x4 + (1 : Int32))), (0, .ref (pw_ad G 6)), (1, .ref (pw_ad G (4 * n1 + 54))), (3, .int x3)]) hx hb dX5_worth_129 hl (k := 3) rfl rfl (by decide) rfl (fun ls hl => ?_)
  refine lv_goto (tgt := 29) hx hb dX5_worth_132 (by decide) ?_
  exact hk29 _ _ _ _ _ _ _ hbn1 hw (lv_sub hl [1, 2, 3, 0] rfl) hf
set_option maxHeartbeats 4000000 in
set_option maxRecDepth 100000 in
theorem t_X5_worth_74 (hC : pw_CX G RX5 cX5_worth 7 (some .int) p s m args meth c) {k29 : Nat → Int32 → Int32 → pw_St → Option (Int32 × pw_St)} {r : Int32} {τ : pw_St} (hk29 : ∀ (n1 : Nat), ∀ (x3 : Int32), ∀ (x4 : Int32), ∀ (σ : pw_St) (H : Heap) (locs : List Loc) (ls : Array Slot), n1 < 14 → pw_WH G σ s.heap H locs → lv_has ls 7 [(0, .ref (pw_ad G 6)), (1, .ref (pw_ad G (4 * n1 + 54))), (3, .int x3), (4, .int x4)] → k29 n1 x3 x4 σ = some (r, τ) → W p l e rm_X5_worth s m args below meth c H locs 0 0 (MQ below (pw_Qi G r τ) args s 0 0 (pw_gA G)) (F0 m 29 ls [])) {n1 : Nat} {x3 : Int32} {x4 : Int32} {x5 : Int32} {y0 : Int32} (hbn1 : n1 < 14) {σ : pw_St} {H : Heap} {locs : List Loc} {ls : Array Slot} (hw : pw_WH G σ s.heap H locs) (hl : lv_has ls 7 [(0, .ref (pw_ad G 6)), (1, .ref (pw_ad G (4 * n1 + 54))), (3, .int x3), (4, .int x4), (5, .int x5)]) (hf : b_X5_worth_74 k29 n1 x3 x4 x5 y0 σ = some (r, τ)) : W p l e rm_X5_worth s m args below meth c H locs 0 0 (MQ below (pw_Qi G r τ) args s 0 0 (pw_gA G)) (F0 m 74 ls [.int y0]) := by
  have hx := hC.1
  have hb := hC.2.1
  unfold b_X5_worth_74 at hf
  refine lv_istore (lv' := [(6, .int y0), (0, .ref (pw_ad G 6)), (1, .ref (pw_ad G (4 * n1 + 54))), (3, .int x3), (4, .int x4), (5, .int x5)]) hx hb dX5_worth_74 hl (by decide) rfl (fun ls hl => ?_)
  refine lv_aload_n hx hb dX5_worth_76 rfl (lv_at hl 1 rfl) ?_
  refine pg_6_2 hC hw mw_251 dX5_worth_77 ?_
  refine lv_iload_n hx hb dX5_worth_80 rfl (lv_at hl 3 rfl) ?_
  refine lv_iconst (v := 1) hx hb dX5_worth_81 (by decide) ?_
  refine lv_isub hx hb dX5_worth_82 ?_
  refine lv_iload hx hb dX5_worth_83 (lv_at hl 5 rfl) ?_
  refine lv_bipush (v := 7) hx hb dX5_worth_85 (by decide) ?_
  refine lv_icmp_le (tgt := 113) hx hb dX5_worth_87 (by decide) (fun hc => ?_) (fun hc => ?_)
  · replace hf := pw_ifp hc hf
    refine lv_iload hx hb dX5_worth_113 (lv_at hl 5 rfl) ?_
    refine lv_aload_n hx hb dX5_worth_115 rfl (lv_at hl 1 rfl) ?_
    refine pg_6_2 hC hw mw_251 dX5_worth_116 ?_
    refine lv_iload_n hx hb dX5_worth_119 rfl (lv_at hl 3 rfl) ?_
    refine lv_iconst (v := 1) hx hb dX5_worth_120 (by decide) ?_
    refine lv_isub hx hb dX5_worth_121 ?_
    obtain ⟨hin, hf⟩ := pw_gd hf
    refine pw_ild hC hw ca_29 hin dX5_worth_122 ?_
    refine lv_iload hx hb dX5_worth_123 (lv_at hl 0 rfl) ?_
    obtain ⟨r1, σ1, h1, hf⟩ := pw_bi_some hf
    refine pw_ci hw (pw_runS (As := [.int x5, .int (σ.1 29 (x3 - (1 : Int32)).toNatClampNeg), .int y0]) (rest := [.int (x3 - (1 : Int32)), .ref (pw_ad G 29)]) hC hw (c_X5_reckoned  h1) mw_620 wm_X5_reckoned ⟨Nat.zero_le _, Nat.zero_le _⟩ ⟨rfl, rfl, Nat.le_of_ble_eq_true rfl, Nat.le_of_ble_eq_true rfl⟩ rfl hl.1 rfl (Nat.le_of_ble_eq_true rfl) dX5_worth_125) (fun H locs hw => ?_)
    exact t_X5_worth_128 hC hk29 hbn1 hw (lv_sub hl [1, 2, 3, 4] rfl) hf
  · replace hf := pw_ifn hc hf
    refine lv_aload_n hx hb dX5_worth_90 rfl (lv_at hl 1 rfl) ?_
    refine lv_iload hx hb dX5_worth_91 (lv_at hl 5 rfl) ?_
    refine lv_aload_n hx hb dX5_worth_93 rfl (lv_at hl 2 rfl) ?_
    refine pg_F_1 hbn1 hC hw mw_201 dX5_worth_94 ?_
    refine lv_iload hx hb dX5_worth_97 (lv_at hl 4 rfl) ?_
    obtain ⟨hin, hf⟩ := pw_gd hf
    refine pw_ild hC hw (ca_F2 hbn1) hin dX5_worth_99 ?_
    refine lv_aload_n hx hb dX5_worth_100 rfl (lv_at hl 2 rfl) ?_
    refine pg_F_2 hbn1 hC hw mw_203 dX5_worth_101 ?_
    refine lv_iload hx hb dX5_worth_104 (lv_at hl 4 rfl) ?_
    obtain ⟨hin, hf⟩ := pw_gd hf
    refine pw_ild hC hw (ca_F3 hbn1) hin dX5_worth_106 ?_
    obtain ⟨r2, σ2, h2, hf⟩ := pw_bi_some hf
    refine pw_ci hw (pw_runV (As := [.int x5, .int (σ.1 (4 * n1 + 56) x4.toNatClampNeg), .int (σ.1 (4 * n1 + 57) x4.toNatClampNeg)]) (rest := [.int (x3 - (1 : Int32)), .ref (pw_ad G 29)]) hC hw (c_X5_seen  h2) mw_611 wm_X5_seen ⟨Nat.zero_le _, Nat.zero_le _⟩ ⟨rfl, rfl, Nat.le_of_ble_eq_true rfl, Nat.le_of_ble_eq_true rfl⟩ (by decide) rfl rfl rfl hl.1 rfl (Nat.le_of_ble_eq_true rfl) dX5_worth_107) (fun H locs hw => ?_)
    refine lv_goto (tgt := 128) hx hb dX5_worth_110 (by decide) ?_
    exact t_X5_worth_128 hC hk29 hbn1 hw (lv_sub hl [1, 2, 3, 4] rfl) hf
set_option maxHeartbeats 4000000 in
set_option maxRecDepth 100000 in
theorem t_X5_worth_29 (hC : pw_CX G RX5 cX5_worth 7 (some .int) p s m args meth c) {k29 : Nat → Int32 → Int32 → pw_St → Option (Int32 × pw_St)} {r : Int32} {τ : pw_St} (hk29 : ∀ (n1 : Nat), ∀ (x3 : Int32), ∀ (x4 : Int32), ∀ (σ : pw_St) (H : Heap) (locs : List Loc) (ls : Array Slot), n1 < 14 → pw_WH G σ s.heap H locs → lv_has ls 7 [(0, .ref (pw_ad G 6)), (1, .ref (pw_ad G (4 * n1 + 54))), (3, .int x3), (4, .int x4)] → k29 n1 x3 x4 σ = some (r, τ) → W p l e rm_X5_worth s m args below meth c H locs 0 0 (MQ below (pw_Qi G r τ) args s 0 0 (pw_gA G)) (F0 m 29 ls [])) {n1 : Nat} {x3 : Int32} {x4 : Int32} (hbn1 : n1 < 14) {σ : pw_St} {H : Heap} {locs : List Loc} {ls : Array Slot} (hw : pw_WH G σ s.heap H locs) (hl : lv_has ls 7 [(0, .ref (pw_ad G 6)), (1, .ref (pw_ad G (4 * n1 + 54))), (3, .int x3), (4, .int x4)]) (hf : b_X5_worth_29 k29 n1 x3 x4 σ = some (r, τ)) : W p l e rm_X5_worth s m args below meth c H locs 0 0 (MQ below (pw_Qi G r τ) args s 0 0 (pw_gA G)) (F0 m 29 ls []) := by
  have hx := hC.1
  have hb := hC.2.1
  unfold b_X5_worth_29 at hf
  refine lv_iload hx hb dX5_worth_29 (lv_at hl 3 rfl) ?_
  refine lv_aload_n hx hb dX5_worth_31 rfl (lv_at hl 1 rfl) ?_
  refine pg_F_3 hbn1 hC hw mw_205 dX5_worth_32 ?_
  refine lv_icmp_ge (tgt := 135) hx hb dX5_worth_35 (by decide) (fun hc => ?_) (fun hc => ?_)
  · replace hf := pw_ifp hc hf
    exact t_X5_worth_135 hC   hw (lv_sub hl [0] rfl) hf
  · replace hf := pw_ifn hc hf
    refine lv_aload_n hx hb dX5_worth_38 rfl (lv_at hl 1 rfl) ?_
    refine pg_F_0 hbn1 hC hw mw_199 dX5_worth_39 ?_
    refine lv_iload hx hb dX5_worth_42 (lv_at hl 3 rfl) ?_
    obtain ⟨hin, hf⟩ := pw_gd hf
    refine pw_ild hC hw (ca_F1 hbn1) hin dX5_worth_44 ?_
    refine lv_istore (lv' := [(5, .int (σ.1 (4 * n1 + 55) x4.toNatClampNeg)), (0, .ref (pw_ad G 6)), (1, .ref (pw_ad G (4 * n1 + 54))), (3, .int x3), (4, .int x4)]) hx hb dX5_worth_45 hl (by decide) rfl (fun ls hl => ?_)
    refine lv_iload_n hx hb dX5_worth_47 rfl (lv_at hl 3 rfl) ?_
    refine lv_iconst (v := 1) hx hb dX5_worth_48 (by decide) ?_
    refine lv_iload hx hb dX5_worth_49 (lv_at hl 0 rfl) ?_
    obtain ⟨r1, σ1, h1, hf⟩ := pw_bi_some hf
    refine pw_ci hw (pw_runS (As := [.int (σ.1 (4 * n1 + 55) x4.toNatClampNeg)]) (rest := [.int (1 : Int32), .int x3]) hC hw (c_X1_sidesOf  h1) mw_610 wm_X1_sidesOf ⟨Nat.zero_le _, Nat.zero_le _⟩ ⟨rfl, rfl, Nat.le_of_ble_eq_true rfl, Nat.le_of_ble_eq_true rfl⟩ rfl hl.1 rfl (Nat.le_of_ble_eq_true rfl) dX5_worth_51) (fun H locs hw => ?_)
    refine lv_isub hx hb dX5_worth_54 ?_
    refine lv_iadd hx hb dX5_worth_55 ?_
    refine lv_istore_n (lv' := [(3, .int (x3 + ((1 : Int32) - r1))), (5, .int (σ.1 (4 * n1 + 55) x4.toNatClampNeg)), (0, .ref (pw_ad G 6)), (1, .ref (pw_ad G (4 * n1 + 54))), (4, .int x4)]) hx hb dX5_worth_56 rfl hl (by decide) rfl (fun ls hl => ?_)
    refine lv_iload hx hb dX5_worth_57 (lv_at hl 1 rfl) ?_
    refine lv_bipush (v := 7) hx hb dX5_worth_59 (by decide) ?_
    refine lv_icmp_ge (tgt := 73) hx hb dX5_worth_61 (by decide) (fun hc => ?_) (fun hc => ?_)
    · replace hf := pw_ifp hc hf
      refine lv_iconst (v := 0) hx hb dX5_worth_73 (by decide) ?_
      exact t_X5_worth_74 hC hk29 hbn1 hw (lv_sub hl [2, 3, 0, 4, 1] rfl) hf
    · replace hf := pw_ifn hc hf
      refine lv_aload_n hx hb dX5_worth_64 rfl (lv_at hl 2 rfl) ?_
      refine pg_6_2 hC hw mw_251 dX5_worth_65 ?_
      refine lv_iload_n hx hb dX5_worth_68 rfl (lv_at hl 0 rfl) ?_
      obtain ⟨hin, hf⟩ := pw_gd hf
      refine pw_ild hC hw ca_29 hin dX5_worth_69 ?_
      refine lv_goto (tgt := 74) hx hb dX5_worth_70 (by decide) ?_
      exact t_X5_worth_74 hC hk29 hbn1 hw (lv_sub hl [2, 3, 0, 4, 1] rfl) hf
set_option maxHeartbeats 4000000 in
theorem tl_X5_worth_29 (hC : pw_CX G RX5 cX5_worth 7 (some .int) p s m args meth c) {r : Int32} {τ : pw_St} : ∀ (n : Nat) (n1 : Nat) (x3 : Int32) (x4 : Int32) (σ : pw_St) (H : Heap) (locs : List Loc) (ls : Array Slot), n1 < 14 → pw_WH G σ s.heap H locs → lv_has ls 7 [(0, .ref (pw_ad G 6)), (1, .ref (pw_ad G (4 * n1 + 54))), (3, .int x3), (4, .int x4)] → l_X5_worth_29  n n1 x3 x4 σ = some (r, τ) → W p l e rm_X5_worth s m args below meth c H locs 0 0 (MQ below (pw_Qi G r τ) args s 0 0 (pw_gA G)) (F0 m 29 ls []) := by
  intro n
  induction n with
  | zero => intro n1 x3 x4 σ H locs ls hbn1 hw hl hf; cases hf
  | succ n ih => intro n1 x3 x4 σ H locs ls hbn1 hw hl hf; exact t_X5_worth_29 hC ih hbn1 hw hl hf
set_option maxHeartbeats 4000000 in
set_option maxRecDepth 100000 in
theorem t_X5_worth_24 (hC : pw_CX G RX5 cX5_worth 7 (some .int) p s m args meth c) {r : Int32} {τ : pw_St} {n1 : Nat} (hbn1 : n1 < 14) {σ : pw_St} {H : Heap} {locs : List Loc} {ls : Array Slot} (hw : pw_WH G σ s.heap H locs) (hl : lv_has ls 7 [(0, .ref (pw_ad G 6)), (1, .ref (pw_ad G (4 * n1 + 54)))]) (hf : b_X5_worth_24 n1 σ = some (r, τ)) : W p l e rm_X5_worth s m args below meth c H locs 0 0 (MQ below (pw_Qi G r τ) args s 0 0 (pw_gA G)) (F0 m 24 ls []) := by
  have hx := hC.1
  have hb := hC.2.1
  unfold b_X5_worth_24 at hf
  refine lv_iconst (v := 0) hx hb dX5_worth_24 (by decide) ?_
  refine lv_istore_n (lv' := [(3, .int (0 : Int32)), (0, .ref (pw_ad G 6)), (1, .ref (pw_ad G (4 * n1 + 54)))]) hx hb dX5_worth_25 rfl hl (by decide) rfl (fun ls hl => ?_)
  refine lv_iconst (v := 0) hx hb dX5_worth_26 (by decide) ?_
  refine lv_istore (lv' := [(4, .int (0 : Int32)), (3, .int (0 : Int32)), (0, .ref (pw_ad G 6)), (1, .ref (pw_ad G (4 * n1 + 54)))]) hx hb dX5_worth_27 hl (by decide) rfl (fun ls hl => ?_)
  exact tl_X5_worth_29 hC  pw_FU _ _ _ _ _ _ _ hbn1 hw (lv_sub hl [2, 3, 1, 0] rfl) hf
set_option maxHeartbeats 4000000 in
set_option maxRecDepth 100000 in
theorem t_X5_worth_2 (hC : pw_CX G RX5 cX5_worth 7 (some .int) p s m args meth c) {k2 : Nat → Int32 → Int32 → pw_St → Option (Int32 × pw_St)} {r : Int32} {τ : pw_St} (hk2 : ∀ (n1 : Nat), ∀ (x2 : Int32), ∀ (x3 : Int32), ∀ (σ : pw_St) (H : Heap) (locs : List Loc) (ls : Array Slot), n1 < 14 → pw_WH G σ s.heap H locs → lv_has ls 7 [(0, .ref (pw_ad G 6)), (1, .ref (pw_ad G (4 * n1 + 54))), (2, .int x2), (3, .int x3)] → k2 n1 x2 x3 σ = some (r, τ) → W p l e rm_X5_worth s m args below meth c H locs 0 0 (MQ below (pw_Qi G r τ) args s 0 0 (pw_gA G)) (F0 m 2 ls [])) {n1 : Nat} {x2 : Int32} {x3 : Int32} (hbn1 : n1 < 14) {σ : pw_St} {H : Heap} {locs : List Loc} {ls : Array Slot} (hw : pw_WH G σ s.heap H locs) (hl : lv_has ls 7 [(0, .ref (pw_ad G 6)), (1, .ref (pw_ad G (4 * n1 + 54))), (2, .int x2), (3, .int x3)]) (hf : b_X5_worth_2 k2 n1 x2 x3 σ = some (r, τ)) : W p l e rm_X5_worth s m args below meth c H locs 0 0 (MQ below (pw_Qi G r τ) args s 0 0 (pw_gA G)) (F0 m 2 ls []) := by
  have hx := hC.1
  have hb := hC.2.1
  unfold b_X5_worth_2 at hf
  refine lv_iload_n hx hb dX5_worth_2 rfl (lv_at hl 3 rfl) ?_
  refine lv_iconst (v := 4) hx hb dX5_worth_3 (by decide) ?_
  refine lv_icmp_ge (tgt := 24) hx hb dX5_worth_4 (by decide) (fun hc => ?_) (fun hc => ?_)
  · replace hf := pw_ifp hc hf
    exact t_X5_worth_24 hC  hbn1 hw (lv_sub hl [0, 1] rfl) hf
  · replace hf := pw_ifn hc hf
    refine lv_aload_n hx hb dX5_worth_7 rfl (lv_at hl 0 rfl) ?_
    refine pg_6_1 hC hw mw_250 dX5_worth_8 ?_
    refine lv_iload_n hx hb dX5_worth_11 rfl (lv_at hl 3 rfl) ?_
    refine lv_iload_n hx hb dX5_worth_12 rfl (lv_at hl 2 rfl) ?_
    refine lv_iload_n hx hb dX5_worth_13 rfl (lv_at hl 3 rfl) ?_
    obtain ⟨r1, σ1, h1, hf⟩ := pw_bi_some hf
    refine pw_ci hw (pw_runS (As := [.int x2, .int x3]) (rest := [.int x3, .ref (pw_ad G 28)]) hC hw (c_X6_shareOf  h1) mw_609 wm_X6_shareOf ⟨Nat.zero_le _, Nat.zero_le _⟩ ⟨rfl, rfl, Nat.le_of_ble_eq_true rfl, Nat.le_of_ble_eq_true rfl⟩ rfl hl.1 rfl (Nat.le_of_ble_eq_true rfl) dX5_worth_14) (fun H locs hw => ?_)
    obtain ⟨hin, hf⟩ := pw_gd hf
    refine pw_ist hC hw ca_28 hin dX5_worth_17 (fun H locs hw => ?_)
    obtain ⟨σ2, e2, hf⟩ := pw_lts hf
    replace hw := pw_WHe e2 hw
    refine lv_iinc (v := (x3 + (1 : Int32))) (lv' := [(3, .int (x3 + (1 : Int32))), (0, .ref (pw_ad G 6)), (1, .ref (pw_ad G (4 * n1 + 54))), (2, .int x2)]) hx hb dX5_worth_18 hl (k := 3) rfl rfl (by decide) rfl (fun ls hl => ?_)
    refine lv_goto (tgt := 2) hx hb dX5_worth_21 (by decide) ?_
    exact hk2 _ _ _ _ _ _ _ hbn1 hw (lv_sub hl [1, 2, 3, 0] rfl) hf
set_option maxHeartbeats 4000000 in
theorem tl_X5_worth_2 (hC : pw_CX G RX5 cX5_worth 7 (some .int) p s m args meth c) {r : Int32} {τ : pw_St} : ∀ (n : Nat) (n1 : Nat) (x2 : Int32) (x3 : Int32) (σ : pw_St) (H : Heap) (locs : List Loc) (ls : Array Slot), n1 < 14 → pw_WH G σ s.heap H locs → lv_has ls 7 [(0, .ref (pw_ad G 6)), (1, .ref (pw_ad G (4 * n1 + 54))), (2, .int x2), (3, .int x3)] → l_X5_worth_2  n n1 x2 x3 σ = some (r, τ) → W p l e rm_X5_worth s m args below meth c H locs 0 0 (MQ below (pw_Qi G r τ) args s 0 0 (pw_gA G)) (F0 m 2 ls []) := by
  intro n
  induction n with
  | zero => intro n1 x2 x3 σ H locs ls hbn1 hw hl hf; cases hf
  | succ n ih => intro n1 x2 x3 σ H locs ls hbn1 hw hl hf; exact t_X5_worth_2 hC ih hbn1 hw hl hf
set_option maxHeartbeats 4000000 in
set_option maxRecDepth 100000 in
theorem c_X5_worth {l : Launch} {G : pw_Gh} {n1 : Nat} {x2 : Int32} (hbn1 : n1 < 14) {σ : pw_St} {r : Int32} {τ : pw_St} (hf : f_X5_worth n1 x2 σ = some (r, τ)) : Met l yX5_worth (.code yX5_worth cX5_worth 7 (some .int) :: pw_BW) rm_X5_worth (pw_Pc G [.ref (pw_ad G 6), .ref (pw_ad G (4 * n1 + 54)), .int x2] σ) (pw_Qi G r τ) 0 0 (pw_gA G) := by
  refine pw_met (by decide +kernel) (Nat.le_of_ble_eq_true rfl) ?_
  intro p e s m args below meth c ls hC hw hl
  replace hl : lv_has ls 7 [(0, .ref (pw_ad G 6)), (1, .ref (pw_ad G (4 * n1 + 54))), (2, .int x2)] := hl
  have hx := hC.1
  have hb := hC.2.1
  unfold f_X5_worth at hf
  refine lv_iconst (v := 0) hx hb dX5_worth_0 (by decide) ?_
  refine lv_istore_n (lv' := [(3, .int (0 : Int32)), (0, .ref (pw_ad G 6)), (1, .ref (pw_ad G (4 * n1 + 54))), (2, .int x2)]) hx hb dX5_worth_1 rfl hl (by decide) rfl (fun ls hl => ?_)
  exact tl_X5_worth_2 hC  pw_FU _ _ _ _ _ _ _ hbn1 hw (lv_sub hl [1, 2, 3, 0] rfl) hf
-- PerhapsWas$Marks set
def b_X4_set_42 (k2 : Nat → Int32 → pw_St → Option pw_St) (n2 : Nat) (x3 : Int32) (y0 : Int32) (y1 : Int32) (σ : pw_St) : Option pw_St := (if pw_in y1 2401 = true then (pw_lt (pw_sM σ 30 y1.toNatClampNeg (vp_nar .boolean y0)) fun σ1 => (k2 n2 (x3 + (1 : Int32)) σ1)) else none)
def b_X4_set_2 (k2 : Nat → Int32 → pw_St → Option pw_St) (n2 : Nat) (x3 : Int32) (σ : pw_St) : Option pw_St := (if (σ.1 3 5) ≤ x3 then (some σ) else (if pw_in x3 2401 = true then (pw_bi (f_X5_worth n2 (σ.1 22 x3.toNatClampNeg) σ) fun r1 σ1 => (if r1 = 0 then (b_X4_set_42 k2 n2 x3 (0 : Int32) (σ.1 22 x3.toNatClampNeg) σ1) else (b_X4_set_42 k2 n2 x3 (1 : Int32) (σ.1 22 x3.toNatClampNeg) σ1))) else none))
def l_X4_set_2 : Nat → Nat → Int32 → pw_St → Option pw_St
  | 0 => fun _ _ _ => none
  | n + 1 => fun n2 x3 σ => b_X4_set_2  (l_X4_set_2  n) n2 x3 σ
def f_X4_set (n2 : Nat) (σ : pw_St) : Option pw_St := (l_X4_set_2  pw_FU n2 (0 : Int32) σ)
def rm_X4_set : Room := { frames := 3, cells := 0, slots := 0, locals := 77 }
set_option maxHeartbeats 4000000 in
set_option maxRecDepth 100000 in
theorem t_X4_set_42 (hC : pw_CX G RX4 cX4_set 5 none p s m args meth c) {k2 : Nat → Int32 → pw_St → Option pw_St} {τ : pw_St} (hk2 : ∀ (n2 : Nat), ∀ (x3 : Int32), ∀ (σ : pw_St) (H : Heap) (locs : List Loc) (ls : Array Slot), n2 < 14 → pw_WH G σ s.heap H locs → lv_has ls 5 [(0, .ref (pw_ad G 7)), (1, .ref (pw_ad G 3)), (2, .ref (pw_ad G (4 * n2 + 54))), (3, .int x3)] → k2 n2 x3 σ = some τ → W p l e rm_X4_set s m args below meth c H locs 0 0 (MQ below (pw_Qv G τ) args s 0 0 (pw_gA G)) (F0 m 2 ls [])) {n2 : Nat} {x3 : Int32} {y0 : Int32} {y1 : Int32} (hbn2 : n2 < 14) {σ : pw_St} {H : Heap} {locs : List Loc} {ls : Array Slot} (hw : pw_WH G σ s.heap H locs) (hl : lv_has ls 5 [(0, .ref (pw_ad G 7)), (1, .ref (pw_ad G 3)), (2, .ref (pw_ad G (4 * n2 + 54))), (3, .int x3)]) (hf : b_X4_set_42 k2 n2 x3 y0 y1 σ = some τ) : W p l e rm_X4_set s m args below meth c H locs 0 0 (MQ below (pw_Qv G τ) args s 0 0 (pw_gA G)) (F0 m 42 ls [.int y0, .int y1, .ref (pw_ad G 30)]) := by
  have hx := hC.1
  have hb := hC.2.1
  unfold b_X4_set_42 at hf
  obtain ⟨hin, hf⟩ := pw_gd hf
  refine pw_zst hC hw ca_30 hin dX4_set_42 (fun H locs hw => ?_)
  obtain ⟨σ1, e1, hf⟩ := pw_lts hf
  replace hw := pw_WHe e1 hw
  refine lv_iinc (v := (x3 + (1 : Int32))) (lv' := [(3, .int (x3 + (1 : Int32))), (0, .ref (pw_ad G 7)), (1, .ref (pw_ad G 3)), (2, .ref (pw_ad G (4 * n2 + 54)))]) hx hb dX4_set_43 hl (k := 3) rfl rfl (by decide) rfl (fun ls hl => ?_)
  refine lv_goto (tgt := 2) hx hb dX4_set_46 (by decide) ?_
  exact hk2 _ _ _ _ _ _ hbn2 hw (lv_sub hl [1, 2, 3, 0] rfl) hf
set_option maxHeartbeats 4000000 in
set_option maxRecDepth 100000 in
theorem t_X4_set_2 (hC : pw_CX G RX4 cX4_set 5 none p s m args meth c) {k2 : Nat → Int32 → pw_St → Option pw_St} {τ : pw_St} (hk2 : ∀ (n2 : Nat), ∀ (x3 : Int32), ∀ (σ : pw_St) (H : Heap) (locs : List Loc) (ls : Array Slot), n2 < 14 → pw_WH G σ s.heap H locs → lv_has ls 5 [(0, .ref (pw_ad G 7)), (1, .ref (pw_ad G 3)), (2, .ref (pw_ad G (4 * n2 + 54))), (3, .int x3)] → k2 n2 x3 σ = some τ → W p l e rm_X4_set s m args below meth c H locs 0 0 (MQ below (pw_Qv G τ) args s 0 0 (pw_gA G)) (F0 m 2 ls [])) {n2 : Nat} {x3 : Int32} (hbn2 : n2 < 14) {σ : pw_St} {H : Heap} {locs : List Loc} {ls : Array Slot} (hw : pw_WH G σ s.heap H locs) (hl : lv_has ls 5 [(0, .ref (pw_ad G 7)), (1, .ref (pw_ad G 3)), (2, .ref (pw_ad G (4 * n2 + 54))), (3, .int x3)]) (hf : b_X4_set_2 k2 n2 x3 σ = some τ) : W p l e rm_X4_set s m args below meth c H locs 0 0 (MQ below (pw_Qv G τ) args s 0 0 (pw_gA G)) (F0 m 2 ls []) := by
  have hx := hC.1
  have hb := hC.2.1
  unfold b_X4_set_2 at hf
  refine lv_iload_n hx hb dX4_set_2 rfl (lv_at hl 3 rfl) ?_
  refine lv_aload_n hx hb dX4_set_3 rfl (lv_at hl 1 rfl) ?_
  refine pg_3_5 hC hw mw_161 dX4_set_4 ?_
  refine lv_icmp_ge (tgt := 49) hx hb dX4_set_7 (by decide) (fun hc => ?_) (fun hc => ?_)
  · replace hf := pw_ifp hc hf
    exact pw_vret hC hw hf dX4_set_49
  · replace hf := pw_ifn hc hf
    refine lv_aload_n hx hb dX4_set_10 rfl (lv_at hl 1 rfl) ?_
    refine pg_3_1 hC hw mw_154 dX4_set_11 ?_
    refine lv_iload_n hx hb dX4_set_14 rfl (lv_at hl 3 rfl) ?_
    obtain ⟨hin, hf⟩ := pw_gd hf
    refine pw_ild hC hw ca_22 hin dX4_set_15 ?_
    refine lv_istore (lv' := [(4, .int (σ.1 22 x3.toNatClampNeg)), (0, .ref (pw_ad G 7)), (1, .ref (pw_ad G 3)), (2, .ref (pw_ad G (4 * n2 + 54))), (3, .int x3)]) hx hb dX4_set_16 hl (by decide) rfl (fun ls hl => ?_)
    refine lv_aload_n hx hb dX4_set_18 rfl (lv_at hl 1 rfl) ?_
    refine pg_7_1 hC hw mw_266 dX4_set_19 ?_
    refine lv_iload hx hb dX4_set_22 (lv_at hl 0 rfl) ?_
    refine lv_aload_n hx hb dX4_set_24 rfl (lv_at hl 1 rfl) ?_
    refine pg_7_0 hC hw mw_265 dX4_set_25 ?_
    refine lv_aload_n hx hb dX4_set_28 rfl (lv_at hl 3 rfl) ?_
    refine lv_iload hx hb dX4_set_29 (lv_at hl 0 rfl) ?_
    obtain ⟨r1, σ1, h1, hf⟩ := pw_bi_some hf
    refine pw_ci hw (pw_runV (As := [.ref (pw_ad G (4 * n2 + 54)), .int (σ.1 22 x3.toNatClampNeg)]) (rest := [.int (σ.1 22 x3.toNatClampNeg), .ref (pw_ad G 30)]) hC hw (c_X5_worth hbn2 h1) mw_639 wm_X5_worth ⟨Nat.zero_le _, Nat.zero_le _⟩ ⟨rfl, rfl, Nat.le_of_ble_eq_true rfl, Nat.le_of_ble_eq_true rfl⟩ (by decide) rfl rfl rfl hl.1 rfl (Nat.le_of_ble_eq_true rfl) dX4_set_31) (fun H locs hw => ?_)
    refine lv_if_eq (tgt := 41) hx hb dX4_set_34 (by decide) (fun hc => ?_) (fun hc => ?_)
    · replace hf := pw_ifp hc hf
      refine lv_iconst (v := 0) hx hb dX4_set_41 (by decide) ?_
      exact t_X4_set_42 hC hk2 hbn2 hw (lv_sub hl [1, 2, 3, 4] rfl) hf
    · replace hf := pw_ifn hc hf
      refine lv_iconst (v := 1) hx hb dX4_set_37 (by decide) ?_
      refine lv_goto (tgt := 42) hx hb dX4_set_38 (by decide) ?_
      exact t_X4_set_42 hC hk2 hbn2 hw (lv_sub hl [1, 2, 3, 4] rfl) hf
set_option maxHeartbeats 4000000 in
theorem tl_X4_set_2 (hC : pw_CX G RX4 cX4_set 5 none p s m args meth c) {τ : pw_St} : ∀ (n : Nat) (n2 : Nat) (x3 : Int32) (σ : pw_St) (H : Heap) (locs : List Loc) (ls : Array Slot), n2 < 14 → pw_WH G σ s.heap H locs → lv_has ls 5 [(0, .ref (pw_ad G 7)), (1, .ref (pw_ad G 3)), (2, .ref (pw_ad G (4 * n2 + 54))), (3, .int x3)] → l_X4_set_2  n n2 x3 σ = some τ → W p l e rm_X4_set s m args below meth c H locs 0 0 (MQ below (pw_Qv G τ) args s 0 0 (pw_gA G)) (F0 m 2 ls []) := by
  intro n
  induction n with
  | zero => intro n2 x3 σ H locs ls hbn2 hw hl hf; cases hf
  | succ n ih => intro n2 x3 σ H locs ls hbn2 hw hl hf; exact t_X4_set_2 hC ih hbn2 hw hl hf
set_option maxHeartbeats 4000000 in
set_option maxRecDepth 100000 in
theorem c_X4_set {l : Launch} {G : pw_Gh} {n2 : Nat} (hbn2 : n2 < 14) {σ : pw_St} {τ : pw_St} (hf : f_X4_set n2 σ = some τ) : Met l yX4_set (.code yX4_set cX4_set 5 none :: pw_BW) rm_X4_set (pw_Pc G [.ref (pw_ad G 7), .ref (pw_ad G 3), .ref (pw_ad G (4 * n2 + 54))] σ) (pw_Qv G τ) 0 0 (pw_gA G) := by
  refine pw_met (by decide +kernel) (Nat.le_of_ble_eq_true rfl) ?_
  intro p e s m args below meth c ls hC hw hl
  replace hl : lv_has ls 5 [(0, .ref (pw_ad G 7)), (1, .ref (pw_ad G 3)), (2, .ref (pw_ad G (4 * n2 + 54)))] := hl
  have hx := hC.1
  have hb := hC.2.1
  unfold f_X4_set at hf
  refine lv_iconst (v := 0) hx hb dX4_set_0 (by decide) ?_
  refine lv_istore_n (lv' := [(3, .int (0 : Int32)), (0, .ref (pw_ad G 7)), (1, .ref (pw_ad G 3)), (2, .ref (pw_ad G (4 * n2 + 54)))]) hx hb dX4_set_1 rfl hl (by decide) rfl (fun ls hl => ?_)
  exact tl_X4_set_2 hC  pw_FU _ _ _ _ _ _ hbn2 hw (lv_sub hl [1, 2, 3, 0] rfl) hf
end PM
