section PM
variable {p : Program} {l : Launch} {e : Env} {s : State} {m : MethodId} {args : Array Value} {below : List Frame} {meth : Method} {c : Code} {G : pw_Gh}
-- PerhapsWas next
def b_X10_next_18 (x1 : Int32) (σ : pw_St) : Option (Int32 × pw_St) := (if x1 = (-1 : Int32) then (pw_bv (f_X10_freshNet σ) fun σ3 => (if pw_in (0 : Int32) 2401 = true then (some ((σ3.1 22 (0 : Int32).toNatClampNeg), σ3)) else none)) else (pw_bv (f_X10_freshNet σ) fun σ1 => (pw_bi (f_X6_firstBehind x1 σ1) fun r2 σ2 => (some (r2, σ2)))))
def f_X10_next (x1 : Int32) (σ : pw_St) : Option (Int32 × pw_St) := (if x1 = (-1 : Int32) then (b_X10_next_18  x1 σ) else (pw_bi (f_X2_hasCut x1 σ) fun r1 σ1 => (if r1 = 0 then (some ((-1 : Int32), σ1)) else (b_X10_next_18  x1 σ1))))
def rm_X10_next : Room := { frames := 4, cells := 0, slots := 0, locals := 88 }
set_option maxHeartbeats 4000000 in
set_option maxRecDepth 100000 in
theorem t_X10_next_18 (hC : pw_CX G RX10 cX10_next 2 (some .int) p s m args meth c) {r : Int32} {τ : pw_St} {x1 : Int32} {σ : pw_St} {H : Heap} {locs : List Loc} {ls : Array Slot} (hw : pw_WH G σ s.heap H locs) (hl : lv_has ls 2 [(0, .ref (pw_ad G 0)), (1, .int x1)]) (hf : b_X10_next_18 x1 σ = some (r, τ)) : W p l e rm_X10_next s m args below meth c H locs 0 0 (MQ below (pw_Qi G r τ) args s 0 0 (pw_gA G)) (F0 m 18 ls []) := by
  have hx := hC.1
  have hb := hC.2.1
  unfold b_X10_next_18 at hf
  refine lv_iload_n hx hb dX10_next_18 rfl (lv_at hl 1 rfl) ?_
  refine lv_iconst (v := -1) hx hb dX10_next_19 (by decide) ?_
  refine lv_icmp_ne (tgt := 35) hx hb dX10_next_20 (by decide) (fun hc => ?_) (fun hc => ?_)
  · replace hf := pw_ifn hc hf
    refine lv_aload_n hx hb dX10_next_35 rfl (lv_at hl 0 rfl) ?_
    obtain ⟨σ1, h1, hf⟩ := pw_bv_some hf
    refine pw_cr hw (pw_runV (As := []) (rest := []) hC hw (c_X10_freshNet  h1) mw_445 wm_X10_freshNet ⟨Nat.zero_le _, Nat.zero_le _⟩ ⟨rfl, rfl, Nat.le_of_ble_eq_true rfl, Nat.le_of_ble_eq_true rfl⟩ (by decide) rfl rfl rfl hl.1 rfl (Nat.le_of_ble_eq_true rfl) dX10_next_36) (fun H locs hw => ?_)
    refine lv_iload_n hx hb dX10_next_39 rfl (lv_at hl 1 rfl) ?_
    obtain ⟨r2, σ2, h2, hf⟩ := pw_bi_some hf
    refine pw_ci hw (pw_runV (As := [.int x1]) (rest := []) hC hw (c_X6_firstBehind  h2) mw_483 wm_X6_firstBehind ⟨Nat.zero_le _, Nat.zero_le _⟩ ⟨rfl, rfl, Nat.le_of_ble_eq_true rfl, Nat.le_of_ble_eq_true rfl⟩ (by decide) rfl rfl rfl hl.1 rfl (Nat.le_of_ble_eq_true rfl) dX10_next_40) (fun H locs hw => ?_)
    exact pw_iret hC hw hf dX10_next_43
  · replace hf := pw_ifp hc hf
    refine lv_aload_n hx hb dX10_next_23 rfl (lv_at hl 0 rfl) ?_
    obtain ⟨σ3, h3, hf⟩ := pw_bv_some hf
    refine pw_cr hw (pw_runV (As := []) (rest := []) hC hw (c_X10_freshNet  h3) mw_445 wm_X10_freshNet ⟨Nat.zero_le _, Nat.zero_le _⟩ ⟨rfl, rfl, Nat.le_of_ble_eq_true rfl, Nat.le_of_ble_eq_true rfl⟩ (by decide) rfl rfl rfl hl.1 rfl (Nat.le_of_ble_eq_true rfl) dX10_next_24) (fun H locs hw => ?_)
    refine pg_3_1 hC hw mw_155 dX10_next_27 ?_
    refine lv_iconst (v := 0) hx hb dX10_next_30 (by decide) ?_
    obtain ⟨hin, hf⟩ := pw_gd hf
    refine pw_ild hC hw ca_22 hin dX10_next_31 ?_
    refine lv_goto (tgt := 43) hx hb dX10_next_32 (by decide) ?_
    exact pw_iret hC hw hf dX10_next_43
set_option maxHeartbeats 4000000 in
set_option maxRecDepth 100000 in
theorem c_X10_next {l : Launch} {G : pw_Gh} {x1 : Int32} {σ : pw_St} {r : Int32} {τ : pw_St} (hf : f_X10_next x1 σ = some (r, τ)) : Met l yX10_next (.code yX10_next cX10_next 2 (some .int) :: pw_BW) rm_X10_next (pw_Pc G [.ref (pw_ad G 0), .int x1] σ) (pw_Qi G r τ) 0 0 (pw_gA G) := by
  refine pw_met (by decide +kernel) (Nat.le_of_ble_eq_true rfl) ?_
  intro p e s m args below meth c ls hC hw hl
  replace hl : lv_has ls 2 [(0, .ref (pw_ad G 0)), (1, .int x1)] := hl
  have hx := hC.1
  have hb := hC.2.1
  unfold f_X10_next at hf
  refine lv_iload_n hx hb dX10_next_0 rfl (lv_at hl 1 rfl) ?_
  refine lv_iconst (v := -1) hx hb dX10_next_1 (by decide) ?_
  refine lv_icmp_eq (tgt := 18) hx hb dX10_next_2 (by decide) (fun hc => ?_) (fun hc => ?_)
  · replace hf := pw_ifp hc hf
    exact t_X10_next_18 hC   hw (lv_sub hl [0, 1] rfl) hf
  · replace hf := pw_ifn hc hf
    refine lv_aload_n hx hb dX10_next_5 rfl (lv_at hl 0 rfl) ?_
    refine pg_0_0 hC hw mw_301 dX10_next_6 ?_
    refine lv_iload_n hx hb dX10_next_9 rfl (lv_at hl 1 rfl) ?_
    obtain ⟨r1, σ1, h1, hf⟩ := pw_bi_some hf
    refine pw_ci hw (pw_runV (As := [.int x1]) (rest := []) hC hw (c_X2_hasCut  h1) mw_441 wm_X2_hasCut ⟨Nat.zero_le _, Nat.zero_le _⟩ ⟨rfl, rfl, Nat.le_of_ble_eq_true rfl, Nat.le_of_ble_eq_true rfl⟩ (by decide) rfl rfl rfl hl.1 rfl (Nat.le_of_ble_eq_true rfl) dX10_next_10) (fun H locs hw => ?_)
    refine lv_if_ne (tgt := 18) hx hb dX10_next_13 (by decide) (fun hc => ?_) (fun hc => ?_)
    · replace hf := pw_ifn hc hf
      exact t_X10_next_18 hC   hw (lv_sub hl [0, 1] rfl) hf
    · replace hf := pw_ifp hc hf
      refine lv_iconst (v := -1) hx hb dX10_next_16 (by decide) ?_
      exact pw_iret hC hw hf dX10_next_17
-- PerhapsWas join
def b_X10_join_48 (y0 : Int32) (y1 : Int32) (y2 : Int32) (σ : pw_St) : Option (Int32 × pw_St) := (pw_bi (f_X6_combine y2 y1 y0 σ) fun r1 σ1 => (some (r1, σ1)))
def b_X10_join_36 (x1 : Int32) (x2 : Int32) (x3 : Int32) (σ : pw_St) : Option (Int32 × pw_St) := (if x3 = (1 : Int32) then (b_X10_join_48  (1 : Int32) x2 x1 σ) else (b_X10_join_48  (0 : Int32) x2 x1 σ))
def f_X10_join (x1 : Int32) (x2 : Int32) (x3 : Int32) (σ : pw_St) : Option (Int32 × pw_St) := (pw_bi (f_X2_hasCut x1 σ) fun r1 σ1 => (if r1 = 0 then (some ((-1 : Int32), σ1)) else (pw_bi (f_X2_hasCut x2 σ1) fun r2 σ2 => (if r2 = 0 then (some ((-1 : Int32), σ2)) else (if x3 = 0 then (b_X10_join_36  x1 x2 x3 σ2) else (if x3 = (1 : Int32) then (b_X10_join_36  x1 x2 x3 σ2) else (some ((-2 : Int32), σ2))))))))
def rm_X10_join : Room := { frames := 2, cells := 0, slots := 0, locals := 49 }
set_option maxHeartbeats 4000000 in
set_option maxRecDepth 100000 in
theorem t_X10_join_48 (hC : pw_CX G RX10 cX10_join 4 (some .int) p s m args meth c) {r : Int32} {τ : pw_St} {y0 : Int32} {y1 : Int32} {y2 : Int32} {σ : pw_St} {H : Heap} {locs : List Loc} {ls : Array Slot} (hw : pw_WH G σ s.heap H locs) (hl : lv_has ls 4 []) (hf : b_X10_join_48 y0 y1 y2 σ = some (r, τ)) : W p l e rm_X10_join s m args below meth c H locs 0 0 (MQ below (pw_Qi G r τ) args s 0 0 (pw_gA G)) (F0 m 48 ls [.int y0, .int y1, .int y2]) := by
  have hx := hC.1
  have hb := hC.2.1
  unfold b_X10_join_48 at hf
  obtain ⟨r1, σ1, h1, hf⟩ := pw_bi_some hf
  refine pw_ci hw (pw_runS (As := [.int y2, .int y1, .int y0]) (rest := []) hC hw (c_X6_combine  h1) mw_491 wm_X6_combine ⟨Nat.zero_le _, Nat.zero_le _⟩ ⟨rfl, rfl, Nat.le_of_ble_eq_true rfl, Nat.le_of_ble_eq_true rfl⟩ rfl hl.1 rfl (Nat.le_of_ble_eq_true rfl) dX10_join_48) (fun H locs hw => ?_)
  exact pw_iret hC hw hf dX10_join_51
set_option maxHeartbeats 4000000 in
set_option maxRecDepth 100000 in
theorem t_X10_join_36 (hC : pw_CX G RX10 cX10_join 4 (some .int) p s m args meth c) {r : Int32} {τ : pw_St} {x1 : Int32} {x2 : Int32} {x3 : Int32} {σ : pw_St} {H : Heap} {locs : List Loc} {ls : Array Slot} (hw : pw_WH G σ s.heap H locs) (hl : lv_has ls 4 [(1, .int x1), (2, .int x2), (3, .int x3)]) (hf : b_X10_join_36 x1 x2 x3 σ = some (r, τ)) : W p l e rm_X10_join s m args below meth c H locs 0 0 (MQ below (pw_Qi G r τ) args s 0 0 (pw_gA G)) (F0 m 36 ls []) := by
  have hx := hC.1
  have hb := hC.2.1
  unfold b_X10_join_36 at hf
  refine lv_iload_n hx hb dX10_join_36 rfl (lv_at hl 0 rfl) ?_
  refine lv_iload_n hx hb dX10_join_37 rfl (lv_at hl 1 rfl) ?_
  refine lv_iload_n hx hb dX10_join_38 rfl (lv_at hl 2 rfl) ?_
  refine lv_iconst (v := 1) hx hb dX10_join_39 (by decide) ?_
  refine lv_icmp_ne (tgt := 47) hx hb dX10_join_40 (by decide) (fun hc => ?_) (fun hc => ?_)
  · replace hf := pw_ifn hc hf
    refine lv_iconst (v := 0) hx hb dX10_join_47 (by decide) ?_
    exact t_X10_join_48 hC   hw (lv_sub hl [] rfl) hf
  · replace hf := pw_ifp hc hf
    refine lv_iconst (v := 1) hx hb dX10_join_43 (by decide) ?_
    refine lv_goto (tgt := 48) hx hb dX10_join_44 (by decide) ?_
    exact t_X10_join_48 hC   hw (lv_sub hl [] rfl) hf
set_option maxHeartbeats 4000000 in
set_option maxRecDepth 100000 in
theorem c_X10_join {l : Launch} {G : pw_Gh} {x1 : Int32} {x2 : Int32} {x3 : Int32} {σ : pw_St} {r : Int32} {τ : pw_St} (hf : f_X10_join x1 x2 x3 σ = some (r, τ)) : Met l yX10_join (.code yX10_join cX10_join 4 (some .int) :: pw_BW) rm_X10_join (pw_Pc G [.ref (pw_ad G 0), .int x1, .int x2, .int x3] σ) (pw_Qi G r τ) 0 0 (pw_gA G) := by
  refine pw_met (by decide +kernel) (Nat.le_of_ble_eq_true rfl) ?_
  intro p e s m args below meth c ls hC hw hl
  replace hl : lv_has ls 4 [(0, .ref (pw_ad G 0)), (1, .int x1), (2, .int x2), (3, .int x3)] := hl
  have hx := hC.1
  have hb := hC.2.1
  unfold f_X10_join at hf
  refine lv_aload_n hx hb dX10_join_0 rfl (lv_at hl 0 rfl) ?_
  refine pg_0_0 hC hw mw_301 dX10_join_1 ?_
  refine lv_iload_n hx hb dX10_join_4 rfl (lv_at hl 1 rfl) ?_
  obtain ⟨r1, σ1, h1, hf⟩ := pw_bi_some hf
  refine pw_ci hw (pw_runV (As := [.int x1]) (rest := []) hC hw (c_X2_hasCut  h1) mw_441 wm_X2_hasCut ⟨Nat.zero_le _, Nat.zero_le _⟩ ⟨rfl, rfl, Nat.le_of_ble_eq_true rfl, Nat.le_of_ble_eq_true rfl⟩ (by decide) rfl rfl rfl hl.1 rfl (Nat.le_of_ble_eq_true rfl) dX10_join_5) (fun H locs hw => ?_)
  refine lv_if_eq (tgt := 22) hx hb dX10_join_8 (by decide) (fun hc => ?_) (fun hc => ?_)
  · replace hf := pw_ifp hc hf
    refine lv_iconst (v := -1) hx hb dX10_join_22 (by decide) ?_
    exact pw_iret hC hw hf dX10_join_23
  · replace hf := pw_ifn hc hf
    refine lv_aload_n hx hb dX10_join_11 rfl (lv_at hl 0 rfl) ?_
    refine pg_0_0 hC hw mw_301 dX10_join_12 ?_
    refine lv_iload_n hx hb dX10_join_15 rfl (lv_at hl 2 rfl) ?_
    obtain ⟨r2, σ2, h2, hf⟩ := pw_bi_some hf
    refine pw_ci hw (pw_runV (As := [.int x2]) (rest := []) hC hw (c_X2_hasCut  h2) mw_441 wm_X2_hasCut ⟨Nat.zero_le _, Nat.zero_le _⟩ ⟨rfl, rfl, Nat.le_of_ble_eq_true rfl, Nat.le_of_ble_eq_true rfl⟩ (by decide) rfl rfl rfl hl.1 rfl (Nat.le_of_ble_eq_true rfl) dX10_join_16) (fun H locs hw => ?_)
    refine lv_if_ne (tgt := 24) hx hb dX10_join_19 (by decide) (fun hc => ?_) (fun hc => ?_)
    · replace hf := pw_ifn hc hf
      refine lv_iload_n hx hb dX10_join_24 rfl (lv_at hl 3 rfl) ?_
      refine lv_if_eq (tgt := 36) hx hb dX10_join_25 (by decide) (fun hc => ?_) (fun hc => ?_)
      · replace hf := pw_ifp hc hf
        exact t_X10_join_36 hC   hw (lv_sub hl [1, 2, 3] rfl) hf
      · replace hf := pw_ifn hc hf
        refine lv_iload_n hx hb dX10_join_28 rfl (lv_at hl 3 rfl) ?_
        refine lv_iconst (v := 1) hx hb dX10_join_29 (by decide) ?_
        refine lv_icmp_eq (tgt := 36) hx hb dX10_join_30 (by decide) (fun hc => ?_) (fun hc => ?_)
        · replace hf := pw_ifp hc hf
          exact t_X10_join_36 hC   hw (lv_sub hl [1, 2, 3] rfl) hf
        · replace hf := pw_ifn hc hf
          refine lv_bipush (v := -2) hx hb dX10_join_33 (by decide) ?_
          exact pw_iret hC hw hf dX10_join_35
    · replace hf := pw_ifp hc hf
      refine lv_iconst (v := -1) hx hb dX10_join_22 (by decide) ?_
      exact pw_iret hC hw hf dX10_join_23
-- PerhapsWas least
def f_X10_least (x1 : Int32) (x2 : Int32) (σ : pw_St) : Option (Int32 × pw_St) := (pw_bi (f_X2_hasProcess x1 σ) fun r1 σ1 => (if r1 = 0 then (some ((-1 : Int32), σ1)) else (if x2 < 0 then (some ((-1 : Int32), σ1)) else (if pw_in x1 4 = true then (if x2 ≤ (σ1.1 11 x1.toNatClampNeg) then (if x2 = 0 then (some ((0 : Int32), σ1)) else (pw_bi (f_X2_leastWith x1 (x2 - (1 : Int32)) σ1) fun r2 σ2 => (some (r2, σ2)))) else (some ((-1 : Int32), σ1))) else none))))
def rm_X10_least : Room := { frames := 2, cells := 0, slots := 0, locals := 47 }
set_option maxHeartbeats 4000000 in
set_option maxRecDepth 100000 in
theorem c_X10_least {l : Launch} {G : pw_Gh} {x1 : Int32} {x2 : Int32} {σ : pw_St} {r : Int32} {τ : pw_St} (hf : f_X10_least x1 x2 σ = some (r, τ)) : Met l yX10_least (.code yX10_least cX10_least 3 (some .int) :: pw_BW) rm_X10_least (pw_Pc G [.ref (pw_ad G 0), .int x1, .int x2] σ) (pw_Qi G r τ) 0 0 (pw_gA G) := by
  refine pw_met (by decide +kernel) (Nat.le_of_ble_eq_true rfl) ?_
  intro p e s m args below meth c ls hC hw hl
  replace hl : lv_has ls 3 [(0, .ref (pw_ad G 0)), (1, .int x1), (2, .int x2)] := hl
  have hx := hC.1
  have hb := hC.2.1
  unfold f_X10_least at hf
  refine lv_aload_n hx hb dX10_least_0 rfl (lv_at hl 0 rfl) ?_
  refine pg_0_0 hC hw mw_301 dX10_least_1 ?_
  refine lv_iload_n hx hb dX10_least_4 rfl (lv_at hl 1 rfl) ?_
  obtain ⟨r1, σ1, h1, hf⟩ := pw_bi_some hf
  refine pw_ci hw (pw_runV (As := [.int x1]) (rest := []) hC hw (c_X2_hasProcess  h1) mw_337 wm_X2_hasProcess ⟨Nat.zero_le _, Nat.zero_le _⟩ ⟨rfl, rfl, Nat.le_of_ble_eq_true rfl, Nat.le_of_ble_eq_true rfl⟩ (by decide) rfl rfl rfl hl.1 rfl (Nat.le_of_ble_eq_true rfl) dX10_least_5) (fun H locs hw => ?_)
  refine lv_if_eq (tgt := 28) hx hb dX10_least_8 (by decide) (fun hc => ?_) (fun hc => ?_)
  · replace hf := pw_ifp hc hf
    refine lv_iconst (v := -1) hx hb dX10_least_28 (by decide) ?_
    exact pw_iret hC hw hf dX10_least_29
  · replace hf := pw_ifn hc hf
    refine lv_iload_n hx hb dX10_least_11 rfl (lv_at hl 2 rfl) ?_
    refine lv_if_lt (tgt := 28) hx hb dX10_least_12 (by decide) (fun hc => ?_) (fun hc => ?_)
    · replace hf := pw_ifp hc hf
      refine lv_iconst (v := -1) hx hb dX10_least_28 (by decide) ?_
      exact pw_iret hC hw hf dX10_least_29
    · replace hf := pw_ifn hc hf
      refine lv_iload_n hx hb dX10_least_15 rfl (lv_at hl 2 rfl) ?_
      refine lv_aload_n hx hb dX10_least_16 rfl (lv_at hl 0 rfl) ?_
      refine pg_0_0 hC hw mw_301 dX10_least_17 ?_
      refine pg_1_1 hC hw mw_105 dX10_least_20 ?_
      refine lv_iload_n hx hb dX10_least_23 rfl (lv_at hl 1 rfl) ?_
      obtain ⟨hin, hf⟩ := pw_gd hf
      refine pw_ild hC hw ca_11 hin dX10_least_24 ?_
      refine lv_icmp_le (tgt := 30) hx hb dX10_least_25 (by decide) (fun hc => ?_) (fun hc => ?_)
      · replace hf := pw_ifp hc hf
        refine lv_iload_n hx hb dX10_least_30 rfl (lv_at hl 2 rfl) ?_
        refine lv_if_ne (tgt := 38) hx hb dX10_least_31 (by decide) (fun hc => ?_) (fun hc => ?_)
        · replace hf := pw_ifn hc hf
          refine lv_aload_n hx hb dX10_least_38 rfl (lv_at hl 0 rfl) ?_
          refine pg_0_0 hC hw mw_301 dX10_least_39 ?_
          refine lv_iload_n hx hb dX10_least_42 rfl (lv_at hl 1 rfl) ?_
          refine lv_iload_n hx hb dX10_least_43 rfl (lv_at hl 2 rfl) ?_
          refine lv_iconst (v := 1) hx hb dX10_least_44 (by decide) ?_
          refine lv_isub hx hb dX10_least_45 ?_
          obtain ⟨r2, σ2, h2, hf⟩ := pw_bi_some hf
          refine pw_ci hw (pw_runV (As := [.int x1, .int (x2 - (1 : Int32))]) (rest := []) hC hw (c_X2_leastWith  h2) mw_505 wm_X2_leastWith ⟨Nat.zero_le _, Nat.zero_le _⟩ ⟨rfl, rfl, Nat.le_of_ble_eq_true rfl, Nat.le_of_ble_eq_true rfl⟩ (by decide) rfl rfl rfl hl.1 rfl (Nat.le_of_ble_eq_true rfl) dX10_least_46) (fun H locs hw => ?_)
          exact pw_iret hC hw hf dX10_least_49
        · replace hf := pw_ifp hc hf
          refine lv_iconst (v := 0) hx hb dX10_least_34 (by decide) ?_
          refine lv_goto (tgt := 49) hx hb dX10_least_35 (by decide) ?_
          exact pw_iret hC hw hf dX10_least_49
      · replace hf := pw_ifn hc hf
        refine lv_iconst (v := -1) hx hb dX10_least_28 (by decide) ?_
        exact pw_iret hC hw hf dX10_least_29
-- PerhapsWas orders
def f_X10_orders (σ : pw_St) : Option (Int64 × pw_St) := (pw_bv (f_X10_freshNet σ) fun σ1 => (pw_bv (f_X4_wipe σ1) fun σ2 => (pw_bl (f_X9_fill σ2) fun r3 σ3 => (some (r3, σ3)))))
def rm_X10_orders : Room := { frames := 5, cells := 0, slots := 0, locals := 119 }
set_option maxHeartbeats 4000000 in
set_option maxRecDepth 100000 in
theorem c_X10_orders {l : Launch} {G : pw_Gh} {σ : pw_St} {r : Int64} {τ : pw_St} (hf : f_X10_orders σ = some (r, τ)) : Met l yX10_orders (.code yX10_orders cX10_orders 2 (some .long) :: pw_BW) rm_X10_orders (pw_Pc G [.ref (pw_ad G 0)] σ) (pw_Ql G r τ) 0 0 (pw_gA G) := by
  refine pw_met (by decide +kernel) (Nat.le_of_ble_eq_true rfl) ?_
  intro p e s m args below meth c ls hC hw hl
  replace hl : lv_has ls 2 [(0, .ref (pw_ad G 0))] := hl
  have hx := hC.1
  have hb := hC.2.1
  unfold f_X10_orders at hf
  refine lv_aload_n hx hb dX10_orders_0 rfl (lv_at hl 0 rfl) ?_
  obtain ⟨σ1, h1, hf⟩ := pw_bv_some hf
  refine pw_cr hw (pw_runV (As := []) (rest := []) hC hw (c_X10_freshNet  h1) mw_445 wm_X10_freshNet ⟨Nat.zero_le _, Nat.zero_le _⟩ ⟨rfl, rfl, Nat.le_of_ble_eq_true rfl, Nat.le_of_ble_eq_true rfl⟩ (by decide) rfl rfl rfl hl.1 rfl (Nat.le_of_ble_eq_true rfl) dX10_orders_1) (fun H locs hw => ?_)
  refine lv_astore_n (lv' := [(1, .ref (pw_ad G 3)), (0, .ref (pw_ad G 0))]) hx hb dX10_orders_4 rfl hl (by decide) rfl (fun ls hl => ?_)
  refine lv_aload_n hx hb dX10_orders_5 rfl (lv_at hl 1 rfl) ?_
  refine pg_0_5 hC hw mw_306 dX10_orders_6 ?_
  refine lv_aload_n hx hb dX10_orders_9 rfl (lv_at hl 0 rfl) ?_
  obtain ⟨σ2, h2, hf⟩ := pw_bv_some hf
  refine pw_cv hw (pw_runV (As := [.ref (pw_ad G 3)]) (rest := []) hC hw (c_X4_wipe  h2) mw_514 wm_X4_wipe ⟨Nat.zero_le _, Nat.zero_le _⟩ ⟨rfl, rfl, Nat.le_of_ble_eq_true rfl, Nat.le_of_ble_eq_true rfl⟩ (by decide) rfl rfl rfl hl.1 rfl (Nat.le_of_ble_eq_true rfl) dX10_orders_10) (fun H locs hw => ?_)
  refine lv_aload_n hx hb dX10_orders_13 rfl (lv_at hl 1 rfl) ?_
  refine pg_0_6 hC hw mw_307 dX10_orders_14 ?_
  refine lv_aload_n hx hb dX10_orders_17 rfl (lv_at hl 0 rfl) ?_
  refine lv_aload_n hx hb dX10_orders_18 rfl (lv_at hl 1 rfl) ?_
  refine pg_0_5 hC hw mw_306 dX10_orders_19 ?_
  refine pg_7_1 hC hw mw_267 dX10_orders_22 ?_
  obtain ⟨r3, σ3, h3, hf⟩ := pw_bl_some hf
  refine pw_cl hw (pw_runV (As := [.ref (pw_ad G 3), .ref (pw_ad G 30)]) (rest := []) hC hw (c_X9_fill  h3) mw_518 wm_X9_fill ⟨Nat.zero_le _, Nat.zero_le _⟩ ⟨rfl, rfl, Nat.le_of_ble_eq_true rfl, Nat.le_of_ble_eq_true rfl⟩ (by decide) rfl rfl rfl hl.1 rfl (Nat.le_of_ble_eq_true rfl) dX10_orders_25) (fun H locs hw => ?_)
  exact pw_lret hC hw hf dX10_orders_28
-- PerhapsWas order
def f_X10_order (x1 : Int64) (x3 : Int32) (σ : pw_St) : Option (Int32 × pw_St) := (if (lg_cmp x1 (0 : Int64)) < 0 then (some ((-1 : Int32), σ)) else (if x3 < 0 then (some ((-1 : Int32), σ)) else (if (σ.1 1 9) ≤ x3 then (some ((-1 : Int32), σ)) else (pw_bl (f_X10_orders σ) fun r1 σ1 => (if (lg_cmp x1 r1) < 0 then (pw_bv (f_X10_freshNet σ1) fun σ2 => (pw_bi (f_X9_processAt x1 x3 σ2) fun r3 σ3 => (some (r3, σ3)))) else (some ((-1 : Int32), σ1)))))))
def rm_X10_order : Room := { frames := 6, cells := 0, slots := 0, locals := 140 }
set_option maxHeartbeats 4000000 in
set_option maxRecDepth 100000 in
theorem c_X10_order {l : Launch} {G : pw_Gh} {x1 : Int64} {x3 : Int32} {σ : pw_St} {r : Int32} {τ : pw_St} (hf : f_X10_order x1 x3 σ = some (r, τ)) : Met l yX10_order (.code yX10_order cX10_order 4 (some .int) :: pw_BW) rm_X10_order (pw_Pc G [.ref (pw_ad G 0), .long x1, .int x3] σ) (pw_Qi G r τ) 0 0 (pw_gA G) := by
  refine pw_met (by decide +kernel) (Nat.le_of_ble_eq_true rfl) ?_
  intro p e s m args below meth c ls hC hw hl
  replace hl : lv_has ls 4 [(0, .ref (pw_ad G 0)), (1, .long x1), (3, .int x3)] := hl
  have hx := hC.1
  have hb := hC.2.1
  unfold f_X10_order at hf
  refine lv_lload_n hx hb dX10_order_0 rfl (lv_at hl 1 rfl) ?_
  refine lv_lconst (v := 0) hx hb dX10_order_1 (by decide) ?_
  refine W.lcmp hx hb dX10_order_2 ?_
  refine lv_if_lt (tgt := 30) hx hb dX10_order_3 (by decide) (fun hc => ?_) (fun hc => ?_)
  · replace hf := pw_ifp hc hf
    refine lv_iconst (v := -1) hx hb dX10_order_30 (by decide) ?_
    exact pw_iret hC hw hf dX10_order_31
  · replace hf := pw_ifn hc hf
    refine lv_iload_n hx hb dX10_order_6 rfl (lv_at hl 2 rfl) ?_
    refine lv_if_lt (tgt := 30) hx hb dX10_order_7 (by decide) (fun hc => ?_) (fun hc => ?_)
    · replace hf := pw_ifp hc hf
      refine lv_iconst (v := -1) hx hb dX10_order_30 (by decide) ?_
      exact pw_iret hC hw hf dX10_order_31
    · replace hf := pw_ifn hc hf
      refine lv_iload_n hx hb dX10_order_10 rfl (lv_at hl 2 rfl) ?_
      refine lv_aload_n hx hb dX10_order_11 rfl (lv_at hl 0 rfl) ?_
      refine pg_0_0 hC hw mw_301 dX10_order_12 ?_
      refine pg_1_9 hC hw mw_118 dX10_order_15 ?_
      refine lv_icmp_ge (tgt := 30) hx hb dX10_order_18 (by decide) (fun hc => ?_) (fun hc => ?_)
      · replace hf := pw_ifp hc hf
        refine lv_iconst (v := -1) hx hb dX10_order_30 (by decide) ?_
        exact pw_iret hC hw hf dX10_order_31
      · replace hf := pw_ifn hc hf
        refine lv_lload_n hx hb dX10_order_21 rfl (lv_at hl 1 rfl) ?_
        refine lv_aload_n hx hb dX10_order_22 rfl (lv_at hl 0 rfl) ?_
        obtain ⟨r1, σ1, h1, hf⟩ := pw_bl_some hf
        refine pw_cl hw (pw_runV (As := []) (rest := [.long x1]) hC hw (c_X10_orders  h1) mw_538 wm_X10_orders ⟨Nat.zero_le _, Nat.zero_le _⟩ ⟨rfl, rfl, Nat.le_of_ble_eq_true rfl, Nat.le_of_ble_eq_true rfl⟩ (by decide) rfl rfl rfl hl.1 rfl (Nat.le_of_ble_eq_true rfl) dX10_order_23) (fun H locs hw => ?_)
        refine W.lcmp hx hb dX10_order_26 ?_
        refine lv_if_lt (tgt := 32) hx hb dX10_order_27 (by decide) (fun hc => ?_) (fun hc => ?_)
        · replace hf := pw_ifp hc hf
          refine lv_aload_n hx hb dX10_order_32 rfl (lv_at hl 0 rfl) ?_
          refine pg_0_6 hC hw mw_307 dX10_order_33 ?_
          refine lv_aload_n hx hb dX10_order_36 rfl (lv_at hl 0 rfl) ?_
          obtain ⟨σ2, h2, hf⟩ := pw_bv_some hf
          refine pw_cr hw (pw_runV (As := []) (rest := [.ref (pw_ad G 8)]) hC hw (c_X10_freshNet  h2) mw_445 wm_X10_freshNet ⟨Nat.zero_le _, Nat.zero_le _⟩ ⟨rfl, rfl, Nat.le_of_ble_eq_true rfl, Nat.le_of_ble_eq_true rfl⟩ (by decide) rfl rfl rfl hl.1 rfl (Nat.le_of_ble_eq_true rfl) dX10_order_37) (fun H locs hw => ?_)
          refine lv_lload_n hx hb dX10_order_40 rfl (lv_at hl 1 rfl) ?_
          refine lv_iload_n hx hb dX10_order_41 rfl (lv_at hl 2 rfl) ?_
          obtain ⟨r3, σ3, h3, hf⟩ := pw_bi_some hf
          refine pw_ci hw (pw_runV (As := [.ref (pw_ad G 3), .long x1, .int x3]) (rest := []) hC hw (c_X9_processAt  h3) mw_539 wm_X9_processAt ⟨Nat.zero_le _, Nat.zero_le _⟩ ⟨rfl, rfl, Nat.le_of_ble_eq_true rfl, Nat.le_of_ble_eq_true rfl⟩ (by decide) rfl rfl rfl hl.1 rfl (Nat.le_of_ble_eq_true rfl) dX10_order_42) (fun H locs hw => ?_)
          exact pw_iret hC hw hf dX10_order_45
        · replace hf := pw_ifn hc hf
          refine lv_iconst (v := -1) hx hb dX10_order_30 (by decide) ?_
          exact pw_iret hC hw hf dX10_order_31
-- PerhapsWas number
def f_X10_number (x1 : Int32) (σ : pw_St) : Option (Int32 × pw_St) := (if (σ.1 4 1) < (6 : Int32) then (pw_bi (f_X7_push (11 : Int32) x1 (0 : Int32) σ) fun r1 σ1 => (some (r1, σ1))) else (some ((-4 : Int32), σ)))
def rm_X10_number : Room := { frames := 2, cells := 0, slots := 0, locals := 46 }
set_option maxHeartbeats 4000000 in
set_option maxRecDepth 100000 in
theorem c_X10_number {l : Launch} {G : pw_Gh} {x1 : Int32} {σ : pw_St} {r : Int32} {τ : pw_St} (hf : f_X10_number x1 σ = some (r, τ)) : Met l yX10_number (.code yX10_number cX10_number 2 (some .int) :: pw_BW) rm_X10_number (pw_Pc G [.ref (pw_ad G 0), .int x1] σ) (pw_Qi G r τ) 0 0 (pw_gA G) := by
  refine pw_met (by decide +kernel) (Nat.le_of_ble_eq_true rfl) ?_
  intro p e s m args below meth c ls hC hw hl
  replace hl : lv_has ls 2 [(0, .ref (pw_ad G 0)), (1, .int x1)] := hl
  have hx := hC.1
  have hb := hC.2.1
  unfold f_X10_number at hf
  refine lv_aload_n hx hb dX10_number_0 rfl (lv_at hl 0 rfl) ?_
  refine pg_0_2 hC hw mw_303 dX10_number_1 ?_
  refine pg_4_1 hC hw mw_220 dX10_number_4 ?_
  refine lv_bipush (v := 6) hx hb dX10_number_7 (by decide) ?_
  refine lv_icmp_lt (tgt := 17) hx hb dX10_number_9 (by decide) (fun hc => ?_) (fun hc => ?_)
  · replace hf := pw_ifp hc hf
    refine lv_aload_n hx hb dX10_number_17 rfl (lv_at hl 0 rfl) ?_
    refine pg_0_2 hC hw mw_303 dX10_number_18 ?_
    refine lv_bipush (v := 11) hx hb dX10_number_21 (by decide) ?_
    refine lv_iload_n hx hb dX10_number_23 rfl (lv_at hl 1 rfl) ?_
    refine lv_iconst (v := 0) hx hb dX10_number_24 (by decide) ?_
    obtain ⟨r1, σ1, h1, hf⟩ := pw_bi_some hf
    refine pw_ci hw (pw_runV (As := [.int (11 : Int32), .int x1, .int (0 : Int32)]) (rest := []) hC hw (c_X7_push  h1) mw_548 wm_X7_push ⟨Nat.zero_le _, Nat.zero_le _⟩ ⟨rfl, rfl, Nat.le_of_ble_eq_true rfl, Nat.le_of_ble_eq_true rfl⟩ (by decide) rfl rfl rfl hl.1 rfl (Nat.le_of_ble_eq_true rfl) dX10_number_25) (fun H locs hw => ?_)
    exact pw_iret hC hw hf dX10_number_28
  · replace hf := pw_ifn hc hf
    refine lv_bipush (v := -4) hx hb dX10_number_12 (by decide) ?_
    refine lv_goto (tgt := 28) hx hb dX10_number_14 (by decide) ?_
    exact pw_iret hC hw hf dX10_number_28
-- PerhapsWas mayBeProcess
def f_X10_mayBeProcess (x0 : Int32) (σ : pw_St) : Option (Int32 × pw_St) := (if x0 < 0 then (if pw_isb (0 : Int32) = true then some ((0 : Int32), σ) else none) else (if (4 : Int32) ≤ x0 then (if pw_isb (0 : Int32) = true then some ((0 : Int32), σ) else none) else (if pw_isb (1 : Int32) = true then some ((1 : Int32), σ) else none)))
def rm_X10_mayBeProcess : Room := { frames := 0, cells := 0, slots := 0, locals := 0 }
set_option maxHeartbeats 4000000 in
set_option maxRecDepth 100000 in
theorem c_X10_mayBeProcess {l : Launch} {G : pw_Gh} {x0 : Int32} {σ : pw_St} {r : Int32} {τ : pw_St} (hf : f_X10_mayBeProcess x0 σ = some (r, τ)) : Met l yX10_mayBeProcess (.code yX10_mayBeProcess cX10_mayBeProcess 1 (some .boolean) :: pw_BW) rm_X10_mayBeProcess (pw_Pc G [.int x0] σ) (pw_Qi G r τ) 0 0 (pw_gA G) := by
  refine pw_met (by decide +kernel) (Nat.le_of_ble_eq_true rfl) ?_
  intro p e s m args below meth c ls hC hw hl
  replace hl : lv_has ls 1 [(0, .int x0)] := hl
  have hx := hC.1
  have hb := hC.2.1
  unfold f_X10_mayBeProcess at hf
  refine lv_iload_n hx hb dX10_mayBeProcess_0 rfl (lv_at hl 0 rfl) ?_
  refine lv_if_lt (tgt := 13) hx hb dX10_mayBeProcess_1 (by decide) (fun hc => ?_) (fun hc => ?_)
  · replace hf := pw_ifp hc hf
    refine lv_iconst (v := 0) hx hb dX10_mayBeProcess_13 (by decide) ?_
    exact pw_zret hC hw hf dX10_mayBeProcess_14
  · replace hf := pw_ifn hc hf
    refine lv_iload_n hx hb dX10_mayBeProcess_4 rfl (lv_at hl 0 rfl) ?_
    refine lv_iconst (v := 4) hx hb dX10_mayBeProcess_5 (by decide) ?_
    refine lv_icmp_ge (tgt := 13) hx hb dX10_mayBeProcess_6 (by decide) (fun hc => ?_) (fun hc => ?_)
    · replace hf := pw_ifp hc hf
      refine lv_iconst (v := 0) hx hb dX10_mayBeProcess_13 (by decide) ?_
      exact pw_zret hC hw hf dX10_mayBeProcess_14
    · replace hf := pw_ifn hc hf
      refine lv_iconst (v := 1) hx hb dX10_mayBeProcess_9 (by decide) ?_
      refine lv_goto (tgt := 14) hx hb dX10_mayBeProcess_10 (by decide) ?_
      exact pw_zret hC hw hf dX10_mayBeProcess_14
-- PerhapsWas part
def b_X10_part_56 (x1 : Int32) (x2 : Int32) (x3 : Int32) (σ : pw_St) : Option (Int32 × pw_St) := (if (σ.1 4 1) < (6 : Int32) then (pw_bi (f_X7_push ((8 : Int32) + x1) x2 x3 σ) fun r1 σ1 => (some (r1, σ1))) else (some ((-4 : Int32), σ)))
def b_X10_part_44 (x1 : Int32) (x2 : Int32) (x3 : Int32) (σ : pw_St) : Option (Int32 × pw_St) := (if x1 = (2 : Int32) then (if x3 = 0 then (b_X10_part_56  x1 x2 x3 σ) else (some ((-2 : Int32), σ))) else (b_X10_part_56  x1 x2 x3 σ))
def b_X10_part_34 (x1 : Int32) (x2 : Int32) (x3 : Int32) (σ : pw_St) : Option (Int32 × pw_St) := (if x1 = (1 : Int32) then (if x2 = x3 then (some ((-2 : Int32), σ)) else (b_X10_part_44  x1 x2 x3 σ)) else (b_X10_part_44  x1 x2 x3 σ))
def f_X10_part (x1 : Int32) (x2 : Int32) (x3 : Int32) (σ : pw_St) : Option (Int32 × pw_St) := (if x1 < 0 then (some ((-1 : Int32), σ)) else (if (2 : Int32) < x1 then (some ((-1 : Int32), σ)) else (pw_bi (f_X10_mayBeProcess x2 σ) fun r1 σ1 => (if r1 = 0 then (some ((-1 : Int32), σ1)) else (pw_bi (f_X10_mayBeProcess x3 σ1) fun r2 σ2 => (if r2 = 0 then (some ((-1 : Int32), σ2)) else (if x1 = 0 then (if x3 < (3 : Int32) then (b_X10_part_34  x1 x2 x3 σ2) else (some ((-1 : Int32), σ2))) else (b_X10_part_34  x1 x2 x3 σ2))))))))
def rm_X10_part : Room := { frames := 2, cells := 0, slots := 0, locals := 46 }
set_option maxHeartbeats 4000000 in
set_option maxRecDepth 100000 in
theorem t_X10_part_56 (hC : pw_CX G RX10 cX10_part 4 (some .int) p s m args meth c) {r : Int32} {τ : pw_St} {x1 : Int32} {x2 : Int32} {x3 : Int32} {σ : pw_St} {H : Heap} {locs : List Loc} {ls : Array Slot} (hw : pw_WH G σ s.heap H locs) (hl : lv_has ls 4 [(0, .ref (pw_ad G 0)), (1, .int x1), (2, .int x2), (3, .int x3)]) (hf : b_X10_part_56 x1 x2 x3 σ = some (r, τ)) : W p l e rm_X10_part s m args below meth c H locs 0 0 (MQ below (pw_Qi G r τ) args s 0 0 (pw_gA G)) (F0 m 56 ls []) := by
  have hx := hC.1
  have hb := hC.2.1
  unfold b_X10_part_56 at hf
  refine lv_aload_n hx hb dX10_part_56 rfl (lv_at hl 0 rfl) ?_
  refine pg_0_2 hC hw mw_303 dX10_part_57 ?_
  refine pg_4_1 hC hw mw_220 dX10_part_60 ?_
  refine lv_bipush (v := 6) hx hb dX10_part_63 (by decide) ?_
  refine lv_icmp_lt (tgt := 73) hx hb dX10_part_65 (by decide) (fun hc => ?_) (fun hc => ?_)
  · replace hf := pw_ifp hc hf
    refine lv_aload_n hx hb dX10_part_73 rfl (lv_at hl 0 rfl) ?_
    refine pg_0_2 hC hw mw_303 dX10_part_74 ?_
    refine lv_bipush (v := 8) hx hb dX10_part_77 (by decide) ?_
    refine lv_iload_n hx hb dX10_part_79 rfl (lv_at hl 1 rfl) ?_
    refine lv_iadd hx hb dX10_part_80 ?_
    refine lv_iload_n hx hb dX10_part_81 rfl (lv_at hl 2 rfl) ?_
    refine lv_iload_n hx hb dX10_part_82 rfl (lv_at hl 3 rfl) ?_
    obtain ⟨r1, σ1, h1, hf⟩ := pw_bi_some hf
    refine pw_ci hw (pw_runV (As := [.int ((8 : Int32) + x1), .int x2, .int x3]) (rest := []) hC hw (c_X7_push  h1) mw_548 wm_X7_push ⟨Nat.zero_le _, Nat.zero_le _⟩ ⟨rfl, rfl, Nat.le_of_ble_eq_true rfl, Nat.le_of_ble_eq_true rfl⟩ (by decide) rfl rfl rfl hl.1 rfl (Nat.le_of_ble_eq_true rfl) dX10_part_83) (fun H locs hw => ?_)
    exact pw_iret hC hw hf dX10_part_86
  · replace hf := pw_ifn hc hf
    refine lv_bipush (v := -4) hx hb dX10_part_68 (by decide) ?_
    refine lv_goto (tgt := 86) hx hb dX10_part_70 (by decide) ?_
    exact pw_iret hC hw hf dX10_part_86
set_option maxHeartbeats 4000000 in
set_option maxRecDepth 100000 in
theorem t_X10_part_44 (hC : pw_CX G RX10 cX10_part 4 (some .int) p s m args meth c) {r : Int32} {τ : pw_St} {x1 : Int32} {x2 : Int32} {x3 : Int32} {σ : pw_St} {H : Heap} {locs : List Loc} {ls : Array Slot} (hw : pw_WH G σ s.heap H locs) (hl : lv_has ls 4 [(0, .ref (pw_ad G 0)), (1, .int x1), (2, .int x2), (3, .int x3)]) (hf : b_X10_part_44 x1 x2 x3 σ = some (r, τ)) : W p l e rm_X10_part s m args below meth c H locs 0 0 (MQ below (pw_Qi G r τ) args s 0 0 (pw_gA G)) (F0 m 44 ls []) := by
  have hx := hC.1
  have hb := hC.2.1
  unfold b_X10_part_44 at hf
  refine lv_iload_n hx hb dX10_part_44 rfl (lv_at hl 1 rfl) ?_
  refine lv_iconst (v := 2) hx hb dX10_part_45 (by decide) ?_
  refine lv_icmp_ne (tgt := 56) hx hb dX10_part_46 (by decide) (fun hc => ?_) (fun hc => ?_)
  · replace hf := pw_ifn hc hf
    exact t_X10_part_56 hC   hw (lv_sub hl [0, 1, 2, 3] rfl) hf
  · replace hf := pw_ifp hc hf
    refine lv_iload_n hx hb dX10_part_49 rfl (lv_at hl 3 rfl) ?_
    refine lv_if_eq (tgt := 56) hx hb dX10_part_50 (by decide) (fun hc => ?_) (fun hc => ?_)
    · replace hf := pw_ifp hc hf
      exact t_X10_part_56 hC   hw (lv_sub hl [0, 1, 2, 3] rfl) hf
    · replace hf := pw_ifn hc hf
      refine lv_bipush (v := -2) hx hb dX10_part_53 (by decide) ?_
      exact pw_iret hC hw hf dX10_part_55
set_option maxHeartbeats 4000000 in
set_option maxRecDepth 100000 in
theorem t_X10_part_34 (hC : pw_CX G RX10 cX10_part 4 (some .int) p s m args meth c) {r : Int32} {τ : pw_St} {x1 : Int32} {x2 : Int32} {x3 : Int32} {σ : pw_St} {H : Heap} {locs : List Loc} {ls : Array Slot} (hw : pw_WH G σ s.heap H locs) (hl : lv_has ls 4 [(0, .ref (pw_ad G 0)), (1, .int x1), (2, .int x2), (3, .int x3)]) (hf : b_X10_part_34 x1 x2 x3 σ = some (r, τ)) : W p l e rm_X10_part s m args below meth c H locs 0 0 (MQ below (pw_Qi G r τ) args s 0 0 (pw_gA G)) (F0 m 34 ls []) := by
  have hx := hC.1
  have hb := hC.2.1
  unfold b_X10_part_34 at hf
  refine lv_iload_n hx hb dX10_part_34 rfl (lv_at hl 1 rfl) ?_
  refine lv_iconst (v := 1) hx hb dX10_part_35 (by decide) ?_
  refine lv_icmp_ne (tgt := 44) hx hb dX10_part_36 (by decide) (fun hc => ?_) (fun hc => ?_)
  · replace hf := pw_ifn hc hf
    exact t_X10_part_44 hC   hw (lv_sub hl [0, 1, 2, 3] rfl) hf
  · replace hf := pw_ifp hc hf
    refine lv_iload_n hx hb dX10_part_39 rfl (lv_at hl 2 rfl) ?_
    refine lv_iload_n hx hb dX10_part_40 rfl (lv_at hl 3 rfl) ?_
    refine lv_icmp_eq (tgt := 53) hx hb dX10_part_41 (by decide) (fun hc => ?_) (fun hc => ?_)
    · replace hf := pw_ifp hc hf
      refine lv_bipush (v := -2) hx hb dX10_part_53 (by decide) ?_
      exact pw_iret hC hw hf dX10_part_55
    · replace hf := pw_ifn hc hf
      exact t_X10_part_44 hC   hw (lv_sub hl [0, 1, 2, 3] rfl) hf
set_option maxHeartbeats 4000000 in
set_option maxRecDepth 100000 in
theorem c_X10_part {l : Launch} {G : pw_Gh} {x1 : Int32} {x2 : Int32} {x3 : Int32} {σ : pw_St} {r : Int32} {τ : pw_St} (hf : f_X10_part x1 x2 x3 σ = some (r, τ)) : Met l yX10_part (.code yX10_part cX10_part 4 (some .int) :: pw_BW) rm_X10_part (pw_Pc G [.ref (pw_ad G 0), .int x1, .int x2, .int x3] σ) (pw_Qi G r τ) 0 0 (pw_gA G) := by
  refine pw_met (by decide +kernel) (Nat.le_of_ble_eq_true rfl) ?_
  intro p e s m args below meth c ls hC hw hl
  replace hl : lv_has ls 4 [(0, .ref (pw_ad G 0)), (1, .int x1), (2, .int x2), (3, .int x3)] := hl
  have hx := hC.1
  have hb := hC.2.1
  unfold f_X10_part at hf
  refine lv_iload_n hx hb dX10_part_0 rfl (lv_at hl 1 rfl) ?_
  refine lv_if_lt (tgt := 32) hx hb dX10_part_1 (by decide) (fun hc => ?_) (fun hc => ?_)
  · replace hf := pw_ifp hc hf
    refine lv_iconst (v := -1) hx hb dX10_part_32 (by decide) ?_
    exact pw_iret hC hw hf dX10_part_33
  · replace hf := pw_ifn hc hf
    refine lv_iload_n hx hb dX10_part_4 rfl (lv_at hl 1 rfl) ?_
    refine lv_iconst (v := 2) hx hb dX10_part_5 (by decide) ?_
    refine lv_icmp_gt (tgt := 32) hx hb dX10_part_6 (by decide) (fun hc => ?_) (fun hc => ?_)
    · replace hf := pw_ifp hc hf
      refine lv_iconst (v := -1) hx hb dX10_part_32 (by decide) ?_
      exact pw_iret hC hw hf dX10_part_33
    · replace hf := pw_ifn hc hf
      refine lv_iload_n hx hb dX10_part_9 rfl (lv_at hl 2 rfl) ?_
      obtain ⟨r1, σ1, h1, hf⟩ := pw_bi_some hf
      refine pw_ci hw (pw_runS (As := [.int x2]) (rest := []) hC hw (c_X10_mayBeProcess  h1) mw_560 wm_X10_mayBeProcess ⟨Nat.zero_le _, Nat.zero_le _⟩ ⟨rfl, rfl, Nat.le_of_ble_eq_true rfl, Nat.le_of_ble_eq_true rfl⟩ rfl hl.1 rfl (Nat.le_of_ble_eq_true rfl) dX10_part_10) (fun H locs hw => ?_)
      refine lv_if_eq (tgt := 32) hx hb dX10_part_13 (by decide) (fun hc => ?_) (fun hc => ?_)
      · replace hf := pw_ifp hc hf
        refine lv_iconst (v := -1) hx hb dX10_part_32 (by decide) ?_
        exact pw_iret hC hw hf dX10_part_33
      · replace hf := pw_ifn hc hf
        refine lv_iload_n hx hb dX10_part_16 rfl (lv_at hl 3 rfl) ?_
        obtain ⟨r2, σ2, h2, hf⟩ := pw_bi_some hf
        refine pw_ci hw (pw_runS (As := [.int x3]) (rest := []) hC hw (c_X10_mayBeProcess  h2) mw_560 wm_X10_mayBeProcess ⟨Nat.zero_le _, Nat.zero_le _⟩ ⟨rfl, rfl, Nat.le_of_ble_eq_true rfl, Nat.le_of_ble_eq_true rfl⟩ rfl hl.1 rfl (Nat.le_of_ble_eq_true rfl) dX10_part_17) (fun H locs hw => ?_)
        refine lv_if_eq (tgt := 32) hx hb dX10_part_20 (by decide) (fun hc => ?_) (fun hc => ?_)
        · replace hf := pw_ifp hc hf
          refine lv_iconst (v := -1) hx hb dX10_part_32 (by decide) ?_
          exact pw_iret hC hw hf dX10_part_33
        · replace hf := pw_ifn hc hf
          refine lv_iload_n hx hb dX10_part_23 rfl (lv_at hl 1 rfl) ?_
          refine lv_if_ne (tgt := 34) hx hb dX10_part_24 (by decide) (fun hc => ?_) (fun hc => ?_)
          · replace hf := pw_ifn hc hf
            exact t_X10_part_34 hC   hw (lv_sub hl [0, 1, 2, 3] rfl) hf
          · replace hf := pw_ifp hc hf
            refine lv_iload_n hx hb dX10_part_27 rfl (lv_at hl 3 rfl) ?_
            refine lv_iconst (v := 3) hx hb dX10_part_28 (by decide) ?_
            refine lv_icmp_lt (tgt := 34) hx hb dX10_part_29 (by decide) (fun hc => ?_) (fun hc => ?_)
            · replace hf := pw_ifp hc hf
              exact t_X10_part_34 hC   hw (lv_sub hl [0, 1, 2, 3] rfl) hf
            · replace hf := pw_ifn hc hf
              refine lv_iconst (v := -1) hx hb dX10_part_32 (by decide) ?_
              exact pw_iret hC hw hf dX10_part_33
-- PerhapsWas op
def f_X10_op (x1 : Int32) (σ : pw_St) : Option (Int32 × pw_St) := (if x1 < 0 then (some ((-1 : Int32), σ)) else (if x1 ≤ (7 : Int32) then (pw_bi (f_X1_sidesOf x1 σ) fun r1 σ1 => (if r1 ≤ (σ.1 4 1) then (pw_bi (f_X7_partsBehind x1 σ1) fun r2 σ2 => (if r2 ≤ (15 : Int32) then (pw_bi (f_X7_unite x1 σ2) fun r3 σ3 => (some (r3, σ3))) else (some ((-4 : Int32), σ2)))) else (some ((-3 : Int32), σ1)))) else (some ((-1 : Int32), σ))))
def rm_X10_op : Room := { frames := 3, cells := 0, slots := 0, locals := 66 }
set_option maxHeartbeats 4000000 in
set_option maxRecDepth 100000 in
theorem c_X10_op {l : Launch} {G : pw_Gh} {x1 : Int32} {σ : pw_St} {r : Int32} {τ : pw_St} (hf : f_X10_op x1 σ = some (r, τ)) : Met l yX10_op (.code yX10_op cX10_op 2 (some .int) :: pw_BW) rm_X10_op (pw_Pc G [.ref (pw_ad G 0), .int x1] σ) (pw_Qi G r τ) 0 0 (pw_gA G) := by
  refine pw_met (by decide +kernel) (Nat.le_of_ble_eq_true rfl) ?_
  intro p e s m args below meth c ls hC hw hl
  replace hl : lv_has ls 2 [(0, .ref (pw_ad G 0)), (1, .int x1)] := hl
  have hx := hC.1
  have hb := hC.2.1
  unfold f_X10_op at hf
  refine lv_iload_n hx hb dX10_op_0 rfl (lv_at hl 1 rfl) ?_
  refine lv_if_lt (tgt := 10) hx hb dX10_op_1 (by decide) (fun hc => ?_) (fun hc => ?_)
  · replace hf := pw_ifp hc hf
    refine lv_iconst (v := -1) hx hb dX10_op_10 (by decide) ?_
    exact pw_iret hC hw hf dX10_op_11
  · replace hf := pw_ifn hc hf
    refine lv_iload_n hx hb dX10_op_4 rfl (lv_at hl 1 rfl) ?_
    refine lv_bipush (v := 7) hx hb dX10_op_5 (by decide) ?_
    refine lv_icmp_le (tgt := 12) hx hb dX10_op_7 (by decide) (fun hc => ?_) (fun hc => ?_)
    · replace hf := pw_ifp hc hf
      refine lv_aload_n hx hb dX10_op_12 rfl (lv_at hl 0 rfl) ?_
      refine pg_0_2 hC hw mw_303 dX10_op_13 ?_
      refine pg_4_1 hC hw mw_220 dX10_op_16 ?_
      refine lv_iload_n hx hb dX10_op_19 rfl (lv_at hl 1 rfl) ?_
      obtain ⟨r1, σ1, h1, hf⟩ := pw_bi_some hf
      refine pw_ci hw (pw_runS (As := [.int x1]) (rest := [.int (σ.1 4 1)]) hC hw (c_X1_sidesOf  h1) mw_567 wm_X1_sidesOf ⟨Nat.zero_le _, Nat.zero_le _⟩ ⟨rfl, rfl, Nat.le_of_ble_eq_true rfl, Nat.le_of_ble_eq_true rfl⟩ rfl hl.1 rfl (Nat.le_of_ble_eq_true rfl) dX10_op_20) (fun H locs hw => ?_)
      refine lv_icmp_ge (tgt := 29) hx hb dX10_op_23 (by decide) (fun hc => ?_) (fun hc => ?_)
      · replace hf := pw_ifp hc hf
        refine lv_aload_n hx hb dX10_op_29 rfl (lv_at hl 0 rfl) ?_
        refine pg_0_2 hC hw mw_303 dX10_op_30 ?_
        refine lv_iload_n hx hb dX10_op_33 rfl (lv_at hl 1 rfl) ?_
        obtain ⟨r2, σ2, h2, hf⟩ := pw_bi_some hf
        refine pw_ci hw (pw_runV (As := [.int x1]) (rest := []) hC hw (c_X7_partsBehind  h2) mw_570 wm_X7_partsBehind ⟨Nat.zero_le _, Nat.zero_le _⟩ ⟨rfl, rfl, Nat.le_of_ble_eq_true rfl, Nat.le_of_ble_eq_true rfl⟩ (by decide) rfl rfl rfl hl.1 rfl (Nat.le_of_ble_eq_true rfl) dX10_op_34) (fun H locs hw => ?_)
        refine lv_bipush (v := 15) hx hb dX10_op_37 (by decide) ?_
        refine lv_icmp_le (tgt := 47) hx hb dX10_op_39 (by decide) (fun hc => ?_) (fun hc => ?_)
        · replace hf := pw_ifp hc hf
          refine lv_aload_n hx hb dX10_op_47 rfl (lv_at hl 0 rfl) ?_
          refine pg_0_2 hC hw mw_303 dX10_op_48 ?_
          refine lv_iload_n hx hb dX10_op_51 rfl (lv_at hl 1 rfl) ?_
          obtain ⟨r3, σ3, h3, hf⟩ := pw_bi_some hf
          refine pw_ci hw (pw_runV (As := [.int x1]) (rest := []) hC hw (c_X7_unite  h3) mw_575 wm_X7_unite ⟨Nat.zero_le _, Nat.zero_le _⟩ ⟨rfl, rfl, Nat.le_of_ble_eq_true rfl, Nat.le_of_ble_eq_true rfl⟩ (by decide) rfl rfl rfl hl.1 rfl (Nat.le_of_ble_eq_true rfl) dX10_op_52) (fun H locs hw => ?_)
          exact pw_iret hC hw hf dX10_op_55
        · replace hf := pw_ifn hc hf
          refine lv_bipush (v := -4) hx hb dX10_op_42 (by decide) ?_
          refine lv_goto (tgt := 55) hx hb dX10_op_44 (by decide) ?_
          exact pw_iret hC hw hf dX10_op_55
      · replace hf := pw_ifn hc hf
        refine lv_bipush (v := -3) hx hb dX10_op_26 (by decide) ?_
        exact pw_iret hC hw hf dX10_op_28
    · replace hf := pw_ifn hc hf
      refine lv_iconst (v := -1) hx hb dX10_op_10 (by decide) ?_
      exact pw_iret hC hw hf dX10_op_11
-- PerhapsWas condition
def f_X10_condition (σ : pw_St) : Option (Int32 × pw_St) := (if (σ.1 4 1) = (1 : Int32) then (if (σ.1 5 1) < (8 : Int32) then (pw_lt (pw_sM σ 4 1 (0 : Int32)) fun σ1 => (if pw_in (0 : Int32) 6 = true then (pw_bi (f_X0_keep ((0 : Int32).toNatClampNeg + 0) σ1) fun r3 σ3 => (some (r3, σ3))) else none)) else (some ((-4 : Int32), σ))) else (some ((-3 : Int32), σ)))
def rm_X10_condition : Room := { frames := 3, cells := 0, slots := 0, locals := 66 }
set_option maxHeartbeats 4000000 in
set_option maxRecDepth 100000 in
theorem c_X10_condition {l : Launch} {G : pw_Gh} {σ : pw_St} {r : Int32} {τ : pw_St} (hf : f_X10_condition σ = some (r, τ)) : Met l yX10_condition (.code yX10_condition cX10_condition 1 (some .int) :: pw_BW) rm_X10_condition (pw_Pc G [.ref (pw_ad G 0)] σ) (pw_Qi G r τ) 0 0 (pw_gA G) := by
  refine pw_met (by decide +kernel) (Nat.le_of_ble_eq_true rfl) ?_
  intro p e s m args below meth c ls hC hw hl
  replace hl : lv_has ls 1 [(0, .ref (pw_ad G 0))] := hl
  have hx := hC.1
  have hb := hC.2.1
  unfold f_X10_condition at hf
  refine lv_aload_n hx hb dX10_condition_0 rfl (lv_at hl 0 rfl) ?_
  refine pg_0_2 hC hw mw_303 dX10_condition_1 ?_
  refine pg_4_1 hC hw mw_220 dX10_condition_4 ?_
  refine lv_iconst (v := 1) hx hb dX10_condition_7 (by decide) ?_
  refine lv_icmp_eq (tgt := 14) hx hb dX10_condition_8 (by decide) (fun hc => ?_) (fun hc => ?_)
  · replace hf := pw_ifp hc hf
    refine lv_aload_n hx hb dX10_condition_14 rfl (lv_at hl 0 rfl) ?_
    refine pg_0_3 hC hw mw_304 dX10_condition_15 ?_
    refine pg_5_1 hC hw mw_237 dX10_condition_18 ?_
    refine lv_bipush (v := 8) hx hb dX10_condition_21 (by decide) ?_
    refine lv_icmp_lt (tgt := 29) hx hb dX10_condition_23 (by decide) (fun hc => ?_) (fun hc => ?_)
    · replace hf := pw_ifp hc hf
      refine lv_aload_n hx hb dX10_condition_29 rfl (lv_at hl 0 rfl) ?_
      refine pg_0_2 hC hw mw_303 dX10_condition_30 ?_
      refine lv_iconst (v := 0) hx hb dX10_condition_33 (by decide) ?_
      refine pp_4_1 hC hw mw_220 dX10_condition_34 (fun H locs hw => ?_)
      obtain ⟨σ1, e1, hf⟩ := pw_lts hf
      replace hw := pw_WHe e1 hw
      refine lv_aload_n hx hb dX10_condition_37 rfl (lv_at hl 0 rfl) ?_
      refine pg_0_3 hC hw mw_304 dX10_condition_38 ?_
      refine lv_aload_n hx hb dX10_condition_41 rfl (lv_at hl 0 rfl) ?_
      refine pg_0_2 hC hw mw_303 dX10_condition_42 ?_
      refine pg_4_0 hC hw mw_218 dX10_condition_45 ?_
      refine lv_iconst (v := 0) hx hb dX10_condition_48 (by decide) ?_
      obtain ⟨hin, hf⟩ := pw_gd hf
      have hn2 : ((0 : Int32).toNatClampNeg + 0) < 14 := pw_fb hin (by decide)
      refine pw_fld hC hw ca_26 hin dX10_condition_49 ?_
      obtain ⟨r3, σ3, h3, hf⟩ := pw_bi_some hf
      refine pw_ci hw (pw_runV (As := [.ref (pw_ad G (4 * ((0 : Int32).toNatClampNeg + 0) + 54))]) (rest := []) hC hw (c_X0_keep hn2 h3) mw_588 wm_X0_keep ⟨Nat.zero_le _, Nat.zero_le _⟩ ⟨rfl, rfl, Nat.le_of_ble_eq_true rfl, Nat.le_of_ble_eq_true rfl⟩ (by decide) rfl rfl rfl hl.1 rfl (Nat.le_of_ble_eq_true rfl) dX10_condition_50) (fun H locs hw => ?_)
      exact pw_iret hC hw hf dX10_condition_53
    · replace hf := pw_ifn hc hf
      refine lv_bipush (v := -4) hx hb dX10_condition_26 (by decide) ?_
      exact pw_iret hC hw hf dX10_condition_28
  · replace hf := pw_ifn hc hf
    refine lv_bipush (v := -3) hx hb dX10_condition_11 (by decide) ?_
    exact pw_iret hC hw hf dX10_condition_13
-- PerhapsWas clear
def b_X10_clear_35 (x1 : Int32) (y0 : Int32) (y1 : Int32) (σ : pw_St) : Option (Int32 × pw_St) := (pw_lt (pw_sM σ 4 1 (0 : Int32)) fun σ1 => (if x1 = (1 : Int32) then (pw_lt (pw_sM σ1 5 1 (0 : Int32)) fun σ2 => (some ((y1 + y0), σ2))) else (some ((y1 + y0), σ1))))
def b_X10_clear_12 (x1 : Int32) (σ : pw_St) : Option (Int32 × pw_St) := (if x1 = (1 : Int32) then (b_X10_clear_35  x1 (σ.1 5 1) (σ.1 4 1) σ) else (b_X10_clear_35  x1 (0 : Int32) (σ.1 4 1) σ))
def f_X10_clear (x1 : Int32) (σ : pw_St) : Option (Int32 × pw_St) := (if x1 = 0 then (b_X10_clear_12  x1 σ) else (if x1 = (1 : Int32) then (b_X10_clear_12  x1 σ) else (some ((-2 : Int32), σ))))
def rm_X10_clear : Room := { frames := 0, cells := 0, slots := 0, locals := 0 }
set_option maxHeartbeats 4000000 in
set_option maxRecDepth 100000 in
theorem t_X10_clear_35 (hC : pw_CX G RX10 cX10_clear 3 (some .int) p s m args meth c) {r : Int32} {τ : pw_St} {x1 : Int32} {y0 : Int32} {y1 : Int32} {σ : pw_St} {H : Heap} {locs : List Loc} {ls : Array Slot} (hw : pw_WH G σ s.heap H locs) (hl : lv_has ls 3 [(0, .ref (pw_ad G 0)), (1, .int x1)]) (hf : b_X10_clear_35 x1 y0 y1 σ = some (r, τ)) : W p l e rm_X10_clear s m args below meth c H locs 0 0 (MQ below (pw_Qi G r τ) args s 0 0 (pw_gA G)) (F0 m 35 ls [.int y0, .int y1]) := by
  have hx := hC.1
  have hb := hC.2.1
  unfold b_X10_clear_35 at hf
  refine lv_iadd hx hb dX10_clear_35 ?_
  refine lv_istore_n (lv' := [(2, .int (y1 + y0)), (0, .ref (pw_ad G 0)), (1, .int x1)]) hx hb dX10_clear_36 rfl hl (by decide) rfl (fun ls hl => ?_)
  refine lv_aload_n hx hb dX10_clear_37 rfl (lv_at hl 1 rfl) ?_
  refine pg_0_2 hC hw mw_303 dX10_clear_38 ?_
  refine lv_iconst (v := 0) hx hb dX10_clear_41 (by decide) ?_
  refine pp_4_1 hC hw mw_220 dX10_clear_42 (fun H locs hw => ?_)
  obtain ⟨σ1, e1, hf⟩ := pw_lts hf
  replace hw := pw_WHe e1 hw
  refine lv_iload_n hx hb dX10_clear_45 rfl (lv_at hl 2 rfl) ?_
  refine lv_iconst (v := 1) hx hb dX10_clear_46 (by decide) ?_
  refine lv_icmp_ne (tgt := 58) hx hb dX10_clear_47 (by decide) (fun hc => ?_) (fun hc => ?_)
  · replace hf := pw_ifn hc hf
    refine lv_iload_n hx hb dX10_clear_58 rfl (lv_at hl 0 rfl) ?_
    exact pw_iret hC hw hf dX10_clear_59
  · replace hf := pw_ifp hc hf
    refine lv_aload_n hx hb dX10_clear_50 rfl (lv_at hl 1 rfl) ?_
    refine pg_0_3 hC hw mw_304 dX10_clear_51 ?_
    refine lv_iconst (v := 0) hx hb dX10_clear_54 (by decide) ?_
    refine pp_5_1 hC hw mw_237 dX10_clear_55 (fun H locs hw => ?_)
    obtain ⟨σ2, e2, hf⟩ := pw_lts hf
    replace hw := pw_WHe e2 hw
    refine lv_iload_n hx hb dX10_clear_58 rfl (lv_at hl 0 rfl) ?_
    exact pw_iret hC hw hf dX10_clear_59
set_option maxHeartbeats 4000000 in
set_option maxRecDepth 100000 in
theorem t_X10_clear_12 (hC : pw_CX G RX10 cX10_clear 3 (some .int) p s m args meth c) {r : Int32} {τ : pw_St} {x1 : Int32} {σ : pw_St} {H : Heap} {locs : List Loc} {ls : Array Slot} (hw : pw_WH G σ s.heap H locs) (hl : lv_has ls 3 [(0, .ref (pw_ad G 0)), (1, .int x1)]) (hf : b_X10_clear_12 x1 σ = some (r, τ)) : W p l e rm_X10_clear s m args below meth c H locs 0 0 (MQ below (pw_Qi G r τ) args s 0 0 (pw_gA G)) (F0 m 12 ls []) := by
  have hx := hC.1
  have hb := hC.2.1
  unfold b_X10_clear_12 at hf
  refine lv_aload_n hx hb dX10_clear_12 rfl (lv_at hl 0 rfl) ?_
  refine pg_0_2 hC hw mw_303 dX10_clear_13 ?_
  refine pg_4_1 hC hw mw_220 dX10_clear_16 ?_
  refine lv_iload_n hx hb dX10_clear_19 rfl (lv_at hl 1 rfl) ?_
  refine lv_iconst (v := 1) hx hb dX10_clear_20 (by decide) ?_
  refine lv_icmp_ne (tgt := 34) hx hb dX10_clear_21 (by decide) (fun hc => ?_) (fun hc => ?_)
  · replace hf := pw_ifn hc hf
    refine lv_iconst (v := 0) hx hb dX10_clear_34 (by decide) ?_
    exact t_X10_clear_35 hC   hw (lv_sub hl [0, 1] rfl) hf
  · replace hf := pw_ifp hc hf
    refine lv_aload_n hx hb dX10_clear_24 rfl (lv_at hl 0 rfl) ?_
    refine pg_0_3 hC hw mw_304 dX10_clear_25 ?_
    refine pg_5_1 hC hw mw_237 dX10_clear_28 ?_
    refine lv_goto (tgt := 35) hx hb dX10_clear_31 (by decide) ?_
    exact t_X10_clear_35 hC   hw (lv_sub hl [0, 1] rfl) hf
set_option maxHeartbeats 4000000 in
set_option maxRecDepth 100000 in
theorem c_X10_clear {l : Launch} {G : pw_Gh} {x1 : Int32} {σ : pw_St} {r : Int32} {τ : pw_St} (hf : f_X10_clear x1 σ = some (r, τ)) : Met l yX10_clear (.code yX10_clear cX10_clear 3 (some .int) :: pw_BW) rm_X10_clear (pw_Pc G [.ref (pw_ad G 0), .int x1] σ) (pw_Qi G r τ) 0 0 (pw_gA G) := by
  refine pw_met (by decide +kernel) (Nat.le_of_ble_eq_true rfl) ?_
  intro p e s m args below meth c ls hC hw hl
  replace hl : lv_has ls 3 [(0, .ref (pw_ad G 0)), (1, .int x1)] := hl
  have hx := hC.1
  have hb := hC.2.1
  unfold f_X10_clear at hf
  refine lv_iload_n hx hb dX10_clear_0 rfl (lv_at hl 1 rfl) ?_
  refine lv_if_eq (tgt := 12) hx hb dX10_clear_1 (by decide) (fun hc => ?_) (fun hc => ?_)
  · replace hf := pw_ifp hc hf
    exact t_X10_clear_12 hC   hw (lv_sub hl [0, 1] rfl) hf
  · replace hf := pw_ifn hc hf
    refine lv_iload_n hx hb dX10_clear_4 rfl (lv_at hl 1 rfl) ?_
    refine lv_iconst (v := 1) hx hb dX10_clear_5 (by decide) ?_
    refine lv_icmp_eq (tgt := 12) hx hb dX10_clear_6 (by decide) (fun hc => ?_) (fun hc => ?_)
    · replace hf := pw_ifp hc hf
      exact t_X10_clear_12 hC   hw (lv_sub hl [0, 1] rfl) hf
    · replace hf := pw_ifn hc hf
      refine lv_bipush (v := -2) hx hb dX10_clear_9 (by decide) ?_
      exact pw_iret hC hw hf dX10_clear_11
-- PerhapsWas value
def b_X10_value_22 (σ : pw_St) : Option (Int32 × pw_St) := (pw_lt (pw_sM σ 0 8 (-1 : Int32)) fun σ1 => (some ((0 : Int32), σ1)))
def f_X10_value (x1 : Int32) (x2 : Int32) (σ : pw_St) : Option (Int32 × pw_St) := (pw_bi (f_X0_has x1 σ) fun r1 σ1 => (if r1 = 0 then (b_X10_value_22  σ1) else (pw_bi (f_X2_hasCut x2 σ1) fun r2 σ2 => (if r2 = 0 then (b_X10_value_22  σ2) else (pw_lt (pw_sM σ2 0 8 (0 : Int32)) fun σ3 => (if pw_in x1 8 = true then (pw_bi (f_X5_worth (x1.toNatClampNeg + 6) x2 σ3) fun r5 σ5 => (some (r5, σ5))) else none))))))
def rm_X10_value : Room := { frames := 3, cells := 0, slots := 0, locals := 77 }
set_option maxHeartbeats 4000000 in
set_option maxRecDepth 100000 in
theorem t_X10_value_22 (hC : pw_CX G RX10 cX10_value 3 (some .int) p s m args meth c) {r : Int32} {τ : pw_St} {σ : pw_St} {H : Heap} {locs : List Loc} {ls : Array Slot} (hw : pw_WH G σ s.heap H locs) (hl : lv_has ls 3 [(0, .ref (pw_ad G 0))]) (hf : b_X10_value_22 σ = some (r, τ)) : W p l e rm_X10_value s m args below meth c H locs 0 0 (MQ below (pw_Qi G r τ) args s 0 0 (pw_gA G)) (F0 m 22 ls []) := by
  have hx := hC.1
  have hb := hC.2.1
  unfold b_X10_value_22 at hf
  refine lv_aload_n hx hb dX10_value_22 rfl (lv_at hl 0 rfl) ?_
  refine lv_iconst (v := -1) hx hb dX10_value_23 (by decide) ?_
  refine pp_0_8 hC hw mw_309 dX10_value_24 (fun H locs hw => ?_)
  obtain ⟨σ1, e1, hf⟩ := pw_lts hf
  replace hw := pw_WHe e1 hw
  refine lv_iconst (v := 0) hx hb dX10_value_27 (by decide) ?_
  exact pw_iret hC hw hf dX10_value_28
set_option maxHeartbeats 4000000 in
set_option maxRecDepth 100000 in
theorem c_X10_value {l : Launch} {G : pw_Gh} {x1 : Int32} {x2 : Int32} {σ : pw_St} {r : Int32} {τ : pw_St} (hf : f_X10_value x1 x2 σ = some (r, τ)) : Met l yX10_value (.code yX10_value cX10_value 3 (some .int) :: pw_BW) rm_X10_value (pw_Pc G [.ref (pw_ad G 0), .int x1, .int x2] σ) (pw_Qi G r τ) 0 0 (pw_gA G) := by
  refine pw_met (by decide +kernel) (Nat.le_of_ble_eq_true rfl) ?_
  intro p e s m args below meth c ls hC hw hl
  replace hl : lv_has ls 3 [(0, .ref (pw_ad G 0)), (1, .int x1), (2, .int x2)] := hl
  have hx := hC.1
  have hb := hC.2.1
  unfold f_X10_value at hf
  refine lv_aload_n hx hb dX10_value_0 rfl (lv_at hl 0 rfl) ?_
  refine pg_0_3 hC hw mw_304 dX10_value_1 ?_
  refine lv_iload_n hx hb dX10_value_4 rfl (lv_at hl 1 rfl) ?_
  obtain ⟨r1, σ1, h1, hf⟩ := pw_bi_some hf
  refine pw_ci hw (pw_runV (As := [.int x1]) (rest := []) hC hw (c_X0_has  h1) mw_601 wm_X0_has ⟨Nat.zero_le _, Nat.zero_le _⟩ ⟨rfl, rfl, Nat.le_of_ble_eq_true rfl, Nat.le_of_ble_eq_true rfl⟩ (by decide) rfl rfl rfl hl.1 rfl (Nat.le_of_ble_eq_true rfl) dX10_value_5) (fun H locs hw => ?_)
  refine lv_if_eq (tgt := 22) hx hb dX10_value_8 (by decide) (fun hc => ?_) (fun hc => ?_)
  · replace hf := pw_ifp hc hf
    exact t_X10_value_22 hC   hw (lv_sub hl [0] rfl) hf
  · replace hf := pw_ifn hc hf
    refine lv_aload_n hx hb dX10_value_11 rfl (lv_at hl 0 rfl) ?_
    refine pg_0_0 hC hw mw_301 dX10_value_12 ?_
    refine lv_iload_n hx hb dX10_value_15 rfl (lv_at hl 2 rfl) ?_
    obtain ⟨r2, σ2, h2, hf⟩ := pw_bi_some hf
    refine pw_ci hw (pw_runV (As := [.int x2]) (rest := []) hC hw (c_X2_hasCut  h2) mw_441 wm_X2_hasCut ⟨Nat.zero_le _, Nat.zero_le _⟩ ⟨rfl, rfl, Nat.le_of_ble_eq_true rfl, Nat.le_of_ble_eq_true rfl⟩ (by decide) rfl rfl rfl hl.1 rfl (Nat.le_of_ble_eq_true rfl) dX10_value_16) (fun H locs hw => ?_)
    refine lv_if_ne (tgt := 29) hx hb dX10_value_19 (by decide) (fun hc => ?_) (fun hc => ?_)
    · replace hf := pw_ifn hc hf
      refine lv_aload_n hx hb dX10_value_29 rfl (lv_at hl 0 rfl) ?_
      refine lv_iconst (v := 0) hx hb dX10_value_30 (by decide) ?_
      refine pp_0_8 hC hw mw_309 dX10_value_31 (fun H locs hw => ?_)
      obtain ⟨σ3, e3, hf⟩ := pw_lts hf
      replace hw := pw_WHe e3 hw
      refine lv_aload_n hx hb dX10_value_34 rfl (lv_at hl 0 rfl) ?_
      refine pg_0_4 hC hw mw_305 dX10_value_35 ?_
      refine lv_aload_n hx hb dX10_value_38 rfl (lv_at hl 0 rfl) ?_
      refine pg_0_3 hC hw mw_304 dX10_value_39 ?_
      refine pg_5_0 hC hw mw_235 dX10_value_42 ?_
      refine lv_iload_n hx hb dX10_value_45 rfl (lv_at hl 1 rfl) ?_
      obtain ⟨hin, hf⟩ := pw_gd hf
      have hn4 : (x1.toNatClampNeg + 6) < 14 := pw_fb hin (by decide)
      refine pw_fld hC hw ca_27 hin dX10_value_46 ?_
      refine lv_iload_n hx hb dX10_value_47 rfl (lv_at hl 2 rfl) ?_
      obtain ⟨r5, σ5, h5, hf⟩ := pw_bi_some hf
      refine pw_ci hw (pw_runV (As := [.ref (pw_ad G (4 * (x1.toNatClampNeg + 6) + 54)), .int x2]) (rest := []) hC hw (c_X5_worth hn4 h5) mw_605 wm_X5_worth ⟨Nat.zero_le _, Nat.zero_le _⟩ ⟨rfl, rfl, Nat.le_of_ble_eq_true rfl, Nat.le_of_ble_eq_true rfl⟩ (by decide) rfl rfl rfl hl.1 rfl (Nat.le_of_ble_eq_true rfl) dX10_value_48) (fun H locs hw => ?_)
      exact pw_iret hC hw hf dX10_value_51
    · replace hf := pw_ifp hc hf
      exact t_X10_value_22 hC   hw (lv_sub hl [0] rfl) hf
-- PerhapsWas status
def f_X10_status (σ : pw_St) : Option (Int32 × pw_St) := (some ((σ.1 0 8), σ))
def rm_X10_status : Room := { frames := 0, cells := 0, slots := 0, locals := 0 }
set_option maxHeartbeats 4000000 in
set_option maxRecDepth 100000 in
theorem c_X10_status {l : Launch} {G : pw_Gh} {σ : pw_St} {r : Int32} {τ : pw_St} (hf : f_X10_status σ = some (r, τ)) : Met l yX10_status (.code yX10_status cX10_status 1 (some .int) :: pw_BW) rm_X10_status (pw_Pc G [.ref (pw_ad G 0)] σ) (pw_Qi G r τ) 0 0 (pw_gA G) := by
  refine pw_met (by decide +kernel) (Nat.le_of_ble_eq_true rfl) ?_
  intro p e s m args below meth c ls hC hw hl
  replace hl : lv_has ls 1 [(0, .ref (pw_ad G 0))] := hl
  have hx := hC.1
  have hb := hC.2.1
  unfold f_X10_status at hf
  refine lv_aload_n hx hb dX10_status_0 rfl (lv_at hl 0 rfl) ?_
  refine pg_0_8 hC hw mw_309 dX10_status_1 ?_
  exact pw_iret hC hw hf dX10_status_4
-- PerhapsWas markedNet
def f_X10_markedNet (x1 : Int32) (σ : pw_St) : Option pw_St := (pw_bv (f_X10_freshNet σ) fun σ1 => (if pw_in x1 8 = true then (pw_bv (f_X4_set (x1.toNatClampNeg + 6) σ1) fun σ3 => (some σ3)) else none))
def rm_X10_markedNet : Room := { frames := 4, cells := 0, slots := 0, locals := 101 }
set_option maxHeartbeats 4000000 in
set_option maxRecDepth 100000 in
theorem c_X10_markedNet {l : Launch} {G : pw_Gh} {x1 : Int32} {σ : pw_St} {τ : pw_St} (hf : f_X10_markedNet x1 σ = some τ) : Met l yX10_markedNet (.code yX10_markedNet cX10_markedNet 3 (some (.object RX6)) :: pw_BW) rm_X10_markedNet (pw_Pc G [.ref (pw_ad G 0), .int x1] σ) (pw_Qr G (pw_ad G 3) τ) 0 0 (pw_gA G) := by
  refine pw_met (by decide +kernel) (Nat.le_of_ble_eq_true rfl) ?_
  intro p e s m args below meth c ls hC hw hl
  replace hl : lv_has ls 3 [(0, .ref (pw_ad G 0)), (1, .int x1)] := hl
  have hx := hC.1
  have hb := hC.2.1
  unfold f_X10_markedNet at hf
  refine lv_aload_n hx hb dX10_markedNet_0 rfl (lv_at hl 0 rfl) ?_
  obtain ⟨σ1, h1, hf⟩ := pw_bv_some hf
  refine pw_cr hw (pw_runV (As := []) (rest := []) hC hw (c_X10_freshNet  h1) mw_445 wm_X10_freshNet ⟨Nat.zero_le _, Nat.zero_le _⟩ ⟨rfl, rfl, Nat.le_of_ble_eq_true rfl, Nat.le_of_ble_eq_true rfl⟩ (by decide) rfl rfl rfl hl.1 rfl (Nat.le_of_ble_eq_true rfl) dX10_markedNet_1) (fun H locs hw => ?_)
  refine lv_astore_n (lv' := [(2, .ref (pw_ad G 3)), (0, .ref (pw_ad G 0)), (1, .int x1)]) hx hb dX10_markedNet_4 rfl hl (by decide) rfl (fun ls hl => ?_)
  refine lv_aload_n hx hb dX10_markedNet_5 rfl (lv_at hl 1 rfl) ?_
  refine pg_0_5 hC hw mw_306 dX10_markedNet_6 ?_
  refine lv_aload_n hx hb dX10_markedNet_9 rfl (lv_at hl 0 rfl) ?_
  refine lv_aload_n hx hb dX10_markedNet_10 rfl (lv_at hl 1 rfl) ?_
  refine pg_0_3 hC hw mw_304 dX10_markedNet_11 ?_
  refine pg_5_0 hC hw mw_235 dX10_markedNet_14 ?_
  refine lv_iload_n hx hb dX10_markedNet_17 rfl (lv_at hl 2 rfl) ?_
  obtain ⟨hin, hf⟩ := pw_gd hf
  have hn2 : (x1.toNatClampNeg + 6) < 14 := pw_fb hin (by decide)
  refine pw_fld hC hw ca_27 hin dX10_markedNet_18 ?_
  obtain ⟨σ3, h3, hf⟩ := pw_bv_some hf
  refine pw_cv hw (pw_runV (As := [.ref (pw_ad G 3), .ref (pw_ad G (4 * (x1.toNatClampNeg + 6) + 54))]) (rest := []) hC hw (c_X4_set hn2 h3) mw_635 wm_X4_set ⟨Nat.zero_le _, Nat.zero_le _⟩ ⟨rfl, rfl, Nat.le_of_ble_eq_true rfl, Nat.le_of_ble_eq_true rfl⟩ (by decide) rfl rfl rfl hl.1 rfl (Nat.le_of_ble_eq_true rfl) dX10_markedNet_19) (fun H locs hw => ?_)
  refine lv_aload_n hx hb dX10_markedNet_22 rfl (lv_at hl 0 rfl) ?_
  exact pw_aret hC hw hf dX10_markedNet_23
-- PerhapsWas may
def f_X10_may (x1 : Int32) (σ : pw_St) : Option (Int32 × pw_St) := (pw_bi (f_X0_has x1 σ) fun r1 σ1 => (if r1 = 0 then (some ((-1 : Int32), σ1)) else (pw_bv (f_X10_markedNet x1 σ1) fun σ2 => (pw_bi (f_X6_firstOf σ2) fun r3 σ3 => (some (r3, σ3))))))
def rm_X10_may : Room := { frames := 5, cells := 0, slots := 0, locals := 123 }
set_option maxHeartbeats 4000000 in
set_option maxRecDepth 100000 in
theorem c_X10_may {l : Launch} {G : pw_Gh} {x1 : Int32} {σ : pw_St} {r : Int32} {τ : pw_St} (hf : f_X10_may x1 σ = some (r, τ)) : Met l yX10_may (.code yX10_may cX10_may 2 (some .int) :: pw_BW) rm_X10_may (pw_Pc G [.ref (pw_ad G 0), .int x1] σ) (pw_Qi G r τ) 0 0 (pw_gA G) := by
  refine pw_met (by decide +kernel) (Nat.le_of_ble_eq_true rfl) ?_
  intro p e s m args below meth c ls hC hw hl
  replace hl : lv_has ls 2 [(0, .ref (pw_ad G 0)), (1, .int x1)] := hl
  have hx := hC.1
  have hb := hC.2.1
  unfold f_X10_may at hf
  refine lv_aload_n hx hb dX10_may_0 rfl (lv_at hl 0 rfl) ?_
  refine pg_0_3 hC hw mw_304 dX10_may_1 ?_
  refine lv_iload_n hx hb dX10_may_4 rfl (lv_at hl 1 rfl) ?_
  obtain ⟨r1, σ1, h1, hf⟩ := pw_bi_some hf
  refine pw_ci hw (pw_runV (As := [.int x1]) (rest := []) hC hw (c_X0_has  h1) mw_601 wm_X0_has ⟨Nat.zero_le _, Nat.zero_le _⟩ ⟨rfl, rfl, Nat.le_of_ble_eq_true rfl, Nat.le_of_ble_eq_true rfl⟩ (by decide) rfl rfl rfl hl.1 rfl (Nat.le_of_ble_eq_true rfl) dX10_may_5) (fun H locs hw => ?_)
  refine lv_if_eq (tgt := 29) hx hb dX10_may_8 (by decide) (fun hc => ?_) (fun hc => ?_)
  · replace hf := pw_ifp hc hf
    refine lv_iconst (v := -1) hx hb dX10_may_29 (by decide) ?_
    exact pw_iret hC hw hf dX10_may_30
  · replace hf := pw_ifn hc hf
    refine lv_aload_n hx hb dX10_may_11 rfl (lv_at hl 0 rfl) ?_
    refine lv_iload_n hx hb dX10_may_12 rfl (lv_at hl 1 rfl) ?_
    obtain ⟨σ2, h2, hf⟩ := pw_bv_some hf
    refine pw_cr hw (pw_runV (As := [.int x1]) (rest := []) hC hw (c_X10_markedNet  h2) mw_631 wm_X10_markedNet ⟨Nat.zero_le _, Nat.zero_le _⟩ ⟨rfl, rfl, Nat.le_of_ble_eq_true rfl, Nat.le_of_ble_eq_true rfl⟩ (by decide) rfl rfl rfl hl.1 rfl (Nat.le_of_ble_eq_true rfl) dX10_may_13) (fun H locs hw => ?_)
    refine lv_aload_n hx hb dX10_may_16 rfl (lv_at hl 0 rfl) ?_
    refine pg_0_5 hC hw mw_306 dX10_may_17 ?_
    refine pg_7_1 hC hw mw_267 dX10_may_20 ?_
    obtain ⟨r3, σ3, h3, hf⟩ := pw_bi_some hf
    refine pw_ci hw (pw_runV (As := [.ref (pw_ad G 30)]) (rest := []) hC hw (c_X6_firstOf  h3) mw_640 wm_X6_firstOf ⟨Nat.zero_le _, Nat.zero_le _⟩ ⟨rfl, rfl, Nat.le_of_ble_eq_true rfl, Nat.le_of_ble_eq_true rfl⟩ (by decide) rfl rfl rfl hl.1 rfl (Nat.le_of_ble_eq_true rfl) dX10_may_23) (fun H locs hw => ?_)
    refine lv_goto (tgt := 30) hx hb dX10_may_26 (by decide) ?_
    exact pw_iret hC hw hf dX10_may_30
-- PerhapsWas last
def f_X10_last (x1 : Int32) (σ : pw_St) : Option (Int32 × pw_St) := (pw_bi (f_X0_has x1 σ) fun r1 σ1 => (if r1 = 0 then (some ((-1 : Int32), σ1)) else (pw_bv (f_X10_markedNet x1 σ1) fun σ2 => (pw_bi (f_X6_lastOf σ2) fun r3 σ3 => (some (r3, σ3))))))
def rm_X10_last : Room := { frames := 5, cells := 0, slots := 0, locals := 123 }
set_option maxHeartbeats 4000000 in
set_option maxRecDepth 100000 in
theorem c_X10_last {l : Launch} {G : pw_Gh} {x1 : Int32} {σ : pw_St} {r : Int32} {τ : pw_St} (hf : f_X10_last x1 σ = some (r, τ)) : Met l yX10_last (.code yX10_last cX10_last 2 (some .int) :: pw_BW) rm_X10_last (pw_Pc G [.ref (pw_ad G 0), .int x1] σ) (pw_Qi G r τ) 0 0 (pw_gA G) := by
  refine pw_met (by decide +kernel) (Nat.le_of_ble_eq_true rfl) ?_
  intro p e s m args below meth c ls hC hw hl
  replace hl : lv_has ls 2 [(0, .ref (pw_ad G 0)), (1, .int x1)] := hl
  have hx := hC.1
  have hb := hC.2.1
  unfold f_X10_last at hf
  refine lv_aload_n hx hb dX10_last_0 rfl (lv_at hl 0 rfl) ?_
  refine pg_0_3 hC hw mw_304 dX10_last_1 ?_
  refine lv_iload_n hx hb dX10_last_4 rfl (lv_at hl 1 rfl) ?_
  obtain ⟨r1, σ1, h1, hf⟩ := pw_bi_some hf
  refine pw_ci hw (pw_runV (As := [.int x1]) (rest := []) hC hw (c_X0_has  h1) mw_601 wm_X0_has ⟨Nat.zero_le _, Nat.zero_le _⟩ ⟨rfl, rfl, Nat.le_of_ble_eq_true rfl, Nat.le_of_ble_eq_true rfl⟩ (by decide) rfl rfl rfl hl.1 rfl (Nat.le_of_ble_eq_true rfl) dX10_last_5) (fun H locs hw => ?_)
  refine lv_if_eq (tgt := 29) hx hb dX10_last_8 (by decide) (fun hc => ?_) (fun hc => ?_)
  · replace hf := pw_ifp hc hf
    refine lv_iconst (v := -1) hx hb dX10_last_29 (by decide) ?_
    exact pw_iret hC hw hf dX10_last_30
  · replace hf := pw_ifn hc hf
    refine lv_aload_n hx hb dX10_last_11 rfl (lv_at hl 0 rfl) ?_
    refine lv_iload_n hx hb dX10_last_12 rfl (lv_at hl 1 rfl) ?_
    obtain ⟨σ2, h2, hf⟩ := pw_bv_some hf
    refine pw_cr hw (pw_runV (As := [.int x1]) (rest := []) hC hw (c_X10_markedNet  h2) mw_631 wm_X10_markedNet ⟨Nat.zero_le _, Nat.zero_le _⟩ ⟨rfl, rfl, Nat.le_of_ble_eq_true rfl, Nat.le_of_ble_eq_true rfl⟩ (by decide) rfl rfl rfl hl.1 rfl (Nat.le_of_ble_eq_true rfl) dX10_last_13) (fun H locs hw => ?_)
    refine lv_aload_n hx hb dX10_last_16 rfl (lv_at hl 0 rfl) ?_
    refine pg_0_5 hC hw mw_306 dX10_last_17 ?_
    refine pg_7_1 hC hw mw_267 dX10_last_20 ?_
    obtain ⟨r3, σ3, h3, hf⟩ := pw_bi_some hf
    refine pw_ci hw (pw_runV (As := [.ref (pw_ad G 30)]) (rest := []) hC hw (c_X6_lastOf  h3) mw_648 wm_X6_lastOf ⟨Nat.zero_le _, Nat.zero_le _⟩ ⟨rfl, rfl, Nat.le_of_ble_eq_true rfl, Nat.le_of_ble_eq_true rfl⟩ (by decide) rfl rfl rfl hl.1 rfl (Nat.le_of_ble_eq_true rfl) dX10_last_23) (fun H locs hw => ?_)
    refine lv_goto (tgt := 30) hx hb dX10_last_26 (by decide) ?_
    exact pw_iret hC hw hf dX10_last_30
-- PerhapsWas many
def f_X10_many (x1 : Int32) (σ : pw_St) : Option (Int32 × pw_St) := (pw_bi (f_X0_has x1 σ) fun r1 σ1 => (if r1 = 0 then (some ((-1 : Int32), σ1)) else (pw_bv (f_X10_markedNet x1 σ1) fun σ2 => (pw_bi (f_X6_howManyIn σ2) fun r3 σ3 => (some (r3, σ3))))))
def rm_X10_many : Room := { frames := 5, cells := 0, slots := 0, locals := 123 }
set_option maxHeartbeats 4000000 in
set_option maxRecDepth 100000 in
theorem c_X10_many {l : Launch} {G : pw_Gh} {x1 : Int32} {σ : pw_St} {r : Int32} {τ : pw_St} (hf : f_X10_many x1 σ = some (r, τ)) : Met l yX10_many (.code yX10_many cX10_many 2 (some .int) :: pw_BW) rm_X10_many (pw_Pc G [.ref (pw_ad G 0), .int x1] σ) (pw_Qi G r τ) 0 0 (pw_gA G) := by
  refine pw_met (by decide +kernel) (Nat.le_of_ble_eq_true rfl) ?_
  intro p e s m args below meth c ls hC hw hl
  replace hl : lv_has ls 2 [(0, .ref (pw_ad G 0)), (1, .int x1)] := hl
  have hx := hC.1
  have hb := hC.2.1
  unfold f_X10_many at hf
  refine lv_aload_n hx hb dX10_many_0 rfl (lv_at hl 0 rfl) ?_
  refine pg_0_3 hC hw mw_304 dX10_many_1 ?_
  refine lv_iload_n hx hb dX10_many_4 rfl (lv_at hl 1 rfl) ?_
  obtain ⟨r1, σ1, h1, hf⟩ := pw_bi_some hf
  refine pw_ci hw (pw_runV (As := [.int x1]) (rest := []) hC hw (c_X0_has  h1) mw_601 wm_X0_has ⟨Nat.zero_le _, Nat.zero_le _⟩ ⟨rfl, rfl, Nat.le_of_ble_eq_true rfl, Nat.le_of_ble_eq_true rfl⟩ (by decide) rfl rfl rfl hl.1 rfl (Nat.le_of_ble_eq_true rfl) dX10_many_5) (fun H locs hw => ?_)
  refine lv_if_eq (tgt := 29) hx hb dX10_many_8 (by decide) (fun hc => ?_) (fun hc => ?_)
  · replace hf := pw_ifp hc hf
    refine lv_iconst (v := -1) hx hb dX10_many_29 (by decide) ?_
    exact pw_iret hC hw hf dX10_many_30
  · replace hf := pw_ifn hc hf
    refine lv_aload_n hx hb dX10_many_11 rfl (lv_at hl 0 rfl) ?_
    refine lv_iload_n hx hb dX10_many_12 rfl (lv_at hl 1 rfl) ?_
    obtain ⟨σ2, h2, hf⟩ := pw_bv_some hf
    refine pw_cr hw (pw_runV (As := [.int x1]) (rest := []) hC hw (c_X10_markedNet  h2) mw_631 wm_X10_markedNet ⟨Nat.zero_le _, Nat.zero_le _⟩ ⟨rfl, rfl, Nat.le_of_ble_eq_true rfl, Nat.le_of_ble_eq_true rfl⟩ (by decide) rfl rfl rfl hl.1 rfl (Nat.le_of_ble_eq_true rfl) dX10_many_13) (fun H locs hw => ?_)
    refine lv_aload_n hx hb dX10_many_16 rfl (lv_at hl 0 rfl) ?_
    refine pg_0_5 hC hw mw_306 dX10_many_17 ?_
    refine pg_7_1 hC hw mw_267 dX10_many_20 ?_
    obtain ⟨r3, σ3, h3, hf⟩ := pw_bi_some hf
    refine pw_ci hw (pw_runV (As := [.ref (pw_ad G 30)]) (rest := []) hC hw (c_X6_howManyIn  h3) mw_656 wm_X6_howManyIn ⟨Nat.zero_le _, Nat.zero_le _⟩ ⟨rfl, rfl, Nat.le_of_ble_eq_true rfl, Nat.le_of_ble_eq_true rfl⟩ (by decide) rfl rfl rfl hl.1 rfl (Nat.le_of_ble_eq_true rfl) dX10_many_23) (fun H locs hw => ?_)
    refine lv_goto (tgt := 30) hx hb dX10_many_26 (by decide) ?_
    exact pw_iret hC hw hf dX10_many_30
-- PerhapsWas avoids
def f_X10_avoids (x1 : Int32) (σ : pw_St) : Option (Int64 × pw_St) := (pw_bi (f_X0_has x1 σ) fun r1 σ1 => (if r1 = 0 then (some ((-1 : Int64), σ1)) else (pw_bv (f_X10_markedNet x1 σ1) fun σ2 => (pw_bl (f_X9_fill σ2) fun r3 σ3 => (some (r3, σ3))))))
def rm_X10_avoids : Room := { frames := 5, cells := 0, slots := 0, locals := 123 }
set_option maxHeartbeats 4000000 in
set_option maxRecDepth 100000 in
theorem c_X10_avoids {l : Launch} {G : pw_Gh} {x1 : Int32} {σ : pw_St} {r : Int64} {τ : pw_St} (hf : f_X10_avoids x1 σ = some (r, τ)) : Met l yX10_avoids (.code yX10_avoids cX10_avoids 2 (some .long) :: pw_BW) rm_X10_avoids (pw_Pc G [.ref (pw_ad G 0), .int x1] σ) (pw_Ql G r τ) 0 0 (pw_gA G) := by
  refine pw_met (by decide +kernel) (Nat.le_of_ble_eq_true rfl) ?_
  intro p e s m args below meth c ls hC hw hl
  replace hl : lv_has ls 2 [(0, .ref (pw_ad G 0)), (1, .int x1)] := hl
  have hx := hC.1
  have hb := hC.2.1
  unfold f_X10_avoids at hf
  refine lv_aload_n hx hb dX10_avoids_0 rfl (lv_at hl 0 rfl) ?_
  refine pg_0_3 hC hw mw_304 dX10_avoids_1 ?_
  refine lv_iload_n hx hb dX10_avoids_4 rfl (lv_at hl 1 rfl) ?_
  obtain ⟨r1, σ1, h1, hf⟩ := pw_bi_some hf
  refine pw_ci hw (pw_runV (As := [.int x1]) (rest := []) hC hw (c_X0_has  h1) mw_601 wm_X0_has ⟨Nat.zero_le _, Nat.zero_le _⟩ ⟨rfl, rfl, Nat.le_of_ble_eq_true rfl, Nat.le_of_ble_eq_true rfl⟩ (by decide) rfl rfl rfl hl.1 rfl (Nat.le_of_ble_eq_true rfl) dX10_avoids_5) (fun H locs hw => ?_)
  refine lv_if_eq (tgt := 33) hx hb dX10_avoids_8 (by decide) (fun hc => ?_) (fun hc => ?_)
  · replace hf := pw_ifp hc hf
    refine lv_ldc2 hx hb hC.2.2.2.1 (hC.2.2.2.2.1 _ mw_668) dX10_avoids_33 ?_
    exact pw_lret hC hw hf dX10_avoids_36
  · replace hf := pw_ifn hc hf
    refine lv_aload_n hx hb dX10_avoids_11 rfl (lv_at hl 0 rfl) ?_
    refine pg_0_6 hC hw mw_307 dX10_avoids_12 ?_
    refine lv_aload_n hx hb dX10_avoids_15 rfl (lv_at hl 0 rfl) ?_
    refine lv_iload_n hx hb dX10_avoids_16 rfl (lv_at hl 1 rfl) ?_
    obtain ⟨σ2, h2, hf⟩ := pw_bv_some hf
    refine pw_cr hw (pw_runV (As := [.int x1]) (rest := [.ref (pw_ad G 8)]) hC hw (c_X10_markedNet  h2) mw_631 wm_X10_markedNet ⟨Nat.zero_le _, Nat.zero_le _⟩ ⟨rfl, rfl, Nat.le_of_ble_eq_true rfl, Nat.le_of_ble_eq_true rfl⟩ (by decide) rfl rfl rfl hl.1 rfl (Nat.le_of_ble_eq_true rfl) dX10_avoids_17) (fun H locs hw => ?_)
    refine lv_aload_n hx hb dX10_avoids_20 rfl (lv_at hl 0 rfl) ?_
    refine pg_0_5 hC hw mw_306 dX10_avoids_21 ?_
    refine pg_7_1 hC hw mw_267 dX10_avoids_24 ?_
    obtain ⟨r3, σ3, h3, hf⟩ := pw_bl_some hf
    refine pw_cl hw (pw_runV (As := [.ref (pw_ad G 3), .ref (pw_ad G 30)]) (rest := []) hC hw (c_X9_fill  h3) mw_518 wm_X9_fill ⟨Nat.zero_le _, Nat.zero_le _⟩ ⟨rfl, rfl, Nat.le_of_ble_eq_true rfl, Nat.le_of_ble_eq_true rfl⟩ (by decide) rfl rfl rfl hl.1 rfl (Nat.le_of_ble_eq_true rfl) dX10_avoids_27) (fun H locs hw => ?_)
    refine lv_goto (tgt := 36) hx hb dX10_avoids_30 (by decide) ?_
    exact pw_lret hC hw hf dX10_avoids_36
-- PerhapsWas sure
def f_X10_sure (x1 : Int32) (σ : pw_St) : Option (Int32 × pw_St) := (pw_bi (f_X0_has x1 σ) fun r1 σ1 => (if r1 = 0 then (some ((-1 : Int32), σ1)) else (pw_bl (f_X10_avoids x1 σ1) fun r2 σ2 => (if (lg_cmp r2 (0 : Int64)) = 0 then (some ((1 : Int32), σ2)) else (some ((0 : Int32), σ2))))))
def rm_X10_sure : Room := { frames := 6, cells := 0, slots := 0, locals := 144 }
set_option maxHeartbeats 4000000 in
set_option maxRecDepth 100000 in
theorem c_X10_sure {l : Launch} {G : pw_Gh} {x1 : Int32} {σ : pw_St} {r : Int32} {τ : pw_St} (hf : f_X10_sure x1 σ = some (r, τ)) : Met l yX10_sure (.code yX10_sure cX10_sure 2 (some .int) :: pw_BW) rm_X10_sure (pw_Pc G [.ref (pw_ad G 0), .int x1] σ) (pw_Qi G r τ) 0 0 (pw_gA G) := by
  refine pw_met (by decide +kernel) (Nat.le_of_ble_eq_true rfl) ?_
  intro p e s m args below meth c ls hC hw hl
  replace hl : lv_has ls 2 [(0, .ref (pw_ad G 0)), (1, .int x1)] := hl
  have hx := hC.1
  have hb := hC.2.1
  unfold f_X10_sure at hf
  refine lv_aload_n hx hb dX10_sure_0 rfl (lv_at hl 0 rfl) ?_
  refine pg_0_3 hC hw mw_304 dX10_sure_1 ?_
  refine lv_iload_n hx hb dX10_sure_4 rfl (lv_at hl 1 rfl) ?_
  obtain ⟨r1, σ1, h1, hf⟩ := pw_bi_some hf
  refine pw_ci hw (pw_runV (As := [.int x1]) (rest := []) hC hw (c_X0_has  h1) mw_601 wm_X0_has ⟨Nat.zero_le _, Nat.zero_le _⟩ ⟨rfl, rfl, Nat.le_of_ble_eq_true rfl, Nat.le_of_ble_eq_true rfl⟩ (by decide) rfl rfl rfl hl.1 rfl (Nat.le_of_ble_eq_true rfl) dX10_sure_5) (fun H locs hw => ?_)
  refine lv_if_ne (tgt := 13) hx hb dX10_sure_8 (by decide) (fun hc => ?_) (fun hc => ?_)
  · replace hf := pw_ifn hc hf
    refine lv_aload_n hx hb dX10_sure_13 rfl (lv_at hl 0 rfl) ?_
    refine lv_iload_n hx hb dX10_sure_14 rfl (lv_at hl 1 rfl) ?_
    obtain ⟨r2, σ2, h2, hf⟩ := pw_bl_some hf
    refine pw_cl hw (pw_runV (As := [.int x1]) (rest := []) hC hw (c_X10_avoids  h2) mw_664 wm_X10_avoids ⟨Nat.zero_le _, Nat.zero_le _⟩ ⟨rfl, rfl, Nat.le_of_ble_eq_true rfl, Nat.le_of_ble_eq_true rfl⟩ (by decide) rfl rfl rfl hl.1 rfl (Nat.le_of_ble_eq_true rfl) dX10_sure_15) (fun H locs hw => ?_)
    refine lv_lconst (v := 0) hx hb dX10_sure_18 (by decide) ?_
    refine W.lcmp hx hb dX10_sure_19 ?_
    refine lv_if_ne (tgt := 27) hx hb dX10_sure_20 (by decide) (fun hc => ?_) (fun hc => ?_)
    · replace hf := pw_ifn hc hf
      refine lv_iconst (v := 0) hx hb dX10_sure_27 (by decide) ?_
      exact pw_iret hC hw hf dX10_sure_28
    · replace hf := pw_ifp hc hf
      refine lv_iconst (v := 1) hx hb dX10_sure_23 (by decide) ?_
      refine lv_goto (tgt := 28) hx hb dX10_sure_24 (by decide) ?_
      exact pw_iret hC hw hf dX10_sure_28
  · replace hf := pw_ifp hc hf
    refine lv_iconst (v := -1) hx hb dX10_sure_11 (by decide) ?_
    exact pw_iret hC hw hf dX10_sure_12
-- PerhapsWas avoid
def f_X10_avoid (x1 : Int32) (x2 : Int32) (σ : pw_St) : Option (Int32 × pw_St) := (pw_bi (f_X0_has x1 σ) fun r1 σ1 => (if r1 = 0 then (some ((-1 : Int32), σ1)) else (if x2 < 0 then (some ((-1 : Int32), σ1)) else (if (σ1.1 1 9) ≤ x2 then (some ((-1 : Int32), σ1)) else (pw_bl (f_X10_avoids x1 σ1) fun r2 σ2 => (if (lg_cmp r2 (0 : Int64)) = 0 then (some ((-1 : Int32), σ2)) else (pw_bv (f_X10_freshNet σ2) fun σ3 => (pw_bi (f_X9_processAt (0 : Int64) x2 σ3) fun r4 σ4 => (some (r4, σ4))))))))))
def rm_X10_avoid : Room := { frames := 6, cells := 0, slots := 0, locals := 144 }
set_option maxHeartbeats 4000000 in
set_option maxRecDepth 100000 in
theorem c_X10_avoid {l : Launch} {G : pw_Gh} {x1 : Int32} {x2 : Int32} {σ : pw_St} {r : Int32} {τ : pw_St} (hf : f_X10_avoid x1 x2 σ = some (r, τ)) : Met l yX10_avoid (.code yX10_avoid cX10_avoid 3 (some .int) :: pw_BW) rm_X10_avoid (pw_Pc G [.ref (pw_ad G 0), .int x1, .int x2] σ) (pw_Qi G r τ) 0 0 (pw_gA G) := by
  refine pw_met (by decide +kernel) (Nat.le_of_ble_eq_true rfl) ?_
  intro p e s m args below meth c ls hC hw hl
  replace hl : lv_has ls 3 [(0, .ref (pw_ad G 0)), (1, .int x1), (2, .int x2)] := hl
  have hx := hC.1
  have hb := hC.2.1
  unfold f_X10_avoid at hf
  refine lv_aload_n hx hb dX10_avoid_0 rfl (lv_at hl 0 rfl) ?_
  refine pg_0_3 hC hw mw_304 dX10_avoid_1 ?_
  refine lv_iload_n hx hb dX10_avoid_4 rfl (lv_at hl 1 rfl) ?_
  obtain ⟨r1, σ1, h1, hf⟩ := pw_bi_some hf
  refine pw_ci hw (pw_runV (As := [.int x1]) (rest := []) hC hw (c_X0_has  h1) mw_601 wm_X0_has ⟨Nat.zero_le _, Nat.zero_le _⟩ ⟨rfl, rfl, Nat.le_of_ble_eq_true rfl, Nat.le_of_ble_eq_true rfl⟩ (by decide) rfl rfl rfl hl.1 rfl (Nat.le_of_ble_eq_true rfl) dX10_avoid_5) (fun H locs hw => ?_)
  refine lv_if_eq (tgt := 36) hx hb dX10_avoid_8 (by decide) (fun hc => ?_) (fun hc => ?_)
  · replace hf := pw_ifp hc hf
    refine lv_iconst (v := -1) hx hb dX10_avoid_36 (by decide) ?_
    exact pw_iret hC hw hf dX10_avoid_37
  · replace hf := pw_ifn hc hf
    refine lv_iload_n hx hb dX10_avoid_11 rfl (lv_at hl 2 rfl) ?_
    refine lv_if_lt (tgt := 36) hx hb dX10_avoid_12 (by decide) (fun hc => ?_) (fun hc => ?_)
    · replace hf := pw_ifp hc hf
      refine lv_iconst (v := -1) hx hb dX10_avoid_36 (by decide) ?_
      exact pw_iret hC hw hf dX10_avoid_37
    · replace hf := pw_ifn hc hf
      refine lv_iload_n hx hb dX10_avoid_15 rfl (lv_at hl 2 rfl) ?_
      refine lv_aload_n hx hb dX10_avoid_16 rfl (lv_at hl 0 rfl) ?_
      refine pg_0_0 hC hw mw_301 dX10_avoid_17 ?_
      refine pg_1_9 hC hw mw_118 dX10_avoid_20 ?_
      refine lv_icmp_ge (tgt := 36) hx hb dX10_avoid_23 (by decide) (fun hc => ?_) (fun hc => ?_)
      · replace hf := pw_ifp hc hf
        refine lv_iconst (v := -1) hx hb dX10_avoid_36 (by decide) ?_
        exact pw_iret hC hw hf dX10_avoid_37
      · replace hf := pw_ifn hc hf
        refine lv_aload_n hx hb dX10_avoid_26 rfl (lv_at hl 0 rfl) ?_
        refine lv_iload_n hx hb dX10_avoid_27 rfl (lv_at hl 1 rfl) ?_
        obtain ⟨r2, σ2, h2, hf⟩ := pw_bl_some hf
        refine pw_cl hw (pw_runV (As := [.int x1]) (rest := []) hC hw (c_X10_avoids  h2) mw_664 wm_X10_avoids ⟨Nat.zero_le _, Nat.zero_le _⟩ ⟨rfl, rfl, Nat.le_of_ble_eq_true rfl, Nat.le_of_ble_eq_true rfl⟩ (by decide) rfl rfl rfl hl.1 rfl (Nat.le_of_ble_eq_true rfl) dX10_avoid_28) (fun H locs hw => ?_)
        refine lv_lconst (v := 0) hx hb dX10_avoid_31 (by decide) ?_
        refine W.lcmp hx hb dX10_avoid_32 ?_
        refine lv_if_ne (tgt := 38) hx hb dX10_avoid_33 (by decide) (fun hc => ?_) (fun hc => ?_)
        · replace hf := pw_ifn hc hf
          refine lv_aload_n hx hb dX10_avoid_38 rfl (lv_at hl 0 rfl) ?_
          refine pg_0_6 hC hw mw_307 dX10_avoid_39 ?_
          refine lv_aload_n hx hb dX10_avoid_42 rfl (lv_at hl 0 rfl) ?_
          obtain ⟨σ3, h3, hf⟩ := pw_bv_some hf
          refine pw_cr hw (pw_runV (As := []) (rest := [.ref (pw_ad G 8)]) hC hw (c_X10_freshNet  h3) mw_445 wm_X10_freshNet ⟨Nat.zero_le _, Nat.zero_le _⟩ ⟨rfl, rfl, Nat.le_of_ble_eq_true rfl, Nat.le_of_ble_eq_true rfl⟩ (by decide) rfl rfl rfl hl.1 rfl (Nat.le_of_ble_eq_true rfl) dX10_avoid_43) (fun H locs hw => ?_)
          refine lv_lconst (v := 0) hx hb dX10_avoid_46 (by decide) ?_
          refine lv_iload_n hx hb dX10_avoid_47 rfl (lv_at hl 2 rfl) ?_
          obtain ⟨r4, σ4, h4, hf⟩ := pw_bi_some hf
          refine pw_ci hw (pw_runV (As := [.ref (pw_ad G 3), .long (0 : Int64), .int x2]) (rest := []) hC hw (c_X9_processAt  h4) mw_539 wm_X9_processAt ⟨Nat.zero_le _, Nat.zero_le _⟩ ⟨rfl, rfl, Nat.le_of_ble_eq_true rfl, Nat.le_of_ble_eq_true rfl⟩ (by decide) rfl rfl rfl hl.1 rfl (Nat.le_of_ble_eq_true rfl) dX10_avoid_48) (fun H locs hw => ?_)
          exact pw_iret hC hw hf dX10_avoid_51
        · replace hf := pw_ifp hc hf
          refine lv_iconst (v := -1) hx hb dX10_avoid_36 (by decide) ?_
          exact pw_iret hC hw hf dX10_avoid_37
end PM
