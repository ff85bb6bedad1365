section PM
variable {p : Program} {l : Launch} {e : Env} {s : State} {m : MethodId} {args : Array Value} {below : List Frame} {meth : Method} {c : Code} {G : pw_Gh}
-- PerhapsWasModel give
def b_X11_give_96 (σ : pw_St) : Option (Int32 × pw_St) := (some ((1 : Int32), σ))
def f_X11_give (x0 : Int32) (x1 : Int32) (x2 : Int32) (σ : pw_St) : Option (Int32 × pw_St) := (if x0 = 0 then (some ((x1 + x2), σ)) else (if x0 = 1 then (some ((x1 - x2), σ)) else (if x0 = 2 then (some ((x1 * x2), σ)) else (if x0 = 3 then (if x2 ≤ x1 then (some ((0 : Int32), σ)) else (some ((1 : Int32), σ))) else (if x0 = 4 then (if x1 = x2 then (some ((1 : Int32), σ)) else (some ((0 : Int32), σ))) else (if x0 = 5 then (if x1 = 0 then (some ((0 : Int32), σ)) else (if x2 = 0 then (some ((0 : Int32), σ)) else (some ((1 : Int32), σ)))) else (if x1 = 0 then (if x2 = 0 then (some ((0 : Int32), σ)) else (b_X11_give_96  σ)) else (b_X11_give_96  σ))))))))
def rm_X11_give : Room := { frames := 0, cells := 0, slots := 0, locals := 0 }
set_option maxHeartbeats 4000000 in
set_option maxRecDepth 100000 in
theorem t_X11_give_96 (hC : pw_CX G RX11 cX11_give 3 (some .int) p s m args meth c) {r : Int32} {τ : pw_St} {σ : pw_St} {H : Heap} {locs : List Loc} {ls : Array Slot} (hw : pw_WH G σ s.heap H locs) (hl : lv_has ls 3 []) (hf : b_X11_give_96 σ = some (r, τ)) : W p l e rm_X11_give s m args below meth c H locs 0 0 (MQ below (pw_Qi G r τ) args s 0 0 (pw_gA G)) (F0 m 96 ls []) := by
  have hx := hC.1
  have hb := hC.2.1
  unfold b_X11_give_96 at hf
  refine lv_iconst (v := 1) hx hb dX11_give_96 (by decide) ?_
  refine lv_goto (tgt := 101) hx hb dX11_give_97 (by decide) ?_
  exact pw_iret hC hw hf dX11_give_101
set_option maxHeartbeats 4000000 in
set_option maxRecDepth 100000 in
theorem c_X11_give {l : Launch} {G : pw_Gh} {x0 : Int32} {x1 : Int32} {x2 : Int32} {σ : pw_St} {r : Int32} {τ : pw_St} (hf : f_X11_give x0 x1 x2 σ = some (r, τ)) : Met l yX11_give (.code yX11_give cX11_give 3 (some .int) :: pw_BW) rm_X11_give (pw_Pc G [.int x0, .int x1, .int x2] σ) (pw_Qi G r τ) 0 0 (pw_gA G) := by
  refine pw_met (by decide +kernel) (Nat.le_of_ble_eq_true rfl) ?_
  intro p e s m args below meth c ls hC hw hl
  replace hl : lv_has ls 3 [(0, .int x0), (1, .int x1), (2, .int x2)] := hl
  have hx := hC.1
  have hb := hC.2.1
  unfold f_X11_give at hf
  refine lv_iload_n hx hb dX11_give_0 rfl (lv_at hl 0 rfl) ?_
  by_cases hc0 : x0 = 0
  · replace hf := pw_ifp hc0 hf
    refine lv_tableIn (off := 39) (tgt := 40) hx hb dX11_give_1 (by rw [hc0]; decide) (by rw [hc0]; decide) (by rw [hc0]; decide) (by decide) ?_
    refine lv_iload_n hx hb dX11_give_40 rfl (lv_at hl 1 rfl) ?_
    refine lv_iload_n hx hb dX11_give_41 rfl (lv_at hl 2 rfl) ?_
    refine lv_iadd hx hb dX11_give_42 ?_
    exact pw_iret hC hw hf dX11_give_43
  replace hf := pw_ifn hc0 hf
  by_cases hc1 : x0 = 1
  · replace hf := pw_ifp hc1 hf
    refine lv_tableIn (off := 43) (tgt := 44) hx hb dX11_give_1 (by rw [hc1]; decide) (by rw [hc1]; decide) (by rw [hc1]; decide) (by decide) ?_
    refine lv_iload_n hx hb dX11_give_44 rfl (lv_at hl 1 rfl) ?_
    refine lv_iload_n hx hb dX11_give_45 rfl (lv_at hl 2 rfl) ?_
    refine lv_isub hx hb dX11_give_46 ?_
    exact pw_iret hC hw hf dX11_give_47
  replace hf := pw_ifn hc1 hf
  by_cases hc2 : x0 = 2
  · replace hf := pw_ifp hc2 hf
    refine lv_tableIn (off := 47) (tgt := 48) hx hb dX11_give_1 (by rw [hc2]; decide) (by rw [hc2]; decide) (by rw [hc2]; decide) (by decide) ?_
    refine lv_iload_n hx hb dX11_give_48 rfl (lv_at hl 1 rfl) ?_
    refine lv_iload_n hx hb dX11_give_49 rfl (lv_at hl 2 rfl) ?_
    refine lv_imul hx hb dX11_give_50 ?_
    exact pw_iret hC hw hf dX11_give_51
  replace hf := pw_ifn hc2 hf
  by_cases hc3 : x0 = 3
  · replace hf := pw_ifp hc3 hf
    refine lv_tableIn (off := 51) (tgt := 52) hx hb dX11_give_1 (by rw [hc3]; decide) (by rw [hc3]; decide) (by rw [hc3]; decide) (by decide) ?_
    refine lv_iload_n hx hb dX11_give_52 rfl (lv_at hl 1 rfl) ?_
    refine lv_iload_n hx hb dX11_give_53 rfl (lv_at hl 2 rfl) ?_
    refine lv_icmp_ge (tgt := 61) hx hb dX11_give_54 (by decide) (fun hc => ?_) (fun hc => ?_)
    · replace hf := pw_ifp hc hf
      refine lv_iconst (v := 0) hx hb dX11_give_61 (by decide) ?_
      exact pw_iret hC hw hf dX11_give_62
    · replace hf := pw_ifn hc hf
      refine lv_iconst (v := 1) hx hb dX11_give_57 (by decide) ?_
      refine lv_goto (tgt := 62) hx hb dX11_give_58 (by decide) ?_
      exact pw_iret hC hw hf dX11_give_62
  replace hf := pw_ifn hc3 hf
  by_cases hc4 : x0 = 4
  · replace hf := pw_ifp hc4 hf
    refine lv_tableIn (off := 62) (tgt := 63) hx hb dX11_give_1 (by rw [hc4]; decide) (by rw [hc4]; decide) (by rw [hc4]; decide) (by decide) ?_
    refine lv_iload_n hx hb dX11_give_63 rfl (lv_at hl 1 rfl) ?_
    refine lv_iload_n hx hb dX11_give_64 rfl (lv_at hl 2 rfl) ?_
    refine lv_icmp_ne (tgt := 72) hx hb dX11_give_65 (by decide) (fun hc => ?_) (fun hc => ?_)
    · replace hf := pw_ifn hc hf
      refine lv_iconst (v := 0) hx hb dX11_give_72 (by decide) ?_
      exact pw_iret hC hw hf dX11_give_73
    · replace hf := pw_ifp hc hf
      refine lv_iconst (v := 1) hx hb dX11_give_68 (by decide) ?_
      refine lv_goto (tgt := 73) hx hb dX11_give_69 (by decide) ?_
      exact pw_iret hC hw hf dX11_give_73
  replace hf := pw_ifn hc4 hf
  by_cases hc5 : x0 = 5
  · replace hf := pw_ifp hc5 hf
    refine lv_tableIn (off := 73) (tgt := 74) hx hb dX11_give_1 (by rw [hc5]; decide) (by rw [hc5]; decide) (by rw [hc5]; decide) (by decide) ?_
    refine lv_iload_n hx hb dX11_give_74 rfl (lv_at hl 1 rfl) ?_
    refine lv_if_eq (tgt := 86) hx hb dX11_give_75 (by decide) (fun hc => ?_) (fun hc => ?_)
    · replace hf := pw_ifp hc hf
      refine lv_iconst (v := 0) hx hb dX11_give_86 (by decide) ?_
      exact pw_iret hC hw hf dX11_give_87
    · replace hf := pw_ifn hc hf
      refine lv_iload_n hx hb dX11_give_78 rfl (lv_at hl 2 rfl) ?_
      refine lv_if_eq (tgt := 86) hx hb dX11_give_79 (by decide) (fun hc => ?_) (fun hc => ?_)
      · replace hf := pw_ifp hc hf
        refine lv_iconst (v := 0) hx hb dX11_give_86 (by decide) ?_
        exact pw_iret hC hw hf dX11_give_87
      · replace hf := pw_ifn hc hf
        refine lv_iconst (v := 1) hx hb dX11_give_82 (by decide) ?_
        refine lv_goto (tgt := 87) hx hb dX11_give_83 (by decide) ?_
        exact pw_iret hC hw hf dX11_give_87
  replace hf := pw_ifn hc5 hf
  refine lv_tableOut (tgt := 88) hx hb dX11_give_1 (by have hq := And.intro (pw_ti hc0 (z := 0) (by decide)) (And.intro (pw_ti hc1 (z := 1) (by decide)) (And.intro (pw_ti hc2 (z := 2) (by decide)) (And.intro (pw_ti hc3 (z := 3) (by decide)) (And.intro (pw_ti hc4 (z := 4) (by decide)) (pw_ti hc5 (z := 5) (by decide)))))); omega) (by decide) ?_
  refine lv_iload_n hx hb dX11_give_88 rfl (lv_at hl 1 rfl) ?_
  refine lv_if_ne (tgt := 96) hx hb dX11_give_89 (by decide) (fun hc => ?_) (fun hc => ?_)
  · replace hf := pw_ifn hc hf
    exact t_X11_give_96 hC   hw (lv_sub hl [] rfl) hf
  · replace hf := pw_ifp hc hf
    refine lv_iload_n hx hb dX11_give_92 rfl (lv_at hl 2 rfl) ?_
    refine lv_if_eq (tgt := 100) hx hb dX11_give_93 (by decide) (fun hc => ?_) (fun hc => ?_)
    · replace hf := pw_ifp hc hf
      refine lv_iconst (v := 0) hx hb dX11_give_100 (by decide) ?_
      exact pw_iret hC hw hf dX11_give_101
    · replace hf := pw_ifn hc hf
      exact t_X11_give_96 hC   hw (lv_sub hl [] rfl) hf
-- PerhapsWasModel worthOf
def b_X11_worthOf_208 (σ : pw_St) : Option (Int32 × pw_St) := (if pw_in (0 : Int32) 16 = true then (some ((σ.1 50 (0 : Int32).toNatClampNeg), σ)) else none)
def b_X11_worthOf_198 (k8 : Int32 → Int32 → Int32 → Int32 → pw_St → Option (Int32 × pw_St)) (x1 : Int32) (x2 : Int32) (x3 : Int32) (x4 : Int32) (y0 : Int32) (y1 : Int32) (σ : pw_St) : Option (Int32 × pw_St) := (if pw_in y1 16 = true then (pw_lt (pw_sM σ 50 y1.toNatClampNeg y0) fun σ1 => (k8 x1 x2 (x3 + (1 : Int32)) (x4 + (1 : Int32)) σ1)) else none)
def b_X11_worthOf_63 (k8 : Int32 → Int32 → Int32 → Int32 → pw_St → Option (Int32 × pw_St)) (x1 : Int32) (x2 : Int32) (x3 : Int32) (x4 : Int32) (y0 : Int32) (y1 : Int32) (σ : pw_St) : Option (Int32 × pw_St) := (if pw_in y1 16 = true then (pw_lt (pw_sM σ 50 y1.toNatClampNeg y0) fun σ1 => (k8 x1 x2 x3 (x4 + (1 : Int32)) σ1)) else none)
def b_X11_worthOf_8 (k8 : Int32 → Int32 → Int32 → Int32 → pw_St → Option (Int32 × pw_St)) (x1 : Int32) (x2 : Int32) (x3 : Int32) (x4 : Int32) (σ : pw_St) : Option (Int32 × pw_St) := (if pw_in x1 16 = true then (if (((15 : Int32) * x1) + (σ.1 49 x1.toNatClampNeg)) ≤ x4 then (b_X11_worthOf_208  σ) else (if pw_in x4 240 = true then (if (σ.1 46 x4.toNatClampNeg) = (7 : Int32) then (if pw_in (x3 - (1 : Int32)) 16 = true then (if (σ.1 50 (x3 - (1 : Int32)).toNatClampNeg) = 0 then (b_X11_worthOf_63 k8 x1 x2 x3 x4 (1 : Int32) (x3 - (1 : Int32)) σ) else (b_X11_worthOf_63 k8 x1 x2 x3 x4 (0 : Int32) (x3 - (1 : Int32)) σ)) else none) else (if (7 : Int32) ≤ (σ.1 46 x4.toNatClampNeg) then (if (σ.1 46 x4.toNatClampNeg) = (10 : Int32) then (if pw_in x4 240 = true then (b_X11_worthOf_198 k8 x1 x2 x3 x4 (σ.1 47 x4.toNatClampNeg) x3 σ) else none) else (if (σ.1 46 x4.toNatClampNeg) = (11 : Int32) then (if pw_in x4 240 = true then (if pw_in x4 240 = true then (pw_bi (f_X11_nameAt (σ.1 47 x4.toNatClampNeg) (σ.1 48 x4.toNatClampNeg) x2 σ) fun r3 σ3 => (b_X11_worthOf_198 k8 x1 x2 x3 x4 r3 x3 σ3)) else none) else none) else (if (σ.1 46 x4.toNatClampNeg) = (12 : Int32) then (if pw_in x4 240 = true then (if pw_in x4 240 = true then (pw_bi (f_X11_underWay (σ.1 47 x4.toNatClampNeg) (σ.1 48 x4.toNatClampNeg) x2 σ) fun r2 σ2 => (b_X11_worthOf_198 k8 x1 x2 x3 x4 r2 x3 σ2)) else none) else none) else (if pw_in x4 240 = true then (pw_bi (f_X11_part x2 (σ.1 47 x4.toNatClampNeg) σ) fun r1 σ1 => (b_X11_worthOf_198 k8 x1 x2 x3 x4 r1 x3 σ1)) else none)))) else (if pw_in ((x3 + (-1 : Int32)) - (1 : Int32)) 16 = true then (if pw_in (x3 + (-1 : Int32)) 16 = true then (pw_bi (f_X11_give (σ.1 46 x4.toNatClampNeg) (σ.1 50 ((x3 + (-1 : Int32)) - (1 : Int32)).toNatClampNeg) (σ.1 50 (x3 + (-1 : Int32)).toNatClampNeg) σ) fun r4 σ4 => (if pw_in ((x3 + (-1 : Int32)) - (1 : Int32)) 16 = true then (pw_lt (pw_sM σ4 50 ((x3 + (-1 : Int32)) - (1 : Int32)).toNatClampNeg r4) fun σ5 => (k8 x1 x2 (x3 + (-1 : Int32)) (x4 + (1 : Int32)) σ5)) else none)) else none) else none))) else none)) else none)
def l_X11_worthOf_8 : Nat → Int32 → Int32 → Int32 → Int32 → pw_St → Option (Int32 × pw_St)
  | 0 => fun _ _ _ _ _ => none
  | n + 1 => fun x1 x2 x3 x4 σ => b_X11_worthOf_8  (l_X11_worthOf_8  n) x1 x2 x3 x4 σ
def f_X11_worthOf (x1 : Int32) (x2 : Int32) (σ : pw_St) : Option (Int32 × pw_St) := (l_X11_worthOf_8  pw_FU x1 x2 (0 : Int32) ((15 : Int32) * x1) σ)
def rm_X11_worthOf : Room := { frames := 3, cells := 0, slots := 0, locals := 67 }
set_option maxHeartbeats 4000000 in
set_option maxRecDepth 100000 in
theorem t_X11_worthOf_208 (hC : pw_CX G RX11 cX11_worthOf 6 (some .int) p s m args meth c) {r : Int32} {τ : pw_St} {σ : pw_St} {H : Heap} {locs : List Loc} {ls : Array Slot} (hw : pw_WH G σ s.heap H locs) (hl : lv_has ls 6 [(0, .ref (pw_ad G 10))]) (hf : b_X11_worthOf_208 σ = some (r, τ)) : W p l e rm_X11_worthOf s m args below meth c H locs 0 0 (MQ below (pw_Qi G r τ) args s 0 0 (pw_gA G)) (F0 m 208 ls []) := by
  have hx := hC.1
  have hb := hC.2.1
  unfold b_X11_worthOf_208 at hf
  refine lv_aload_n hx hb dX11_worthOf_208 rfl (lv_at hl 0 rfl) ?_
  refine pg_10_23 hC hw mw_772 dX11_worthOf_209 ?_
  refine lv_iconst (v := 0) hx hb dX11_worthOf_212 (by decide) ?_
  obtain ⟨hin, hf⟩ := pw_gd hf
  refine pw_ild hC hw ca_50 hin dX11_worthOf_213 ?_
  exact pw_iret hC hw hf dX11_worthOf_214
set_option maxHeartbeats 4000000 in
set_option maxRecDepth 100000 in
theorem t_X11_worthOf_198 (hC : pw_CX G RX11 cX11_worthOf 6 (some .int) p s m args meth c) {k8 : Int32 → Int32 → Int32 → Int32 → pw_St → Option (Int32 × pw_St)} {r : Int32} {τ : pw_St} (hk8 : ∀ (x1 : Int32), ∀ (x2 : Int32), ∀ (x3 : Int32), ∀ (x4 : Int32), ∀ (σ : pw_St) (H : Heap) (locs : List Loc) (ls : Array Slot), pw_WH G σ s.heap H locs → lv_has ls 6 [(0, .ref (pw_ad G 10)), (1, .int x1), (2, .int x2), (3, .int x3), (4, .int x4)] → k8 x1 x2 x3 x4 σ = some (r, τ) → W p l e rm_X11_worthOf s m args below meth c H locs 0 0 (MQ below (pw_Qi G r τ) args s 0 0 (pw_gA G)) (F0 m 8 ls [])) {x1 : Int32} {x2 : Int32} {x3 : Int32} {x4 : Int32} {y0 : Int32} {y1 : Int32} {σ : pw_St} {H : Heap} {locs : List Loc} {ls : Array Slot} (hw : pw_WH G σ s.heap H locs) (hl : lv_has ls 6 [(0, .ref (pw_ad G 10)), (1, .int x1), (2, .int x2), (3, .int x3), (4, .int x4)]) (hf : b_X11_worthOf_198 k8 x1 x2 x3 x4 y0 y1 σ = some (r, τ)) : W p l e rm_X11_worthOf s m args below meth c H locs 0 0 (MQ below (pw_Qi G r τ) args s 0 0 (pw_gA G)) (F0 m 198 ls [.int y0, .int y1, .ref (pw_ad G 50)]) := by
  have hx := hC.1
  have hb := hC.2.1
  unfold b_X11_worthOf_198 at hf
  obtain ⟨hin, hf⟩ := pw_gd hf
  refine pw_ist hC hw ca_50 hin dX11_worthOf_198 (fun H locs hw => ?_)
  obtain ⟨σ1, e1, hf⟩ := pw_lts hf
  replace hw := pw_WHe e1 hw
  refine lv_iinc (v := (x3 + (1 : Int32))) (lv' := [(3, .int (x3 + (1 : Int32))), (0, .ref (pw_ad G 10)), (1, .int x1), (2, .int x2), (4, .int x4)]) hx hb dX11_worthOf_199 hl (k := 3) rfl rfl (by decide) rfl (fun ls hl => ?_)
  refine lv_iinc (v := (x4 + (1 : Int32))) (lv' := [(4, .int (x4 + (1 : Int32))), (3, .int (x3 + (1 : Int32))), (0, .ref (pw_ad G 10)), (1, .int x1), (2, .int x2)]) hx hb dX11_worthOf_202 hl (k := 4) rfl rfl (by decide) rfl (fun ls hl => ?_)
  refine lv_goto (tgt := 8) hx hb dX11_worthOf_205 (by decide) ?_
  exact hk8 _ _ _ _ _ _ _ _ hw (lv_sub hl [2, 3, 4, 1, 0] rfl) hf
set_option maxHeartbeats 4000000 in
set_option maxRecDepth 100000 in
theorem t_X11_worthOf_63 (hC : pw_CX G RX11 cX11_worthOf 6 (some .int) p s m args meth c) {k8 : Int32 → Int32 → Int32 → Int32 → pw_St → Option (Int32 × pw_St)} {r : Int32} {τ : pw_St} (hk8 : ∀ (x1 : Int32), ∀ (x2 : Int32), ∀ (x3 : Int32), ∀ (x4 : Int32), ∀ (σ : pw_St) (H : Heap) (locs : List Loc) (ls : Array Slot), pw_WH G σ s.heap H locs → lv_has ls 6 [(0, .ref (pw_ad G 10)), (1, .int x1), (2, .int x2), (3, .int x3), (4, .int x4)] → k8 x1 x2 x3 x4 σ = some (r, τ) → W p l e rm_X11_worthOf s m args below meth c H locs 0 0 (MQ below (pw_Qi G r τ) args s 0 0 (pw_gA G)) (F0 m 8 ls [])) {x1 : Int32} {x2 : Int32} {x3 : Int32} {x4 : Int32} {y0 : Int32} {y1 : Int32} {σ : pw_St} {H : Heap} {locs : List Loc} {ls : Array Slot} (hw : pw_WH G σ s.heap H locs) (hl : lv_has ls 6 [(0, .ref (pw_ad G 10)), (1, .int x1), (2, .int x2), (3, .int x3), (4, .int x4)]) (hf : b_X11_worthOf_63 k8 x1 x2 x3 x4 y0 y1 σ = some (r, τ)) : W p l e rm_X11_worthOf s m args below meth c H locs 0 0 (MQ below (pw_Qi G r τ) args s 0 0 (pw_gA G)) (F0 m 63 ls [.int y0, .int y1, .ref (pw_ad G 50)]) := by
  have hx := hC.1
  have hb := hC.2.1
  unfold b_X11_worthOf_63 at hf
  obtain ⟨hin, hf⟩ := pw_gd hf
  refine pw_ist hC hw ca_50 hin dX11_worthOf_63 (fun H locs hw => ?_)
  obtain ⟨σ1, e1, hf⟩ := pw_lts hf
  replace hw := pw_WHe e1 hw
  refine lv_goto (tgt := 202) hx hb dX11_worthOf_64 (by decide) ?_
  refine lv_iinc (v := (x4 + (1 : Int32))) (lv' := [(4, .int (x4 + (1 : Int32))), (0, .ref (pw_ad G 10)), (1, .int x1), (2, .int x2), (3, .int x3)]) hx hb dX11_worthOf_202 hl (k := 4) rfl rfl (by decide) rfl (fun ls hl => ?_)
  refine lv_goto (tgt := 8) hx hb dX11_worthOf_205 (by decide) ?_
  exact hk8 _ _ _ _ _ _ _ _ hw (lv_sub hl [1, 2, 3, 4, 0] rfl) hf
set_option maxHeartbeats 4000000 in
set_option maxRecDepth 100000 in
theorem t_X11_worthOf_8 (hC : pw_CX G RX11 cX11_worthOf 6 (some .int) p s m args meth c) {k8 : Int32 → Int32 → Int32 → Int32 → pw_St → Option (Int32 × pw_St)} {r : Int32} {τ : pw_St} (hk8 : ∀ (x1 : Int32), ∀ (x2 : Int32), ∀ (x3 : Int32), ∀ (x4 : Int32), ∀ (σ : pw_St) (H : Heap) (locs : List Loc) (ls : Array Slot), pw_WH G σ s.heap H locs → lv_has ls 6 [(0, .ref (pw_ad G 10)), (1, .int x1), (2, .int x2), (3, .int x3), (4, .int x4)] → k8 x1 x2 x3 x4 σ = some (r, τ) → W p l e rm_X11_worthOf s m args below meth c H locs 0 0 (MQ below (pw_Qi G r τ) args s 0 0 (pw_gA G)) (F0 m 8 ls [])) {x1 : Int32} {x2 : Int32} {x3 : Int32} {x4 : Int32} {σ : pw_St} {H : Heap} {locs : List Loc} {ls : Array Slot} (hw : pw_WH G σ s.heap H locs) (hl : lv_has ls 6 [(0, .ref (pw_ad G 10)), (1, .int x1), (2, .int x2), (3, .int x3), (4, .int x4)]) (hf : b_X11_worthOf_8 k8 x1 x2 x3 x4 σ = some (r, τ)) : W p l e rm_X11_worthOf s m args below meth c H locs 0 0 (MQ below (pw_Qi G r τ) args s 0 0 (pw_gA G)) (F0 m 8 ls []) := by
  have hx := hC.1
  have hb := hC.2.1
  unfold b_X11_worthOf_8 at hf
  refine lv_iload hx hb dX11_worthOf_8 (lv_at hl 4 rfl) ?_
  refine lv_bipush (v := 15) hx hb dX11_worthOf_10 (by decide) ?_
  refine lv_iload_n hx hb dX11_worthOf_12 rfl (lv_at hl 1 rfl) ?_
  refine lv_imul hx hb dX11_worthOf_13 ?_
  refine lv_aload_n hx hb dX11_worthOf_14 rfl (lv_at hl 0 rfl) ?_
  refine pg_10_19 hC hw mw_768 dX11_worthOf_15 ?_
  refine lv_iload_n hx hb dX11_worthOf_18 rfl (lv_at hl 1 rfl) ?_
  obtain ⟨hin, hf⟩ := pw_gd hf
  refine pw_ild hC hw ca_49 hin dX11_worthOf_19 ?_
  refine lv_iadd hx hb dX11_worthOf_20 ?_
  refine lv_icmp_ge (tgt := 208) hx hb dX11_worthOf_21 (by decide) (fun hc => ?_) (fun hc => ?_)
  · replace hf := pw_ifp hc hf
    exact t_X11_worthOf_208 hC   hw (lv_sub hl [0] rfl) hf
  · replace hf := pw_ifn hc hf
    refine lv_aload_n hx hb dX11_worthOf_24 rfl (lv_at hl 0 rfl) ?_
    refine pg_10_16 hC hw mw_765 dX11_worthOf_25 ?_
    refine lv_iload hx hb dX11_worthOf_28 (lv_at hl 4 rfl) ?_
    obtain ⟨hin, hf⟩ := pw_gd hf
    refine pw_ild hC hw ca_46 hin dX11_worthOf_30 ?_
    refine lv_istore (lv' := [(5, .int (σ.1 46 x4.toNatClampNeg)), (0, .ref (pw_ad G 10)), (1, .int x1), (2, .int x2), (3, .int x3), (4, .int x4)]) hx hb dX11_worthOf_31 hl (by decide) rfl (fun ls hl => ?_)
    refine lv_iload hx hb dX11_worthOf_33 (lv_at hl 0 rfl) ?_
    refine lv_bipush (v := 7) hx hb dX11_worthOf_35 (by decide) ?_
    refine lv_icmp_ne (tgt := 67) hx hb dX11_worthOf_37 (by decide) (fun hc => ?_) (fun hc => ?_)
    · replace hf := pw_ifn hc hf
      refine lv_iload hx hb dX11_worthOf_67 (lv_at hl 0 rfl) ?_
      refine lv_bipush (v := 7) hx hb dX11_worthOf_69 (by decide) ?_
      refine lv_icmp_ge (tgt := 107) hx hb dX11_worthOf_71 (by decide) (fun hc => ?_) (fun hc => ?_)
      · replace hf := pw_ifp hc hf
        refine lv_aload_n hx hb dX11_worthOf_107 rfl (lv_at hl 1 rfl) ?_
        refine pg_10_23 hC hw mw_772 dX11_worthOf_108 ?_
        refine lv_iload_n hx hb dX11_worthOf_111 rfl (lv_at hl 4 rfl) ?_
        refine lv_iload hx hb dX11_worthOf_112 (lv_at hl 0 rfl) ?_
        refine lv_bipush (v := 10) hx hb dX11_worthOf_114 (by decide) ?_
        refine lv_icmp_ne (tgt := 129) hx hb dX11_worthOf_116 (by decide) (fun hc => ?_) (fun hc => ?_)
        · replace hf := pw_ifn hc hf
          refine lv_iload hx hb dX11_worthOf_129 (lv_at hl 0 rfl) ?_
          refine lv_bipush (v := 11) hx hb dX11_worthOf_131 (by decide) ?_
          refine lv_icmp_ne (tgt := 158) hx hb dX11_worthOf_133 (by decide) (fun hc => ?_) (fun hc => ?_)
          · replace hf := pw_ifn hc hf
            refine lv_iload hx hb dX11_worthOf_158 (lv_at hl 0 rfl) ?_
            refine lv_bipush (v := 12) hx hb dX11_worthOf_160 (by decide) ?_
            refine lv_icmp_ne (tgt := 187) hx hb dX11_worthOf_162 (by decide) (fun hc => ?_) (fun hc => ?_)
            · replace hf := pw_ifn hc hf
              refine lv_iload_n hx hb dX11_worthOf_187 rfl (lv_at hl 3 rfl) ?_
              refine lv_aload_n hx hb dX11_worthOf_188 rfl (lv_at hl 1 rfl) ?_
              refine pg_10_17 hC hw mw_766 dX11_worthOf_189 ?_
              refine lv_iload hx hb dX11_worthOf_192 (lv_at hl 5 rfl) ?_
              obtain ⟨hin, hf⟩ := pw_gd hf
              refine pw_ild hC hw ca_47 hin dX11_worthOf_194 ?_
              obtain ⟨r1, σ1, h1, hf⟩ := pw_bi_some hf
              refine pw_ci hw (pw_runS (As := [.int x2, .int (σ.1 47 x4.toNatClampNeg)]) (rest := [.int x3, .ref (pw_ad G 50)]) hC hw (c_X11_part  h1) mw_901 wm_X11_part ⟨Nat.zero_le _, Nat.zero_le _⟩ ⟨rfl, rfl, Nat.le_of_ble_eq_true rfl, Nat.le_of_ble_eq_true rfl⟩ rfl hl.1 rfl (Nat.le_of_ble_eq_true rfl) dX11_worthOf_195) (fun H locs hw => ?_)
              exact t_X11_worthOf_198 hC hk8  hw (lv_sub hl [1, 2, 3, 4, 5] rfl) hf
            · replace hf := pw_ifp hc hf
              refine lv_aload_n hx hb dX11_worthOf_165 rfl (lv_at hl 1 rfl) ?_
              refine lv_aload_n hx hb dX11_worthOf_166 rfl (lv_at hl 1 rfl) ?_
              refine pg_10_17 hC hw mw_766 dX11_worthOf_167 ?_
              refine lv_iload hx hb dX11_worthOf_170 (lv_at hl 5 rfl) ?_
              obtain ⟨hin, hf⟩ := pw_gd hf
              refine pw_ild hC hw ca_47 hin dX11_worthOf_172 ?_
              refine lv_aload_n hx hb dX11_worthOf_173 rfl (lv_at hl 1 rfl) ?_
              refine pg_10_18 hC hw mw_767 dX11_worthOf_174 ?_
              refine lv_iload hx hb dX11_worthOf_177 (lv_at hl 5 rfl) ?_
              obtain ⟨hin, hf⟩ := pw_gd hf
              refine pw_ild hC hw ca_48 hin dX11_worthOf_179 ?_
              refine lv_iload_n hx hb dX11_worthOf_180 rfl (lv_at hl 3 rfl) ?_
              obtain ⟨r2, σ2, h2, hf⟩ := pw_bi_some hf
              refine pw_ci hw (pw_runV (As := [.int (σ.1 47 x4.toNatClampNeg), .int (σ.1 48 x4.toNatClampNeg), .int x2]) (rest := [.int x3, .ref (pw_ad G 50)]) hC hw (c_X11_underWay  h2) mw_1001 wm_X11_underWay ⟨Nat.zero_le _, Nat.zero_le _⟩ ⟨rfl, rfl, Nat.le_of_ble_eq_true rfl, Nat.le_of_ble_eq_true rfl⟩ (by decide) rfl rfl rfl hl.1 rfl (Nat.le_of_ble_eq_true rfl) dX11_worthOf_181) (fun H locs hw => ?_)
              refine lv_goto (tgt := 198) hx hb dX11_worthOf_184 (by decide) ?_
              exact t_X11_worthOf_198 hC hk8  hw (lv_sub hl [1, 2, 3, 4, 5] rfl) hf
          · replace hf := pw_ifp hc hf
            refine lv_aload_n hx hb dX11_worthOf_136 rfl (lv_at hl 1 rfl) ?_
            refine lv_aload_n hx hb dX11_worthOf_137 rfl (lv_at hl 1 rfl) ?_
            refine pg_10_17 hC hw mw_766 dX11_worthOf_138 ?_
            refine lv_iload hx hb dX11_worthOf_141 (lv_at hl 5 rfl) ?_
            obtain ⟨hin, hf⟩ := pw_gd hf
            refine pw_ild hC hw ca_47 hin dX11_worthOf_143 ?_
            refine lv_aload_n hx hb dX11_worthOf_144 rfl (lv_at hl 1 rfl) ?_
            refine pg_10_18 hC hw mw_767 dX11_worthOf_145 ?_
            refine lv_iload hx hb dX11_worthOf_148 (lv_at hl 5 rfl) ?_
            obtain ⟨hin, hf⟩ := pw_gd hf
            refine pw_ild hC hw ca_48 hin dX11_worthOf_150 ?_
            refine lv_iload_n hx hb dX11_worthOf_151 rfl (lv_at hl 3 rfl) ?_
            obtain ⟨r3, σ3, h3, hf⟩ := pw_bi_some hf
            refine pw_ci hw (pw_runV (As := [.int (σ.1 47 x4.toNatClampNeg), .int (σ.1 48 x4.toNatClampNeg), .int x2]) (rest := [.int x3, .ref (pw_ad G 50)]) hC hw (c_X11_nameAt  h3) mw_997 wm_X11_nameAt ⟨Nat.zero_le _, Nat.zero_le _⟩ ⟨rfl, rfl, Nat.le_of_ble_eq_true rfl, Nat.le_of_ble_eq_true rfl⟩ (by decide) rfl rfl rfl hl.1 rfl (Nat.le_of_ble_eq_true rfl) dX11_worthOf_152) (fun H locs hw => ?_)
            refine lv_goto (tgt := 198) hx hb dX11_worthOf_155 (by decide) ?_
            exact t_X11_worthOf_198 hC hk8  hw (lv_sub hl [1, 2, 3, 4, 5] rfl) hf
        · replace hf := pw_ifp hc hf
          refine lv_aload_n hx hb dX11_worthOf_119 rfl (lv_at hl 1 rfl) ?_
          refine pg_10_17 hC hw mw_766 dX11_worthOf_120 ?_
          refine lv_iload hx hb dX11_worthOf_123 (lv_at hl 5 rfl) ?_
          obtain ⟨hin, hf⟩ := pw_gd hf
          refine pw_ild hC hw ca_47 hin dX11_worthOf_125 ?_
          refine lv_goto (tgt := 198) hx hb dX11_worthOf_126 (by decide) ?_
          exact t_X11_worthOf_198 hC hk8  hw (lv_sub hl [1, 2, 3, 4, 5] rfl) hf
      · replace hf := pw_ifn hc hf
        refine lv_iinc (v := (x3 + (-1 : Int32))) (lv' := [(3, .int (x3 + (-1 : Int32))), (5, .int (σ.1 46 x4.toNatClampNeg)), (0, .ref (pw_ad G 10)), (1, .int x1), (2, .int x2), (4, .int x4)]) hx hb dX11_worthOf_74 hl (k := 4) rfl rfl (by decide) rfl (fun ls hl => ?_)
        refine lv_aload_n hx hb dX11_worthOf_77 rfl (lv_at hl 2 rfl) ?_
        refine pg_10_23 hC hw mw_772 dX11_worthOf_78 ?_
        refine lv_iload_n hx hb dX11_worthOf_81 rfl (lv_at hl 0 rfl) ?_
        refine lv_iconst (v := 1) hx hb dX11_worthOf_82 (by decide) ?_
        refine lv_isub hx hb dX11_worthOf_83 ?_
        refine lv_iload hx hb dX11_worthOf_84 (lv_at hl 1 rfl) ?_
        refine lv_aload_n hx hb dX11_worthOf_86 rfl (lv_at hl 2 rfl) ?_
        refine pg_10_23 hC hw mw_772 dX11_worthOf_87 ?_
        refine lv_iload_n hx hb dX11_worthOf_90 rfl (lv_at hl 0 rfl) ?_
        refine lv_iconst (v := 1) hx hb dX11_worthOf_91 (by decide) ?_
        refine lv_isub hx hb dX11_worthOf_92 ?_
        obtain ⟨hin, hf⟩ := pw_gd hf
        refine pw_ild hC hw ca_50 hin dX11_worthOf_93 ?_
        refine lv_aload_n hx hb dX11_worthOf_94 rfl (lv_at hl 2 rfl) ?_
        refine pg_10_23 hC hw mw_772 dX11_worthOf_95 ?_
        refine lv_iload_n hx hb dX11_worthOf_98 rfl (lv_at hl 0 rfl) ?_
        obtain ⟨hin, hf⟩ := pw_gd hf
        refine pw_ild hC hw ca_50 hin dX11_worthOf_99 ?_
        obtain ⟨r4, σ4, h4, hf⟩ := pw_bi_some hf
        refine pw_ci hw (pw_runS (As := [.int (σ.1 46 x4.toNatClampNeg), .int (σ.1 50 ((x3 + (-1 : Int32)) - (1 : Int32)).toNatClampNeg), .int (σ.1 50 (x3 + (-1 : Int32)).toNatClampNeg)]) (rest := [.int ((x3 + (-1 : Int32)) - (1 : Int32)), .ref (pw_ad G 50)]) hC hw (c_X11_give  h4) mw_994 wm_X11_give ⟨Nat.zero_le _, Nat.zero_le _⟩ ⟨rfl, rfl, Nat.le_of_ble_eq_true rfl, Nat.le_of_ble_eq_true rfl⟩ rfl hl.1 rfl (Nat.le_of_ble_eq_true rfl) dX11_worthOf_100) (fun H locs hw => ?_)
        obtain ⟨hin, hf⟩ := pw_gd hf
        refine pw_ist hC hw ca_50 hin dX11_worthOf_103 (fun H locs hw => ?_)
        obtain ⟨σ5, e5, hf⟩ := pw_lts hf
        replace hw := pw_WHe e5 hw
        refine lv_goto (tgt := 202) hx hb dX11_worthOf_104 (by decide) ?_
        refine lv_iinc (v := (x4 + (1 : Int32))) (lv' := [(4, .int (x4 + (1 : Int32))), (3, .int (x3 + (-1 : Int32))), (5, .int (σ.1 46 x4.toNatClampNeg)), (0, .ref (pw_ad G 10)), (1, .int x1), (2, .int x2)]) hx hb dX11_worthOf_202 hl (k := 5) rfl rfl (by decide) rfl (fun ls hl => ?_)
        refine lv_goto (tgt := 8) hx hb dX11_worthOf_205 (by decide) ?_
        exact hk8 _ _ _ _ _ _ _ _ hw (lv_sub hl [3, 4, 5, 1, 0] rfl) hf
    · replace hf := pw_ifp hc hf
      refine lv_aload_n hx hb dX11_worthOf_40 rfl (lv_at hl 1 rfl) ?_
      refine pg_10_23 hC hw mw_772 dX11_worthOf_41 ?_
      refine lv_iload_n hx hb dX11_worthOf_44 rfl (lv_at hl 4 rfl) ?_
      refine lv_iconst (v := 1) hx hb dX11_worthOf_45 (by decide) ?_
      refine lv_isub hx hb dX11_worthOf_46 ?_
      refine lv_aload_n hx hb dX11_worthOf_47 rfl (lv_at hl 1 rfl) ?_
      refine pg_10_23 hC hw mw_772 dX11_worthOf_48 ?_
      refine lv_iload_n hx hb dX11_worthOf_51 rfl (lv_at hl 4 rfl) ?_
      refine lv_iconst (v := 1) hx hb dX11_worthOf_52 (by decide) ?_
      refine lv_isub hx hb dX11_worthOf_53 ?_
      obtain ⟨hin, hf⟩ := pw_gd hf
      refine pw_ild hC hw ca_50 hin dX11_worthOf_54 ?_
      refine lv_if_ne (tgt := 62) hx hb dX11_worthOf_55 (by decide) (fun hc => ?_) (fun hc => ?_)
      · replace hf := pw_ifn hc hf
        refine lv_iconst (v := 0) hx hb dX11_worthOf_62 (by decide) ?_
        exact t_X11_worthOf_63 hC hk8  hw (lv_sub hl [1, 2, 3, 4, 5] rfl) hf
      · replace hf := pw_ifp hc hf
        refine lv_iconst (v := 1) hx hb dX11_worthOf_58 (by decide) ?_
        refine lv_goto (tgt := 63) hx hb dX11_worthOf_59 (by decide) ?_
        exact t_X11_worthOf_63 hC hk8  hw (lv_sub hl [1, 2, 3, 4, 5] rfl) hf
set_option maxHeartbeats 4000000 in
theorem tl_X11_worthOf_8 (hC : pw_CX G RX11 cX11_worthOf 6 (some .int) p s m args meth c) {r : Int32} {τ : pw_St} : ∀ (n : Nat) (x1 : Int32) (x2 : Int32) (x3 : Int32) (x4 : Int32) (σ : pw_St) (H : Heap) (locs : List Loc) (ls : Array Slot), pw_WH G σ s.heap H locs → lv_has ls 6 [(0, .ref (pw_ad G 10)), (1, .int x1), (2, .int x2), (3, .int x3), (4, .int x4)] → l_X11_worthOf_8  n x1 x2 x3 x4 σ = some (r, τ) → W p l e rm_X11_worthOf s m args below meth c H locs 0 0 (MQ below (pw_Qi G r τ) args s 0 0 (pw_gA G)) (F0 m 8 ls []) := by
  intro n
  induction n with
  | zero => intro x1 x2 x3 x4 σ H locs ls hw hl hf; cases hf
  | succ n ih => intro x1 x2 x3 x4 σ H locs ls hw hl hf; exact t_X11_worthOf_8 hC ih  hw hl hf
set_option maxHeartbeats 4000000 in
set_option maxRecDepth 100000 in
theorem c_X11_worthOf {l : Launch} {G : pw_Gh} {x1 : Int32} {x2 : Int32} {σ : pw_St} {r : Int32} {τ : pw_St} (hf : f_X11_worthOf x1 x2 σ = some (r, τ)) : Met l yX11_worthOf (.code yX11_worthOf cX11_worthOf 6 (some .int) :: pw_BW) rm_X11_worthOf (pw_Pc G [.ref (pw_ad G 10), .int x1, .int x2] σ) (pw_Qi G r τ) 0 0 (pw_gA G) := by
  refine pw_met (by decide +kernel) (Nat.le_of_ble_eq_true rfl) ?_
  intro p e s m args below meth c ls hC hw hl
  replace hl : lv_has ls 6 [(0, .ref (pw_ad G 10)), (1, .int x1), (2, .int x2)] := hl
  have hx := hC.1
  have hb := hC.2.1
  unfold f_X11_worthOf at hf
  refine lv_iconst (v := 0) hx hb dX11_worthOf_0 (by decide) ?_
  refine lv_istore_n (lv' := [(3, .int (0 : Int32)), (0, .ref (pw_ad G 10)), (1, .int x1), (2, .int x2)]) hx hb dX11_worthOf_1 rfl hl (by decide) rfl (fun ls hl => ?_)
  refine lv_bipush (v := 15) hx hb dX11_worthOf_2 (by decide) ?_
  refine lv_iload_n hx hb dX11_worthOf_4 rfl (lv_at hl 2 rfl) ?_
  refine lv_imul hx hb dX11_worthOf_5 ?_
  refine lv_istore (lv' := [(4, .int ((15 : Int32) * x1)), (3, .int (0 : Int32)), (0, .ref (pw_ad G 10)), (1, .int x1), (2, .int x2)]) hx hb dX11_worthOf_6 hl (by decide) rfl (fun ls hl => ?_)
  exact tl_X11_worthOf_8 hC  pw_FU _ _ _ _ _ _ _ _ hw (lv_sub hl [2, 3, 4, 1, 0] rfl) hf
-- PerhapsWasModel value
def b_X11_value_28 (x1 : Int32) (x2 : Int32) (y0 : Int32) (σ : pw_St) : Option (Int32 × pw_St) := (pw_lt (pw_sM σ 10 22 y0) fun σ1 => (if (σ1.1 10 22) = 0 then (pw_bi (f_X11_worthOf x1 x2 σ1) fun r2 σ2 => (some (r2, σ2))) else (some ((0 : Int32), σ1))))
def b_X11_value_27 (x1 : Int32) (x2 : Int32) (σ : pw_St) : Option (Int32 × pw_St) := (b_X11_value_28  x1 x2 (-1 : Int32) σ)
def f_X11_value (x1 : Int32) (x2 : Int32) (σ : pw_St) : Option (Int32 × pw_St) := (pw_bi (f_X11_in x1 (0 : Int32) ((σ.1 10 20) - (1 : Int32)) σ) fun r1 σ1 => (if r1 = 0 then (b_X11_value_27  x1 x2 σ1) else (pw_bi (f_X11_isCut x2 σ1) fun r2 σ2 => (if r2 = 0 then (b_X11_value_27  x1 x2 σ2) else (b_X11_value_28  x1 x2 (0 : Int32) σ2)))))
def rm_X11_value : Room := { frames := 4, cells := 0, slots := 0, locals := 92 }
set_option maxHeartbeats 4000000 in
set_option maxRecDepth 100000 in
theorem t_X11_value_28 (hC : pw_CX G RX11 cX11_value 3 (some .int) p s m args meth c) {r : Int32} {τ : pw_St} {x1 : Int32} {x2 : Int32} {y0 : Int32} {σ : pw_St} {H : Heap} {locs : List Loc} {ls : Array Slot} (hw : pw_WH G σ s.heap H locs) (hl : lv_has ls 3 [(0, .ref (pw_ad G 10)), (1, .int x1), (2, .int x2)]) (hf : b_X11_value_28 x1 x2 y0 σ = some (r, τ)) : W p l e rm_X11_value s m args below meth c H locs 0 0 (MQ below (pw_Qi G r τ) args s 0 0 (pw_gA G)) (F0 m 28 ls [.int y0, .ref (pw_ad G 10)]) := by
  have hx := hC.1
  have hb := hC.2.1
  unfold b_X11_value_28 at hf
  refine pp_10_22 hC hw mw_771 dX11_value_28 (fun H locs hw => ?_)
  obtain ⟨σ1, e1, hf⟩ := pw_lts hf
  replace hw := pw_WHe e1 hw
  refine lv_aload_n hx hb dX11_value_31 rfl (lv_at hl 0 rfl) ?_
  refine pg_10_22 hC hw mw_771 dX11_value_32 ?_
  refine lv_if_ne (tgt := 47) hx hb dX11_value_35 (by decide) (fun hc => ?_) (fun hc => ?_)
  · replace hf := pw_ifn hc hf
    refine lv_iconst (v := 0) hx hb dX11_value_47 (by decide) ?_
    exact pw_iret hC hw hf dX11_value_48
  · replace hf := pw_ifp hc hf
    refine lv_aload_n hx hb dX11_value_38 rfl (lv_at hl 0 rfl) ?_
    refine lv_iload_n hx hb dX11_value_39 rfl (lv_at hl 1 rfl) ?_
    refine lv_iload_n hx hb dX11_value_40 rfl (lv_at hl 2 rfl) ?_
    obtain ⟨r2, σ2, h2, hf⟩ := pw_bi_some hf
    refine pw_ci hw (pw_runV (As := [.int x1, .int x2]) (rest := []) hC hw (c_X11_worthOf  h2) mw_990 wm_X11_worthOf ⟨Nat.zero_le _, Nat.zero_le _⟩ ⟨rfl, rfl, Nat.le_of_ble_eq_true rfl, Nat.le_of_ble_eq_true rfl⟩ (by decide) rfl rfl rfl hl.1 rfl (Nat.le_of_ble_eq_true rfl) dX11_value_41) (fun H locs hw => ?_)
    refine lv_goto (tgt := 48) hx hb dX11_value_44 (by decide) ?_
    exact pw_iret hC hw hf dX11_value_48
set_option maxHeartbeats 4000000 in
set_option maxRecDepth 100000 in
theorem t_X11_value_27 (hC : pw_CX G RX11 cX11_value 3 (some .int) p s m args meth c) {r : Int32} {τ : pw_St} {x1 : Int32} {x2 : Int32} {σ : pw_St} {H : Heap} {locs : List Loc} {ls : Array Slot} (hw : pw_WH G σ s.heap H locs) (hl : lv_has ls 3 [(0, .ref (pw_ad G 10)), (1, .int x1), (2, .int x2)]) (hf : b_X11_value_27 x1 x2 σ = some (r, τ)) : W p l e rm_X11_value s m args below meth c H locs 0 0 (MQ below (pw_Qi G r τ) args s 0 0 (pw_gA G)) (F0 m 27 ls [.ref (pw_ad G 10)]) := by
  have hx := hC.1
  have hb := hC.2.1
  unfold b_X11_value_27 at hf
  refine lv_iconst (v := -1) hx hb dX11_value_27 (by decide) ?_
  exact t_X11_value_28 hC   hw (lv_sub hl [0, 1, 2] rfl) hf
set_option maxHeartbeats 4000000 in
set_option maxRecDepth 100000 in
theorem c_X11_value {l : Launch} {G : pw_Gh} {x1 : Int32} {x2 : Int32} {σ : pw_St} {r : Int32} {τ : pw_St} (hf : f_X11_value x1 x2 σ = some (r, τ)) : Met l yX11_value (.code yX11_value cX11_value 3 (some .int) :: pw_BW) rm_X11_value (pw_Pc G [.ref (pw_ad G 10), .int x1, .int x2] σ) (pw_Qi G r τ) 0 0 (pw_gA G) := by
  refine pw_met (by decide +kernel) (Nat.le_of_ble_eq_true rfl) ?_
  intro p e s m args below meth c ls hC hw hl
  replace hl : lv_has ls 3 [(0, .ref (pw_ad G 10)), (1, .int x1), (2, .int x2)] := hl
  have hx := hC.1
  have hb := hC.2.1
  unfold f_X11_value at hf
  refine lv_aload_n hx hb dX11_value_0 rfl (lv_at hl 0 rfl) ?_
  refine lv_iload_n hx hb dX11_value_1 rfl (lv_at hl 1 rfl) ?_
  refine lv_iconst (v := 0) hx hb dX11_value_2 (by decide) ?_
  refine lv_aload_n hx hb dX11_value_3 rfl (lv_at hl 0 rfl) ?_
  refine pg_10_20 hC hw mw_769 dX11_value_4 ?_
  refine lv_iconst (v := 1) hx hb dX11_value_7 (by decide) ?_
  refine lv_isub hx hb dX11_value_8 ?_
  obtain ⟨r1, σ1, h1, hf⟩ := pw_bi_some hf
  refine pw_ci hw (pw_runS (As := [.int x1, .int (0 : Int32), .int ((σ.1 10 20) - (1 : Int32))]) (rest := [.ref (pw_ad G 10)]) hC hw (c_X11_in  h1) mw_846 wm_X11_in ⟨Nat.zero_le _, Nat.zero_le _⟩ ⟨rfl, rfl, Nat.le_of_ble_eq_true rfl, Nat.le_of_ble_eq_true rfl⟩ rfl hl.1 rfl (Nat.le_of_ble_eq_true rfl) dX11_value_9) (fun H locs hw => ?_)
  refine lv_if_eq (tgt := 27) hx hb dX11_value_12 (by decide) (fun hc => ?_) (fun hc => ?_)
  · replace hf := pw_ifp hc hf
    exact t_X11_value_27 hC   hw (lv_sub hl [0, 1, 2] rfl) hf
  · replace hf := pw_ifn hc hf
    refine lv_aload_n hx hb dX11_value_15 rfl (lv_at hl 0 rfl) ?_
    refine lv_iload_n hx hb dX11_value_16 rfl (lv_at hl 2 rfl) ?_
    obtain ⟨r2, σ2, h2, hf⟩ := pw_bi_some hf
    refine pw_ci hw (pw_runV (As := [.int x2]) (rest := [.ref (pw_ad G 10)]) hC hw (c_X11_isCut  h2) mw_897 wm_X11_isCut ⟨Nat.zero_le _, Nat.zero_le _⟩ ⟨rfl, rfl, Nat.le_of_ble_eq_true rfl, Nat.le_of_ble_eq_true rfl⟩ (by decide) rfl rfl rfl hl.1 rfl (Nat.le_of_ble_eq_true rfl) dX11_value_17) (fun H locs hw => ?_)
    refine lv_if_eq (tgt := 27) hx hb dX11_value_20 (by decide) (fun hc => ?_) (fun hc => ?_)
    · replace hf := pw_ifp hc hf
      exact t_X11_value_27 hC   hw (lv_sub hl [0, 1, 2] rfl) hf
    · replace hf := pw_ifn hc hf
      refine lv_iconst (v := 0) hx hb dX11_value_23 (by decide) ?_
      refine lv_goto (tgt := 28) hx hb dX11_value_24 (by decide) ?_
      exact t_X11_value_28 hC   hw (lv_sub hl [0, 1, 2] rfl) hf
-- PerhapsWasModel status
def f_X11_status (σ : pw_St) : Option (Int32 × pw_St) := (some ((σ.1 10 22), σ))
def rm_X11_status : Room := { frames := 0, cells := 0, slots := 0, locals := 0 }
set_option maxHeartbeats 4000000 in
set_option maxRecDepth 100000 in
theorem c_X11_status {l : Launch} {G : pw_Gh} {σ : pw_St} {r : Int32} {τ : pw_St} (hf : f_X11_status σ = some (r, τ)) : Met l yX11_status (.code yX11_status cX11_status 1 (some .int) :: pw_BW) rm_X11_status (pw_Pc G [.ref (pw_ad G 10)] σ) (pw_Qi G r τ) 0 0 (pw_gA G) := by
  refine pw_met (by decide +kernel) (Nat.le_of_ble_eq_true rfl) ?_
  intro p e s m args below meth c ls hC hw hl
  replace hl : lv_has ls 1 [(0, .ref (pw_ad G 10))] := hl
  have hx := hC.1
  have hb := hC.2.1
  unfold f_X11_status at hf
  refine lv_aload_n hx hb dX11_status_0 rfl (lv_at hl 0 rfl) ?_
  refine pg_10_22 hC hw mw_771 dX11_status_1 ?_
  exact pw_iret hC hw hf dX11_status_4
-- PerhapsWasModel study
def b_X11_study_52 (k18 : Int32 → Int32 → pw_St → Option (Int32 × pw_St)) (x1 : Int32) (x2 : Int32) (y0 : Int32) (y1 : Int32) (σ : pw_St) : Option (Int32 × pw_St) := (if pw_in y1 2401 = true then (pw_lt (pw_sM σ 51 y1.toNatClampNeg (vp_nar .boolean y0)) fun σ1 => (k18 x1 (x2 + (1 : Int32)) σ1)) else none)
def b_X11_study_51 (k18 : Int32 → Int32 → pw_St → Option (Int32 × pw_St)) (x1 : Int32) (x2 : Int32) (y0 : Int32) (σ : pw_St) : Option (Int32 × pw_St) := (b_X11_study_52 k18 x1 x2 (0 : Int32) y0 σ)
def b_X11_study_18 (k18 : Int32 → Int32 → pw_St → Option (Int32 × pw_St)) (x1 : Int32) (x2 : Int32) (σ : pw_St) : Option (Int32 × pw_St) := (if (2401 : Int32) ≤ x2 then (if pw_isb (1 : Int32) = true then some ((1 : Int32), σ) else none) else (pw_bi (f_X11_isPossible x2 σ) fun r1 σ1 => (if r1 = 0 then (b_X11_study_51 k18 x1 x2 x2 σ1) else (pw_bi (f_X11_worthOf x1 x2 σ1) fun r2 σ2 => (if r2 = 0 then (b_X11_study_51 k18 x1 x2 x2 σ2) else (b_X11_study_52 k18 x1 x2 (1 : Int32) x2 σ2))))))
def l_X11_study_18 : Nat → Int32 → Int32 → pw_St → Option (Int32 × pw_St)
  | 0 => fun _ _ _ => none
  | n + 1 => fun x1 x2 σ => b_X11_study_18  (l_X11_study_18  n) x1 x2 σ
def f_X11_study (x1 : Int32) (σ : pw_St) : Option (Int32 × pw_St) := (pw_bi (f_X11_in x1 (0 : Int32) ((σ.1 10 20) - (1 : Int32)) σ) fun r1 σ1 => (if r1 = 0 then (if pw_isb (0 : Int32) = true then some ((0 : Int32), σ1) else none) else (l_X11_study_18  pw_FU x1 (0 : Int32) σ1)))
def rm_X11_study : Room := { frames := 4, cells := 0, slots := 0, locals := 92 }
set_option maxHeartbeats 4000000 in
set_option maxRecDepth 100000 in
theorem t_X11_study_52 (hC : pw_CX G RX11 cX11_study 3 (some .boolean) p s m args meth c) {k18 : Int32 → Int32 → pw_St → Option (Int32 × pw_St)} {r : Int32} {τ : pw_St} (hk18 : ∀ (x1 : Int32), ∀ (x2 : Int32), ∀ (σ : pw_St) (H : Heap) (locs : List Loc) (ls : Array Slot), pw_WH G σ s.heap H locs → lv_has ls 3 [(0, .ref (pw_ad G 10)), (1, .int x1), (2, .int x2)] → k18 x1 x2 σ = some (r, τ) → W p l e rm_X11_study s m args below meth c H locs 0 0 (MQ below (pw_Qi G r τ) args s 0 0 (pw_gA G)) (F0 m 18 ls [])) {x1 : Int32} {x2 : Int32} {y0 : Int32} {y1 : Int32} {σ : pw_St} {H : Heap} {locs : List Loc} {ls : Array Slot} (hw : pw_WH G σ s.heap H locs) (hl : lv_has ls 3 [(0, .ref (pw_ad G 10)), (1, .int x1), (2, .int x2)]) (hf : b_X11_study_52 k18 x1 x2 y0 y1 σ = some (r, τ)) : W p l e rm_X11_study s m args below meth c H locs 0 0 (MQ below (pw_Qi G r τ) args s 0 0 (pw_gA G)) (F0 m 52 ls [.int y0, .int y1, .ref (pw_ad G 51)]) := by
  have hx := hC.1
  have hb := hC.2.1
  unfold b_X11_study_52 at hf
  obtain ⟨hin, hf⟩ := pw_gd hf
  refine pw_zst hC hw ca_51 hin dX11_study_52 (fun H locs hw => ?_)
  obtain ⟨σ1, e1, hf⟩ := pw_lts hf
  replace hw := pw_WHe e1 hw
  refine lv_iinc (v := (x2 + (1 : Int32))) (lv' := [(2, .int (x2 + (1 : Int32))), (0, .ref (pw_ad G 10)), (1, .int x1)]) hx hb dX11_study_53 hl (k := 2) rfl rfl (by decide) rfl (fun ls hl => ?_)
  refine lv_goto (tgt := 18) hx hb dX11_study_56 (by decide) ?_
  exact hk18 _ _ _ _ _ _ hw (lv_sub hl [1, 2, 0] rfl) hf
set_option maxHeartbeats 4000000 in
set_option maxRecDepth 100000 in
theorem t_X11_study_51 (hC : pw_CX G RX11 cX11_study 3 (some .boolean) p s m args meth c) {k18 : Int32 → Int32 → pw_St → Option (Int32 × pw_St)} {r : Int32} {τ : pw_St} (hk18 : ∀ (x1 : Int32), ∀ (x2 : Int32), ∀ (σ : pw_St) (H : Heap) (locs : List Loc) (ls : Array Slot), pw_WH G σ s.heap H locs → lv_has ls 3 [(0, .ref (pw_ad G 10)), (1, .int x1), (2, .int x2)] → k18 x1 x2 σ = some (r, τ) → W p l e rm_X11_study s m args below meth c H locs 0 0 (MQ below (pw_Qi G r τ) args s 0 0 (pw_gA G)) (F0 m 18 ls [])) {x1 : Int32} {x2 : Int32} {y0 : Int32} {σ : pw_St} {H : Heap} {locs : List Loc} {ls : Array Slot} (hw : pw_WH G σ s.heap H locs) (hl : lv_has ls 3 [(0, .ref (pw_ad G 10)), (1, .int x1), (2, .int x2)]) (hf : b_X11_study_51 k18 x1 x2 y0 σ = some (r, τ)) : W p l e rm_X11_study s m args below meth c H locs 0 0 (MQ below (pw_Qi G r τ) args s 0 0 (pw_gA G)) (F0 m 51 ls [.int y0, .ref (pw_ad G 51)]) := by
  have hx := hC.1
  have hb := hC.2.1
  unfold b_X11_study_51 at hf
  refine lv_iconst (v := 0) hx hb dX11_study_51 (by decide) ?_
  exact t_X11_study_52 hC hk18  hw (lv_sub hl [0, 1, 2] rfl) hf
set_option maxHeartbeats 4000000 in
set_option maxRecDepth 100000 in
theorem t_X11_study_18 (hC : pw_CX G RX11 cX11_study 3 (some .boolean) p s m args meth c) {k18 : Int32 → Int32 → pw_St → Option (Int32 × pw_St)} {r : Int32} {τ : pw_St} (hk18 : ∀ (x1 : Int32), ∀ (x2 : Int32), ∀ (σ : pw_St) (H : Heap) (locs : List Loc) (ls : Array Slot), pw_WH G σ s.heap H locs → lv_has ls 3 [(0, .ref (pw_ad G 10)), (1, .int x1), (2, .int x2)] → k18 x1 x2 σ = some (r, τ) → W p l e rm_X11_study s m args below meth c H locs 0 0 (MQ below (pw_Qi G r τ) args s 0 0 (pw_gA G)) (F0 m 18 ls [])) {x1 : Int32} {x2 : Int32} {σ : pw_St} {H : Heap} {locs : List Loc} {ls : Array Slot} (hw : pw_WH G σ s.heap H locs) (hl : lv_has ls 3 [(0, .ref (pw_ad G 10)), (1, .int x1), (2, .int x2)]) (hf : b_X11_study_18 k18 x1 x2 σ = some (r, τ)) : W p l e rm_X11_study s m args below meth c H locs 0 0 (MQ below (pw_Qi G r τ) args s 0 0 (pw_gA G)) (F0 m 18 ls []) := by
  have hx := hC.1
  have hb := hC.2.1
  unfold b_X11_study_18 at hf
  refine lv_iload_n hx hb dX11_study_18 rfl (lv_at hl 2 rfl) ?_
  refine lv_sipush (v := 2401) hx hb dX11_study_19 (by decide) ?_
  refine lv_icmp_ge (tgt := 59) hx hb dX11_study_22 (by decide) (fun hc => ?_) (fun hc => ?_)
  · replace hf := pw_ifp hc hf
    refine lv_iconst (v := 1) hx hb dX11_study_59 (by decide) ?_
    exact pw_zret hC hw hf dX11_study_60
  · replace hf := pw_ifn hc hf
    refine lv_aload_n hx hb dX11_study_25 rfl (lv_at hl 0 rfl) ?_
    refine pg_10_24 hC hw mw_773 dX11_study_26 ?_
    refine lv_iload_n hx hb dX11_study_29 rfl (lv_at hl 2 rfl) ?_
    refine lv_aload_n hx hb dX11_study_30 rfl (lv_at hl 0 rfl) ?_
    refine lv_iload_n hx hb dX11_study_31 rfl (lv_at hl 2 rfl) ?_
    obtain ⟨r1, σ1, h1, hf⟩ := pw_bi_some hf
    refine pw_ci hw (pw_runV (As := [.int x2]) (rest := [.int x2, .ref (pw_ad G 51)]) hC hw (c_X11_isPossible  h1) mw_907 wm_X11_isPossible ⟨Nat.zero_le _, Nat.zero_le _⟩ ⟨rfl, rfl, Nat.le_of_ble_eq_true rfl, Nat.le_of_ble_eq_true rfl⟩ (by decide) rfl rfl rfl hl.1 rfl (Nat.le_of_ble_eq_true rfl) dX11_study_32) (fun H locs hw => ?_)
    refine lv_if_eq (tgt := 51) hx hb dX11_study_35 (by decide) (fun hc => ?_) (fun hc => ?_)
    · replace hf := pw_ifp hc hf
      exact t_X11_study_51 hC hk18  hw (lv_sub hl [0, 1, 2] rfl) hf
    · replace hf := pw_ifn hc hf
      refine lv_aload_n hx hb dX11_study_38 rfl (lv_at hl 0 rfl) ?_
      refine lv_iload_n hx hb dX11_study_39 rfl (lv_at hl 1 rfl) ?_
      refine lv_iload_n hx hb dX11_study_40 rfl (lv_at hl 2 rfl) ?_
      obtain ⟨r2, σ2, h2, hf⟩ := pw_bi_some hf
      refine pw_ci hw (pw_runV (As := [.int x1, .int x2]) (rest := [.int x2, .ref (pw_ad G 51)]) hC hw (c_X11_worthOf  h2) mw_990 wm_X11_worthOf ⟨Nat.zero_le _, Nat.zero_le _⟩ ⟨rfl, rfl, Nat.le_of_ble_eq_true rfl, Nat.le_of_ble_eq_true rfl⟩ (by decide) rfl rfl rfl hl.1 rfl (Nat.le_of_ble_eq_true rfl) dX11_study_41) (fun H locs hw => ?_)
      refine lv_if_eq (tgt := 51) hx hb dX11_study_44 (by decide) (fun hc => ?_) (fun hc => ?_)
      · replace hf := pw_ifp hc hf
        exact t_X11_study_51 hC hk18  hw (lv_sub hl [0, 1, 2] rfl) hf
      · replace hf := pw_ifn hc hf
        refine lv_iconst (v := 1) hx hb dX11_study_47 (by decide) ?_
        refine lv_goto (tgt := 52) hx hb dX11_study_48 (by decide) ?_
        exact t_X11_study_52 hC hk18  hw (lv_sub hl [0, 1, 2] rfl) hf
set_option maxHeartbeats 4000000 in
theorem tl_X11_study_18 (hC : pw_CX G RX11 cX11_study 3 (some .boolean) p s m args meth c) {r : Int32} {τ : pw_St} : ∀ (n : Nat) (x1 : Int32) (x2 : Int32) (σ : pw_St) (H : Heap) (locs : List Loc) (ls : Array Slot), pw_WH G σ s.heap H locs → lv_has ls 3 [(0, .ref (pw_ad G 10)), (1, .int x1), (2, .int x2)] → l_X11_study_18  n x1 x2 σ = some (r, τ) → W p l e rm_X11_study s m args below meth c H locs 0 0 (MQ below (pw_Qi G r τ) args s 0 0 (pw_gA G)) (F0 m 18 ls []) := by
  intro n
  induction n with
  | zero => intro x1 x2 σ H locs ls hw hl hf; cases hf
  | succ n ih => intro x1 x2 σ H locs ls hw hl hf; exact t_X11_study_18 hC ih  hw hl hf
set_option maxHeartbeats 4000000 in
set_option maxRecDepth 100000 in
theorem c_X11_study {l : Launch} {G : pw_Gh} {x1 : Int32} {σ : pw_St} {r : Int32} {τ : pw_St} (hf : f_X11_study x1 σ = some (r, τ)) : Met l yX11_study (.code yX11_study cX11_study 3 (some .boolean) :: pw_BW) rm_X11_study (pw_Pc G [.ref (pw_ad G 10), .int x1] σ) (pw_Qi G r τ) 0 0 (pw_gA G) := by
  refine pw_met (by decide +kernel) (Nat.le_of_ble_eq_true rfl) ?_
  intro p e s m args below meth c ls hC hw hl
  replace hl : lv_has ls 3 [(0, .ref (pw_ad G 10)), (1, .int x1)] := hl
  have hx := hC.1
  have hb := hC.2.1
  unfold f_X11_study at hf
  refine lv_iload_n hx hb dX11_study_0 rfl (lv_at hl 1 rfl) ?_
  refine lv_iconst (v := 0) hx hb dX11_study_1 (by decide) ?_
  refine lv_aload_n hx hb dX11_study_2 rfl (lv_at hl 0 rfl) ?_
  refine pg_10_20 hC hw mw_769 dX11_study_3 ?_
  refine lv_iconst (v := 1) hx hb dX11_study_6 (by decide) ?_
  refine lv_isub hx hb dX11_study_7 ?_
  obtain ⟨r1, σ1, h1, hf⟩ := pw_bi_some hf
  refine pw_ci hw (pw_runS (As := [.int x1, .int (0 : Int32), .int ((σ.1 10 20) - (1 : Int32))]) (rest := []) hC hw (c_X11_in  h1) mw_846 wm_X11_in ⟨Nat.zero_le _, Nat.zero_le _⟩ ⟨rfl, rfl, Nat.le_of_ble_eq_true rfl, Nat.le_of_ble_eq_true rfl⟩ rfl hl.1 rfl (Nat.le_of_ble_eq_true rfl) dX11_study_8) (fun H locs hw => ?_)
  refine lv_if_ne (tgt := 16) hx hb dX11_study_11 (by decide) (fun hc => ?_) (fun hc => ?_)
  · replace hf := pw_ifn hc hf
    refine lv_iconst (v := 0) hx hb dX11_study_16 (by decide) ?_
    refine lv_istore_n (lv' := [(2, .int (0 : Int32)), (0, .ref (pw_ad G 10)), (1, .int x1)]) hx hb dX11_study_17 rfl hl (by decide) rfl (fun ls hl => ?_)
    exact tl_X11_study_18 hC  pw_FU _ _ _ _ _ _ hw (lv_sub hl [1, 2, 0] rfl) hf
  · replace hf := pw_ifp hc hf
    refine lv_iconst (v := 0) hx hb dX11_study_14 (by decide) ?_
    exact pw_zret hC hw hf dX11_study_15
-- PerhapsWasModel extreme
def b_X11_extreme_79 (k15 : Int32 → Int32 → Int32 → pw_St → Option (Int32 × pw_St)) (x2 : Int32) (x4 : Int32) (σ : pw_St) : Option (Int32 × pw_St) := (k15 x2 x4 (x4 + (1 : Int32)) σ)
def b_X11_extreme_75 (k15 : Int32 → Int32 → Int32 → pw_St → Option (Int32 × pw_St)) (x2 : Int32) (x3 : Int32) (x4 : Int32) (y0 : Int32) (σ : pw_St) : Option (Int32 × pw_St) := (if y0 = x2 then (b_X11_extreme_79 k15 x2 x4 σ) else (k15 x2 x3 (x4 + (1 : Int32)) σ))
def b_X11_extreme_15 (k15 : Int32 → Int32 → Int32 → pw_St → Option (Int32 × pw_St)) (x2 : Int32) (x3 : Int32) (x4 : Int32) (σ : pw_St) : Option (Int32 × pw_St) := (if (2401 : Int32) ≤ x4 then (some (x3, σ)) else (if pw_in x4 2401 = true then (if (σ.1 51 x4.toNatClampNeg) = 0 then (k15 x2 x3 (x4 + (1 : Int32)) σ) else (pw_bi (f_X11_sizeOf x4 σ) fun r1 σ1 => (if x3 = (-1 : Int32) then (b_X11_extreme_79 k15 x2 x4 σ1) else (pw_bi (f_X11_sizeOf x3 σ1) fun r2 σ2 => (if (((2401 : Int32) * r1) + x4) ≤ (((2401 : Int32) * r2) + x3) then (b_X11_extreme_75 k15 x2 x3 x4 (0 : Int32) σ2) else (b_X11_extreme_75 k15 x2 x3 x4 (1 : Int32) σ2)))))) else none))
def l_X11_extreme_15 : Nat → Int32 → Int32 → Int32 → pw_St → Option (Int32 × pw_St)
  | 0 => fun _ _ _ _ => none
  | n + 1 => fun x2 x3 x4 σ => b_X11_extreme_15  (l_X11_extreme_15  n) x2 x3 x4 σ
def f_X11_extreme (x1 : Int32) (x2 : Int32) (σ : pw_St) : Option (Int32 × pw_St) := (pw_bi (f_X11_study x1 σ) fun r1 σ1 => (if r1 = 0 then (some ((-1 : Int32), σ1)) else (l_X11_extreme_15  pw_FU x2 (-1 : Int32) (0 : Int32) σ1)))
def rm_X11_extreme : Room := { frames := 5, cells := 0, slots := 0, locals := 114 }
set_option maxHeartbeats 4000000 in
set_option maxRecDepth 100000 in
theorem t_X11_extreme_79 (hC : pw_CX G RX11 cX11_extreme 6 (some .int) p s m args meth c) {k15 : Int32 → Int32 → Int32 → pw_St → Option (Int32 × pw_St)} {r : Int32} {τ : pw_St} (hk15 : ∀ (x2 : Int32), ∀ (x3 : Int32), ∀ (x4 : Int32), ∀ (σ : pw_St) (H : Heap) (locs : List Loc) (ls : Array Slot), pw_WH G σ s.heap H locs → lv_has ls 6 [(0, .ref (pw_ad G 10)), (2, .int x2), (3, .int x3), (4, .int x4)] → k15 x2 x3 x4 σ = some (r, τ) → W p l e rm_X11_extreme s m args below meth c H locs 0 0 (MQ below (pw_Qi G r τ) args s 0 0 (pw_gA G)) (F0 m 15 ls [])) {x2 : Int32} {x4 : Int32} {σ : pw_St} {H : Heap} {locs : List Loc} {ls : Array Slot} (hw : pw_WH G σ s.heap H locs) (hl : lv_has ls 6 [(0, .ref (pw_ad G 10)), (2, .int x2), (4, .int x4)]) (hf : b_X11_extreme_79 k15 x2 x4 σ = some (r, τ)) : W p l e rm_X11_extreme s m args below meth c H locs 0 0 (MQ below (pw_Qi G r τ) args s 0 0 (pw_gA G)) (F0 m 79 ls []) := by
  have hx := hC.1
  have hb := hC.2.1
  unfold b_X11_extreme_79 at hf
  refine lv_iload hx hb dX11_extreme_79 (lv_at hl 2 rfl) ?_
  refine lv_istore_n (lv' := [(3, .int x4), (0, .ref (pw_ad G 10)), (2, .int x2), (4, .int x4)]) hx hb dX11_extreme_81 rfl hl (by decide) rfl (fun ls hl => ?_)
  refine lv_iinc (v := (x4 + (1 : Int32))) (lv' := [(4, .int (x4 + (1 : Int32))), (3, .int x4), (0, .ref (pw_ad G 10)), (2, .int x2)]) hx hb dX11_extreme_82 hl (k := 3) rfl rfl (by decide) rfl (fun ls hl => ?_)
  refine lv_goto (tgt := 15) hx hb dX11_extreme_85 (by decide) ?_
  exact hk15 _ _ _ _ _ _ _ hw (lv_sub hl [2, 3, 1, 0] rfl) hf
set_option maxHeartbeats 4000000 in
set_option maxRecDepth 100000 in
theorem t_X11_extreme_75 (hC : pw_CX G RX11 cX11_extreme 6 (some .int) p s m args meth c) {k15 : Int32 → Int32 → Int32 → pw_St → Option (Int32 × pw_St)} {r : Int32} {τ : pw_St} (hk15 : ∀ (x2 : Int32), ∀ (x3 : Int32), ∀ (x4 : Int32), ∀ (σ : pw_St) (H : Heap) (locs : List Loc) (ls : Array Slot), pw_WH G σ s.heap H locs → lv_has ls 6 [(0, .ref (pw_ad G 10)), (2, .int x2), (3, .int x3), (4, .int x4)] → k15 x2 x3 x4 σ = some (r, τ) → W p l e rm_X11_extreme s m args below meth c H locs 0 0 (MQ below (pw_Qi G r τ) args s 0 0 (pw_gA G)) (F0 m 15 ls [])) {x2 : Int32} {x3 : Int32} {x4 : Int32} {y0 : Int32} {σ : pw_St} {H : Heap} {locs : List Loc} {ls : Array Slot} (hw : pw_WH G σ s.heap H locs) (hl : lv_has ls 6 [(0, .ref (pw_ad G 10)), (2, .int x2), (3, .int x3), (4, .int x4)]) (hf : b_X11_extreme_75 k15 x2 x3 x4 y0 σ = some (r, τ)) : W p l e rm_X11_extreme s m args below meth c H locs 0 0 (MQ below (pw_Qi G r τ) args s 0 0 (pw_gA G)) (F0 m 75 ls [.int y0]) := by
  have hx := hC.1
  have hb := hC.2.1
  unfold b_X11_extreme_75 at hf
  refine lv_iload_n hx hb dX11_extreme_75 rfl (lv_at hl 1 rfl) ?_
  refine lv_icmp_ne (tgt := 82) hx hb dX11_extreme_76 (by decide) (fun hc => ?_) (fun hc => ?_)
  · replace hf := pw_ifn hc hf
    refine lv_iinc (v := (x4 + (1 : Int32))) (lv' := [(4, .int (x4 + (1 : Int32))), (0, .ref (pw_ad G 10)), (2, .int x2), (3, .int x3)]) hx hb dX11_extreme_82 hl (k := 3) rfl rfl (by decide) rfl (fun ls hl => ?_)
    refine lv_goto (tgt := 15) hx hb dX11_extreme_85 (by decide) ?_
    exact hk15 _ _ _ _ _ _ _ hw (lv_sub hl [1, 2, 3, 0] rfl) hf
  · replace hf := pw_ifp hc hf
    exact t_X11_extreme_79 hC hk15  hw (lv_sub hl [0, 1, 3] rfl) hf
set_option maxHeartbeats 4000000 in
set_option maxRecDepth 100000 in
theorem t_X11_extreme_15 (hC : pw_CX G RX11 cX11_extreme 6 (some .int) p s m args meth c) {k15 : Int32 → Int32 → Int32 → pw_St → Option (Int32 × pw_St)} {r : Int32} {τ : pw_St} (hk15 : ∀ (x2 : Int32), ∀ (x3 : Int32), ∀ (x4 : Int32), ∀ (σ : pw_St) (H : Heap) (locs : List Loc) (ls : Array Slot), pw_WH G σ s.heap H locs → lv_has ls 6 [(0, .ref (pw_ad G 10)), (2, .int x2), (3, .int x3), (4, .int x4)] → k15 x2 x3 x4 σ = some (r, τ) → W p l e rm_X11_extreme s m args below meth c H locs 0 0 (MQ below (pw_Qi G r τ) args s 0 0 (pw_gA G)) (F0 m 15 ls [])) {x2 : Int32} {x3 : Int32} {x4 : Int32} {σ : pw_St} {H : Heap} {locs : List Loc} {ls : Array Slot} (hw : pw_WH G σ s.heap H locs) (hl : lv_has ls 6 [(0, .ref (pw_ad G 10)), (2, .int x2), (3, .int x3), (4, .int x4)]) (hf : b_X11_extreme_15 k15 x2 x3 x4 σ = some (r, τ)) : W p l e rm_X11_extreme s m args below meth c H locs 0 0 (MQ below (pw_Qi G r τ) args s 0 0 (pw_gA G)) (F0 m 15 ls []) := by
  have hx := hC.1
  have hb := hC.2.1
  unfold b_X11_extreme_15 at hf
  refine lv_iload hx hb dX11_extreme_15 (lv_at hl 3 rfl) ?_
  refine lv_sipush (v := 2401) hx hb dX11_extreme_17 (by decide) ?_
  refine lv_icmp_ge (tgt := 88) hx hb dX11_extreme_20 (by decide) (fun hc => ?_) (fun hc => ?_)
  · replace hf := pw_ifp hc hf
    refine lv_iload_n hx hb dX11_extreme_88 rfl (lv_at hl 2 rfl) ?_
    exact pw_iret hC hw hf dX11_extreme_89
  · replace hf := pw_ifn hc hf
    refine lv_aload_n hx hb dX11_extreme_23 rfl (lv_at hl 0 rfl) ?_
    refine pg_10_24 hC hw mw_773 dX11_extreme_24 ?_
    refine lv_iload hx hb dX11_extreme_27 (lv_at hl 3 rfl) ?_
    obtain ⟨hin, hf⟩ := pw_gd hf
    refine pw_zld hC hw ca_51 hin dX11_extreme_29 ?_
    refine lv_if_ne (tgt := 36) hx hb dX11_extreme_30 (by decide) (fun hc => ?_) (fun hc => ?_)
    · replace hf := pw_ifn hc hf
      refine lv_sipush (v := 2401) hx hb dX11_extreme_36 (by decide) ?_
      refine lv_iload hx hb dX11_extreme_39 (lv_at hl 3 rfl) ?_
      obtain ⟨r1, σ1, h1, hf⟩ := pw_bi_some hf
      refine pw_ci hw (pw_runS (As := [.int x4]) (rest := [.int (2401 : Int32)]) hC hw (c_X11_sizeOf  h1) mw_915 wm_X11_sizeOf ⟨Nat.zero_le _, Nat.zero_le _⟩ ⟨rfl, rfl, Nat.le_of_ble_eq_true rfl, Nat.le_of_ble_eq_true rfl⟩ rfl hl.1 rfl (Nat.le_of_ble_eq_true rfl) dX11_extreme_41) (fun H locs hw => ?_)
      refine lv_imul hx hb dX11_extreme_44 ?_
      refine lv_iload hx hb dX11_extreme_45 (lv_at hl 3 rfl) ?_
      refine lv_iadd hx hb dX11_extreme_47 ?_
      refine lv_istore (lv' := [(5, .int (((2401 : Int32) * r1) + x4)), (0, .ref (pw_ad G 10)), (2, .int x2), (3, .int x3), (4, .int x4)]) hx hb dX11_extreme_48 hl (by decide) rfl (fun ls hl => ?_)
      refine lv_iload_n hx hb dX11_extreme_50 rfl (lv_at hl 3 rfl) ?_
      refine lv_iconst (v := -1) hx hb dX11_extreme_51 (by decide) ?_
      refine lv_icmp_eq (tgt := 79) hx hb dX11_extreme_52 (by decide) (fun hc => ?_) (fun hc => ?_)
      · replace hf := pw_ifp hc hf
        exact t_X11_extreme_79 hC hk15  hw (lv_sub hl [1, 2, 4] rfl) hf
      · replace hf := pw_ifn hc hf
        refine lv_iload hx hb dX11_extreme_55 (lv_at hl 0 rfl) ?_
        refine lv_sipush (v := 2401) hx hb dX11_extreme_57 (by decide) ?_
        refine lv_iload_n hx hb dX11_extreme_60 rfl (lv_at hl 3 rfl) ?_
        obtain ⟨r2, σ2, h2, hf⟩ := pw_bi_some hf
        refine pw_ci hw (pw_runS (As := [.int x3]) (rest := [.int (2401 : Int32), .int (((2401 : Int32) * r1) + x4)]) hC hw (c_X11_sizeOf  h2) mw_915 wm_X11_sizeOf ⟨Nat.zero_le _, Nat.zero_le _⟩ ⟨rfl, rfl, Nat.le_of_ble_eq_true rfl, Nat.le_of_ble_eq_true rfl⟩ rfl hl.1 rfl (Nat.le_of_ble_eq_true rfl) dX11_extreme_61) (fun H locs hw => ?_)
        refine lv_imul hx hb dX11_extreme_64 ?_
        refine lv_iload_n hx hb dX11_extreme_65 rfl (lv_at hl 3 rfl) ?_
        refine lv_iadd hx hb dX11_extreme_66 ?_
        refine lv_icmp_le (tgt := 74) hx hb dX11_extreme_67 (by decide) (fun hc => ?_) (fun hc => ?_)
        · replace hf := pw_ifp hc hf
          refine lv_iconst (v := 0) hx hb dX11_extreme_74 (by decide) ?_
          exact t_X11_extreme_75 hC hk15  hw (lv_sub hl [1, 2, 3, 4] rfl) hf
        · replace hf := pw_ifn hc hf
          refine lv_iconst (v := 1) hx hb dX11_extreme_70 (by decide) ?_
          refine lv_goto (tgt := 75) hx hb dX11_extreme_71 (by decide) ?_
          exact t_X11_extreme_75 hC hk15  hw (lv_sub hl [1, 2, 3, 4] rfl) hf
    · replace hf := pw_ifp hc hf
      refine lv_goto (tgt := 82) hx hb dX11_extreme_33 (by decide) ?_
      refine lv_iinc (v := (x4 + (1 : Int32))) (lv' := [(4, .int (x4 + (1 : Int32))), (0, .ref (pw_ad G 10)), (2, .int x2), (3, .int x3)]) hx hb dX11_extreme_82 hl (k := 3) rfl rfl (by decide) rfl (fun ls hl => ?_)
      refine lv_goto (tgt := 15) hx hb dX11_extreme_85 (by decide) ?_
      exact hk15 _ _ _ _ _ _ _ hw (lv_sub hl [1, 2, 3, 0] rfl) hf
set_option maxHeartbeats 4000000 in
theorem tl_X11_extreme_15 (hC : pw_CX G RX11 cX11_extreme 6 (some .int) p s m args meth c) {r : Int32} {τ : pw_St} : ∀ (n : Nat) (x2 : Int32) (x3 : Int32) (x4 : Int32) (σ : pw_St) (H : Heap) (locs : List Loc) (ls : Array Slot), pw_WH G σ s.heap H locs → lv_has ls 6 [(0, .ref (pw_ad G 10)), (2, .int x2), (3, .int x3), (4, .int x4)] → l_X11_extreme_15  n x2 x3 x4 σ = some (r, τ) → W p l e rm_X11_extreme s m args below meth c H locs 0 0 (MQ below (pw_Qi G r τ) args s 0 0 (pw_gA G)) (F0 m 15 ls []) := by
  intro n
  induction n with
  | zero => intro x2 x3 x4 σ H locs ls hw hl hf; cases hf
  | succ n ih => intro x2 x3 x4 σ H locs ls hw hl hf; exact t_X11_extreme_15 hC ih  hw hl hf
set_option maxHeartbeats 4000000 in
set_option maxRecDepth 100000 in
theorem c_X11_extreme {l : Launch} {G : pw_Gh} {x1 : Int32} {x2 : Int32} {σ : pw_St} {r : Int32} {τ : pw_St} (hf : f_X11_extreme x1 x2 σ = some (r, τ)) : Met l yX11_extreme (.code yX11_extreme cX11_extreme 6 (some .int) :: pw_BW) rm_X11_extreme (pw_Pc G [.ref (pw_ad G 10), .int x1, .int x2] σ) (pw_Qi G r τ) 0 0 (pw_gA G) := by
  refine pw_met (by decide +kernel) (Nat.le_of_ble_eq_true rfl) ?_
  intro p e s m args below meth c ls hC hw hl
  replace hl : lv_has ls 6 [(0, .ref (pw_ad G 10)), (1, .int x1), (2, .int x2)] := hl
  have hx := hC.1
  have hb := hC.2.1
  unfold f_X11_extreme at hf
  refine lv_aload_n hx hb dX11_extreme_0 rfl (lv_at hl 0 rfl) ?_
  refine lv_iload_n hx hb dX11_extreme_1 rfl (lv_at hl 1 rfl) ?_
  obtain ⟨r1, σ1, h1, hf⟩ := pw_bi_some hf
  refine pw_ci hw (pw_runV (As := [.int x1]) (rest := []) hC hw (c_X11_study  h1) mw_1017 wm_X11_study ⟨Nat.zero_le _, Nat.zero_le _⟩ ⟨rfl, rfl, Nat.le_of_ble_eq_true rfl, Nat.le_of_ble_eq_true rfl⟩ (by decide) rfl rfl rfl hl.1 rfl (Nat.le_of_ble_eq_true rfl) dX11_extreme_2) (fun H locs hw => ?_)
  refine lv_if_ne (tgt := 10) hx hb dX11_extreme_5 (by decide) (fun hc => ?_) (fun hc => ?_)
  · replace hf := pw_ifn hc hf
    refine lv_iconst (v := -1) hx hb dX11_extreme_10 (by decide) ?_
    refine lv_istore_n (lv' := [(3, .int (-1 : Int32)), (0, .ref (pw_ad G 10)), (1, .int x1), (2, .int x2)]) hx hb dX11_extreme_11 rfl hl (by decide) rfl (fun ls hl => ?_)
    refine lv_iconst (v := 0) hx hb dX11_extreme_12 (by decide) ?_
    refine lv_istore (lv' := [(4, .int (0 : Int32)), (3, .int (-1 : Int32)), (0, .ref (pw_ad G 10)), (1, .int x1), (2, .int x2)]) hx hb dX11_extreme_13 hl (by decide) rfl (fun ls hl => ?_)
    exact tl_X11_extreme_15 hC  pw_FU _ _ _ _ _ _ _ hw (lv_sub hl [2, 4, 1, 0] rfl) hf
  · replace hf := pw_ifp hc hf
    refine lv_iconst (v := -1) hx hb dX11_extreme_8 (by decide) ?_
    exact pw_iret hC hw hf dX11_extreme_9
-- PerhapsWasModel may
def f_X11_may (x1 : Int32) (σ : pw_St) : Option (Int32 × pw_St) := (pw_bi (f_X11_extreme x1 (0 : Int32) σ) fun r1 σ1 => (some (r1, σ1)))
def rm_X11_may : Room := { frames := 6, cells := 0, slots := 0, locals := 139 }
set_option maxHeartbeats 4000000 in
set_option maxRecDepth 100000 in
theorem c_X11_may {l : Launch} {G : pw_Gh} {x1 : Int32} {σ : pw_St} {r : Int32} {τ : pw_St} (hf : f_X11_may x1 σ = some (r, τ)) : Met l yX11_may (.code yX11_may cX11_may 2 (some .int) :: pw_BW) rm_X11_may (pw_Pc G [.ref (pw_ad G 10), .int x1] σ) (pw_Qi G r τ) 0 0 (pw_gA G) := by
  refine pw_met (by decide +kernel) (Nat.le_of_ble_eq_true rfl) ?_
  intro p e s m args below meth c ls hC hw hl
  replace hl : lv_has ls 2 [(0, .ref (pw_ad G 10)), (1, .int x1)] := hl
  have hx := hC.1
  have hb := hC.2.1
  unfold f_X11_may at hf
  refine lv_aload_n hx hb dX11_may_0 rfl (lv_at hl 0 rfl) ?_
  refine lv_iload_n hx hb dX11_may_1 rfl (lv_at hl 1 rfl) ?_
  refine lv_iconst (v := 0) hx hb dX11_may_2 (by decide) ?_
  obtain ⟨r1, σ1, h1, hf⟩ := pw_bi_some hf
  refine pw_ci hw (pw_runV (As := [.int x1, .int (0 : Int32)]) (rest := []) hC hw (c_X11_extreme  h1) mw_1013 wm_X11_extreme ⟨Nat.zero_le _, Nat.zero_le _⟩ ⟨rfl, rfl, Nat.le_of_ble_eq_true rfl, Nat.le_of_ble_eq_true rfl⟩ (by decide) rfl rfl rfl hl.1 rfl (Nat.le_of_ble_eq_true rfl) dX11_may_3) (fun H locs hw => ?_)
  exact pw_iret hC hw hf dX11_may_6
-- PerhapsWasModel last
def f_X11_last (x1 : Int32) (σ : pw_St) : Option (Int32 × pw_St) := (pw_bi (f_X11_extreme x1 (1 : Int32) σ) fun r1 σ1 => (some (r1, σ1)))
def rm_X11_last : Room := { frames := 6, cells := 0, slots := 0, locals := 139 }
set_option maxHeartbeats 4000000 in
set_option maxRecDepth 100000 in
theorem c_X11_last {l : Launch} {G : pw_Gh} {x1 : Int32} {σ : pw_St} {r : Int32} {τ : pw_St} (hf : f_X11_last x1 σ = some (r, τ)) : Met l yX11_last (.code yX11_last cX11_last 2 (some .int) :: pw_BW) rm_X11_last (pw_Pc G [.ref (pw_ad G 10), .int x1] σ) (pw_Qi G r τ) 0 0 (pw_gA G) := by
  refine pw_met (by decide +kernel) (Nat.le_of_ble_eq_true rfl) ?_
  intro p e s m args below meth c ls hC hw hl
  replace hl : lv_has ls 2 [(0, .ref (pw_ad G 10)), (1, .int x1)] := hl
  have hx := hC.1
  have hb := hC.2.1
  unfold f_X11_last at hf
  refine lv_aload_n hx hb dX11_last_0 rfl (lv_at hl 0 rfl) ?_
  refine lv_iload_n hx hb dX11_last_1 rfl (lv_at hl 1 rfl) ?_
  refine lv_iconst (v := 1) hx hb dX11_last_2 (by decide) ?_
  obtain ⟨r1, σ1, h1, hf⟩ := pw_bi_some hf
  refine pw_ci hw (pw_runV (As := [.int x1, .int (1 : Int32)]) (rest := []) hC hw (c_X11_extreme  h1) mw_1013 wm_X11_extreme ⟨Nat.zero_le _, Nat.zero_le _⟩ ⟨rfl, rfl, Nat.le_of_ble_eq_true rfl, Nat.le_of_ble_eq_true rfl⟩ (by decide) rfl rfl rfl hl.1 rfl (Nat.le_of_ble_eq_true rfl) dX11_last_3) (fun H locs hw => ?_)
  exact pw_iret hC hw hf dX11_last_6
-- PerhapsWasModel many
def b_X11_many_36 (k14 : Int32 → Int32 → pw_St → Option (Int32 × pw_St)) (x3 : Int32) (y0 : Int32) (y1 : Int32) (σ : pw_St) : Option (Int32 × pw_St) := (k14 (y1 + y0) (x3 + (1 : Int32)) σ)
def b_X11_many_14 (k14 : Int32 → Int32 → pw_St → Option (Int32 × pw_St)) (x2 : Int32) (x3 : Int32) (σ : pw_St) : Option (Int32 × pw_St) := (if (2401 : Int32) ≤ x3 then (some (x2, σ)) else (if pw_in x3 2401 = true then (if (σ.1 51 x3.toNatClampNeg) = 0 then (b_X11_many_36 k14 x3 (0 : Int32) x2 σ) else (b_X11_many_36 k14 x3 (1 : Int32) x2 σ)) else none))
def l_X11_many_14 : Nat → Int32 → Int32 → pw_St → Option (Int32 × pw_St)
  | 0 => fun _ _ _ => none
  | n + 1 => fun x2 x3 σ => b_X11_many_14  (l_X11_many_14  n) x2 x3 σ
def f_X11_many (x1 : Int32) (σ : pw_St) : Option (Int32 × pw_St) := (pw_bi (f_X11_study x1 σ) fun r1 σ1 => (if r1 = 0 then (some ((-1 : Int32), σ1)) else (l_X11_many_14  pw_FU (0 : Int32) (0 : Int32) σ1)))
def rm_X11_many : Room := { frames := 5, cells := 0, slots := 0, locals := 114 }
set_option maxHeartbeats 4000000 in
set_option maxRecDepth 100000 in
theorem t_X11_many_36 (hC : pw_CX G RX11 cX11_many 4 (some .int) p s m args meth c) {k14 : Int32 → Int32 → pw_St → Option (Int32 × pw_St)} {r : Int32} {τ : pw_St} (hk14 : ∀ (x2 : Int32), ∀ (x3 : Int32), ∀ (σ : pw_St) (H : Heap) (locs : List Loc) (ls : Array Slot), pw_WH G σ s.heap H locs → lv_has ls 4 [(0, .ref (pw_ad G 10)), (2, .int x2), (3, .int x3)] → k14 x2 x3 σ = some (r, τ) → W p l e rm_X11_many s m args below meth c H locs 0 0 (MQ below (pw_Qi G r τ) args s 0 0 (pw_gA G)) (F0 m 14 ls [])) {x3 : Int32} {y0 : Int32} {y1 : Int32} {σ : pw_St} {H : Heap} {locs : List Loc} {ls : Array Slot} (hw : pw_WH G σ s.heap H locs) (hl : lv_has ls 4 [(0, .ref (pw_ad G 10)), (3, .int x3)]) (hf : b_X11_many_36 k14 x3 y0 y1 σ = some (r, τ)) : W p l e rm_X11_many s m args below meth c H locs 0 0 (MQ below (pw_Qi G r τ) args s 0 0 (pw_gA G)) (F0 m 36 ls [.int y0, .int y1]) := by
  have hx := hC.1
  have hb := hC.2.1
  unfold b_X11_many_36 at hf
  refine lv_iadd hx hb dX11_many_36 ?_
  refine lv_istore_n (lv' := [(2, .int (y1 + y0)), (0, .ref (pw_ad G 10)), (3, .int x3)]) hx hb dX11_many_37 rfl hl (by decide) rfl (fun ls hl => ?_)
  refine lv_iinc (v := (x3 + (1 : Int32))) (lv' := [(3, .int (x3 + (1 : Int32))), (2, .int (y1 + y0)), (0, .ref (pw_ad G 10))]) hx hb dX11_many_38 hl (k := 2) rfl rfl (by decide) rfl (fun ls hl => ?_)
  refine lv_goto (tgt := 14) hx hb dX11_many_41 (by decide) ?_
  exact hk14 _ _ _ _ _ _ hw (lv_sub hl [2, 1, 0] rfl) hf
set_option maxHeartbeats 4000000 in
set_option maxRecDepth 100000 in
theorem t_X11_many_14 (hC : pw_CX G RX11 cX11_many 4 (some .int) p s m args meth c) {k14 : Int32 → Int32 → pw_St → Option (Int32 × pw_St)} {r : Int32} {τ : pw_St} (hk14 : ∀ (x2 : Int32), ∀ (x3 : Int32), ∀ (σ : pw_St) (H : Heap) (locs : List Loc) (ls : Array Slot), pw_WH G σ s.heap H locs → lv_has ls 4 [(0, .ref (pw_ad G 10)), (2, .int x2), (3, .int x3)] → k14 x2 x3 σ = some (r, τ) → W p l e rm_X11_many s m args below meth c H locs 0 0 (MQ below (pw_Qi G r τ) args s 0 0 (pw_gA G)) (F0 m 14 ls [])) {x2 : Int32} {x3 : Int32} {σ : pw_St} {H : Heap} {locs : List Loc} {ls : Array Slot} (hw : pw_WH G σ s.heap H locs) (hl : lv_has ls 4 [(0, .ref (pw_ad G 10)), (2, .int x2), (3, .int x3)]) (hf : b_X11_many_14 k14 x2 x3 σ = some (r, τ)) : W p l e rm_X11_many s m args below meth c H locs 0 0 (MQ below (pw_Qi G r τ) args s 0 0 (pw_gA G)) (F0 m 14 ls []) := by
  have hx := hC.1
  have hb := hC.2.1
  unfold b_X11_many_14 at hf
  refine lv_iload_n hx hb dX11_many_14 rfl (lv_at hl 2 rfl) ?_
  refine lv_sipush (v := 2401) hx hb dX11_many_15 (by decide) ?_
  refine lv_icmp_ge (tgt := 44) hx hb dX11_many_18 (by decide) (fun hc => ?_) (fun hc => ?_)
  · replace hf := pw_ifp hc hf
    refine lv_iload_n hx hb dX11_many_44 rfl (lv_at hl 1 rfl) ?_
    exact pw_iret hC hw hf dX11_many_45
  · replace hf := pw_ifn hc hf
    refine lv_iload_n hx hb dX11_many_21 rfl (lv_at hl 1 rfl) ?_
    refine lv_aload_n hx hb dX11_many_22 rfl (lv_at hl 0 rfl) ?_
    refine pg_10_24 hC hw mw_773 dX11_many_23 ?_
    refine lv_iload_n hx hb dX11_many_26 rfl (lv_at hl 2 rfl) ?_
    obtain ⟨hin, hf⟩ := pw_gd hf
    refine pw_zld hC hw ca_51 hin dX11_many_27 ?_
    refine lv_if_eq (tgt := 35) hx hb dX11_many_28 (by decide) (fun hc => ?_) (fun hc => ?_)
    · replace hf := pw_ifp hc hf
      refine lv_iconst (v := 0) hx hb dX11_many_35 (by decide) ?_
      exact t_X11_many_36 hC hk14  hw (lv_sub hl [0, 2] rfl) hf
    · replace hf := pw_ifn hc hf
      refine lv_iconst (v := 1) hx hb dX11_many_31 (by decide) ?_
      refine lv_goto (tgt := 36) hx hb dX11_many_32 (by decide) ?_
      exact t_X11_many_36 hC hk14  hw (lv_sub hl [0, 2] rfl) hf
set_option maxHeartbeats 4000000 in
theorem tl_X11_many_14 (hC : pw_CX G RX11 cX11_many 4 (some .int) p s m args meth c) {r : Int32} {τ : pw_St} : ∀ (n : Nat) (x2 : Int32) (x3 : Int32) (σ : pw_St) (H : Heap) (locs : List Loc) (ls : Array Slot), pw_WH G σ s.heap H locs → lv_has ls 4 [(0, .ref (pw_ad G 10)), (2, .int x2), (3, .int x3)] → l_X11_many_14  n x2 x3 σ = some (r, τ) → W p l e rm_X11_many s m args below meth c H locs 0 0 (MQ below (pw_Qi G r τ) args s 0 0 (pw_gA G)) (F0 m 14 ls []) := by
  intro n
  induction n with
  | zero => intro x2 x3 σ H locs ls hw hl hf; cases hf
  | succ n ih => intro x2 x3 σ H locs ls hw hl hf; exact t_X11_many_14 hC ih  hw hl hf
set_option maxHeartbeats 4000000 in
set_option maxRecDepth 100000 in
theorem c_X11_many {l : Launch} {G : pw_Gh} {x1 : Int32} {σ : pw_St} {r : Int32} {τ : pw_St} (hf : f_X11_many x1 σ = some (r, τ)) : Met l yX11_many (.code yX11_many cX11_many 4 (some .int) :: pw_BW) rm_X11_many (pw_Pc G [.ref (pw_ad G 10), .int x1] σ) (pw_Qi G r τ) 0 0 (pw_gA G) := by
  refine pw_met (by decide +kernel) (Nat.le_of_ble_eq_true rfl) ?_
  intro p e s m args below meth c ls hC hw hl
  replace hl : lv_has ls 4 [(0, .ref (pw_ad G 10)), (1, .int x1)] := hl
  have hx := hC.1
  have hb := hC.2.1
  unfold f_X11_many at hf
  refine lv_aload_n hx hb dX11_many_0 rfl (lv_at hl 0 rfl) ?_
  refine lv_iload_n hx hb dX11_many_1 rfl (lv_at hl 1 rfl) ?_
  obtain ⟨r1, σ1, h1, hf⟩ := pw_bi_some hf
  refine pw_ci hw (pw_runV (As := [.int x1]) (rest := []) hC hw (c_X11_study  h1) mw_1017 wm_X11_study ⟨Nat.zero_le _, Nat.zero_le _⟩ ⟨rfl, rfl, Nat.le_of_ble_eq_true rfl, Nat.le_of_ble_eq_true rfl⟩ (by decide) rfl rfl rfl hl.1 rfl (Nat.le_of_ble_eq_true rfl) dX11_many_2) (fun H locs hw => ?_)
  refine lv_if_ne (tgt := 10) hx hb dX11_many_5 (by decide) (fun hc => ?_) (fun hc => ?_)
  · replace hf := pw_ifn hc hf
    refine lv_iconst (v := 0) hx hb dX11_many_10 (by decide) ?_
    refine lv_istore_n (lv' := [(2, .int (0 : Int32)), (0, .ref (pw_ad G 10)), (1, .int x1)]) hx hb dX11_many_11 rfl hl (by decide) rfl (fun ls hl => ?_)
    refine lv_iconst (v := 0) hx hb dX11_many_12 (by decide) ?_
    refine lv_istore_n (lv' := [(3, .int (0 : Int32)), (2, .int (0 : Int32)), (0, .ref (pw_ad G 10)), (1, .int x1)]) hx hb dX11_many_13 rfl hl (by decide) rfl (fun ls hl => ?_)
    exact tl_X11_many_14 hC  pw_FU _ _ _ _ _ _ hw (lv_sub hl [2, 1, 0] rfl) hf
  · replace hf := pw_ifp hc hf
    refine lv_iconst (v := -1) hx hb dX11_many_8 (by decide) ?_
    exact pw_iret hC hw hf dX11_many_9
-- PerhapsWasModel bars
def b_X11_bars_37 (σ : pw_St) : Option (Int32 × pw_St) := (pw_bv (f_X11_count σ) fun σ1 => (if pw_isb (1 : Int32) = true then some ((1 : Int32), σ1) else none))
def b_X11_bars_12 (k12 : Int32 → pw_St → Option (Int32 × pw_St)) (x2 : Int32) (σ : pw_St) : Option (Int32 × pw_St) := (if (2401 : Int32) ≤ x2 then (b_X11_bars_37  σ) else (if pw_in x2 2401 = true then (if pw_in x2 2401 = true then (pw_lt (pw_sM σ 44 x2.toNatClampNeg (vp_nar .boolean (σ.1 51 x2.toNatClampNeg))) fun σ1 => (k12 (x2 + (1 : Int32)) σ1)) else none) else none))
def l_X11_bars_12 : Nat → Int32 → pw_St → Option (Int32 × pw_St)
  | 0 => fun _ _ => none
  | n + 1 => fun x2 σ => b_X11_bars_12  (l_X11_bars_12  n) x2 σ
def f_X11_bars (x1 : Int32) (σ : pw_St) : Option (Int32 × pw_St) := (pw_bi (f_X11_study x1 σ) fun r1 σ1 => (if r1 = 0 then (if pw_isb (0 : Int32) = true then some ((0 : Int32), σ1) else none) else (l_X11_bars_12  pw_FU (0 : Int32) σ1)))
def rm_X11_bars : Room := { frames := 5, cells := 0, slots := 0, locals := 114 }
set_option maxHeartbeats 4000000 in
set_option maxRecDepth 100000 in
theorem t_X11_bars_37 (hC : pw_CX G RX11 cX11_bars 3 (some .boolean) p s m args meth c) {r : Int32} {τ : pw_St} {σ : pw_St} {H : Heap} {locs : List Loc} {ls : Array Slot} (hw : pw_WH G σ s.heap H locs) (hl : lv_has ls 3 [(0, .ref (pw_ad G 10))]) (hf : b_X11_bars_37 σ = some (r, τ)) : W p l e rm_X11_bars s m args below meth c H locs 0 0 (MQ below (pw_Qi G r τ) args s 0 0 (pw_gA G)) (F0 m 37 ls []) := by
  have hx := hC.1
  have hb := hC.2.1
  unfold b_X11_bars_37 at hf
  refine lv_aload_n hx hb dX11_bars_37 rfl (lv_at hl 0 rfl) ?_
  obtain ⟨σ1, h1, hf⟩ := pw_bv_some hf
  refine pw_cv hw (pw_runV (As := []) (rest := []) hC hw (c_X11_count  h1) mw_941 wm_X11_count ⟨Nat.zero_le _, Nat.zero_le _⟩ ⟨rfl, rfl, Nat.le_of_ble_eq_true rfl, Nat.le_of_ble_eq_true rfl⟩ (by decide) rfl rfl rfl hl.1 rfl (Nat.le_of_ble_eq_true rfl) dX11_bars_38) (fun H locs hw => ?_)
  refine lv_iconst (v := 1) hx hb dX11_bars_41 (by decide) ?_
  exact pw_zret hC hw hf dX11_bars_42
set_option maxHeartbeats 4000000 in
set_option maxRecDepth 100000 in
theorem t_X11_bars_12 (hC : pw_CX G RX11 cX11_bars 3 (some .boolean) p s m args meth c) {k12 : Int32 → pw_St → Option (Int32 × pw_St)} {r : Int32} {τ : pw_St} (hk12 : ∀ (x2 : Int32), ∀ (σ : pw_St) (H : Heap) (locs : List Loc) (ls : Array Slot), pw_WH G σ s.heap H locs → lv_has ls 3 [(0, .ref (pw_ad G 10)), (2, .int x2)] → k12 x2 σ = some (r, τ) → W p l e rm_X11_bars s m args below meth c H locs 0 0 (MQ below (pw_Qi G r τ) args s 0 0 (pw_gA G)) (F0 m 12 ls [])) {x2 : Int32} {σ : pw_St} {H : Heap} {locs : List Loc} {ls : Array Slot} (hw : pw_WH G σ s.heap H locs) (hl : lv_has ls 3 [(0, .ref (pw_ad G 10)), (2, .int x2)]) (hf : b_X11_bars_12 k12 x2 σ = some (r, τ)) : W p l e rm_X11_bars s m args below meth c H locs 0 0 (MQ below (pw_Qi G r τ) args s 0 0 (pw_gA G)) (F0 m 12 ls []) := by
  have hx := hC.1
  have hb := hC.2.1
  unfold b_X11_bars_12 at hf
  refine lv_iload_n hx hb dX11_bars_12 rfl (lv_at hl 1 rfl) ?_
  refine lv_sipush (v := 2401) hx hb dX11_bars_13 (by decide) ?_
  refine lv_icmp_ge (tgt := 37) hx hb dX11_bars_16 (by decide) (fun hc => ?_) (fun hc => ?_)
  · replace hf := pw_ifp hc hf
    exact t_X11_bars_37 hC   hw (lv_sub hl [0] rfl) hf
  · replace hf := pw_ifn hc hf
    refine lv_aload_n hx hb dX11_bars_19 rfl (lv_at hl 0 rfl) ?_
    refine pg_10_14 hC hw mw_763 dX11_bars_20 ?_
    refine lv_iload_n hx hb dX11_bars_23 rfl (lv_at hl 1 rfl) ?_
    refine lv_aload_n hx hb dX11_bars_24 rfl (lv_at hl 0 rfl) ?_
    refine pg_10_24 hC hw mw_773 dX11_bars_25 ?_
    refine lv_iload_n hx hb dX11_bars_28 rfl (lv_at hl 1 rfl) ?_
    obtain ⟨hin, hf⟩ := pw_gd hf
    refine pw_zld hC hw ca_51 hin dX11_bars_29 ?_
    obtain ⟨hin, hf⟩ := pw_gd hf
    refine pw_zst hC hw ca_44 hin dX11_bars_30 (fun H locs hw => ?_)
    obtain ⟨σ1, e1, hf⟩ := pw_lts hf
    replace hw := pw_WHe e1 hw
    refine lv_iinc (v := (x2 + (1 : Int32))) (lv' := [(2, .int (x2 + (1 : Int32))), (0, .ref (pw_ad G 10))]) hx hb dX11_bars_31 hl (k := 1) rfl rfl (by decide) rfl (fun ls hl => ?_)
    refine lv_goto (tgt := 12) hx hb dX11_bars_34 (by decide) ?_
    exact hk12 _ _ _ _ _ hw (lv_sub hl [1, 0] rfl) hf
set_option maxHeartbeats 4000000 in
theorem tl_X11_bars_12 (hC : pw_CX G RX11 cX11_bars 3 (some .boolean) p s m args meth c) {r : Int32} {τ : pw_St} : ∀ (n : Nat) (x2 : Int32) (σ : pw_St) (H : Heap) (locs : List Loc) (ls : Array Slot), pw_WH G σ s.heap H locs → lv_has ls 3 [(0, .ref (pw_ad G 10)), (2, .int x2)] → l_X11_bars_12  n x2 σ = some (r, τ) → W p l e rm_X11_bars s m args below meth c H locs 0 0 (MQ below (pw_Qi G r τ) args s 0 0 (pw_gA G)) (F0 m 12 ls []) := by
  intro n
  induction n with
  | zero => intro x2 σ H locs ls hw hl hf; cases hf
  | succ n ih => intro x2 σ H locs ls hw hl hf; exact t_X11_bars_12 hC ih  hw hl hf
set_option maxHeartbeats 4000000 in
set_option maxRecDepth 100000 in
theorem c_X11_bars {l : Launch} {G : pw_Gh} {x1 : Int32} {σ : pw_St} {r : Int32} {τ : pw_St} (hf : f_X11_bars x1 σ = some (r, τ)) : Met l yX11_bars (.code yX11_bars cX11_bars 3 (some .boolean) :: pw_BW) rm_X11_bars (pw_Pc G [.ref (pw_ad G 10), .int x1] σ) (pw_Qi G r τ) 0 0 (pw_gA G) := by
  refine pw_met (by decide +kernel) (Nat.le_of_ble_eq_true rfl) ?_
  intro p e s m args below meth c ls hC hw hl
  replace hl : lv_has ls 3 [(0, .ref (pw_ad G 10)), (1, .int x1)] := hl
  have hx := hC.1
  have hb := hC.2.1
  unfold f_X11_bars at hf
  refine lv_aload_n hx hb dX11_bars_0 rfl (lv_at hl 0 rfl) ?_
  refine lv_iload_n hx hb dX11_bars_1 rfl (lv_at hl 1 rfl) ?_
  obtain ⟨r1, σ1, h1, hf⟩ := pw_bi_some hf
  refine pw_ci hw (pw_runV (As := [.int x1]) (rest := []) hC hw (c_X11_study  h1) mw_1017 wm_X11_study ⟨Nat.zero_le _, Nat.zero_le _⟩ ⟨rfl, rfl, Nat.le_of_ble_eq_true rfl, Nat.le_of_ble_eq_true rfl⟩ (by decide) rfl rfl rfl hl.1 rfl (Nat.le_of_ble_eq_true rfl) dX11_bars_2) (fun H locs hw => ?_)
  refine lv_if_ne (tgt := 10) hx hb dX11_bars_5 (by decide) (fun hc => ?_) (fun hc => ?_)
  · replace hf := pw_ifn hc hf
    refine lv_iconst (v := 0) hx hb dX11_bars_10 (by decide) ?_
    refine lv_istore_n (lv' := [(2, .int (0 : Int32)), (0, .ref (pw_ad G 10)), (1, .int x1)]) hx hb dX11_bars_11 rfl hl (by decide) rfl (fun ls hl => ?_)
    exact tl_X11_bars_12 hC  pw_FU _ _ _ _ _ hw (lv_sub hl [1, 0] rfl) hf
  · replace hf := pw_ifp hc hf
    refine lv_iconst (v := 0) hx hb dX11_bars_8 (by decide) ?_
    exact pw_zret hC hw hf dX11_bars_9
-- PerhapsWasModel sure
def f_X11_sure (x1 : Int32) (σ : pw_St) : Option (Int32 × pw_St) := (pw_bi (f_X11_bars x1 σ) fun r1 σ1 => (if r1 = 0 then (some ((-1 : Int32), σ1)) else (if pw_in (0 : Int32) 2401 = true then (if (lg_cmp (σ1.2 45 (0 : Int32).toNatClampNeg) (0 : Int64)) = 0 then (some ((1 : Int32), σ1)) else (some ((0 : Int32), σ1))) else none)))
def rm_X11_sure : Room := { frames := 6, cells := 0, slots := 0, locals := 136 }
set_option maxHeartbeats 4000000 in
set_option maxRecDepth 100000 in
theorem c_X11_sure {l : Launch} {G : pw_Gh} {x1 : Int32} {σ : pw_St} {r : Int32} {τ : pw_St} (hf : f_X11_sure x1 σ = some (r, τ)) : Met l yX11_sure (.code yX11_sure cX11_sure 2 (some .int) :: pw_BW) rm_X11_sure (pw_Pc G [.ref (pw_ad G 10), .int x1] σ) (pw_Qi G r τ) 0 0 (pw_gA G) := by
  refine pw_met (by decide +kernel) (Nat.le_of_ble_eq_true rfl) ?_
  intro p e s m args below meth c ls hC hw hl
  replace hl : lv_has ls 2 [(0, .ref (pw_ad G 10)), (1, .int x1)] := hl
  have hx := hC.1
  have hb := hC.2.1
  unfold f_X11_sure at hf
  refine lv_aload_n hx hb dX11_sure_0 rfl (lv_at hl 0 rfl) ?_
  refine lv_iload_n hx hb dX11_sure_1 rfl (lv_at hl 1 rfl) ?_
  obtain ⟨r1, σ1, h1, hf⟩ := pw_bi_some hf
  refine pw_ci hw (pw_runV (As := [.int x1]) (rest := []) hC hw (c_X11_bars  h1) mw_1033 wm_X11_bars ⟨Nat.zero_le _, Nat.zero_le _⟩ ⟨rfl, rfl, Nat.le_of_ble_eq_true rfl, Nat.le_of_ble_eq_true rfl⟩ (by decide) rfl rfl rfl hl.1 rfl (Nat.le_of_ble_eq_true rfl) dX11_sure_2) (fun H locs hw => ?_)
  refine lv_if_ne (tgt := 12) hx hb dX11_sure_5 (by decide) (fun hc => ?_) (fun hc => ?_)
  · replace hf := pw_ifn hc hf
    refine lv_aload_n hx hb dX11_sure_12 rfl (lv_at hl 0 rfl) ?_
    refine pg_10_15 hC hw mw_764 dX11_sure_13 ?_
    refine lv_iconst (v := 0) hx hb dX11_sure_16 (by decide) ?_
    obtain ⟨hin, hf⟩ := pw_gd hf
    refine pw_lld hC hw ca_45 hin dX11_sure_17 ?_
    refine lv_lconst (v := 0) hx hb dX11_sure_18 (by decide) ?_
    refine W.lcmp hx hb dX11_sure_19 ?_
    refine lv_if_ne (tgt := 27) hx hb dX11_sure_20 (by decide) (fun hc => ?_) (fun hc => ?_)
    · replace hf := pw_ifn hc hf
      refine lv_iconst (v := 0) hx hb dX11_sure_27 (by decide) ?_
      exact pw_iret hC hw hf dX11_sure_28
    · replace hf := pw_ifp hc hf
      refine lv_iconst (v := 1) hx hb dX11_sure_23 (by decide) ?_
      refine lv_goto (tgt := 28) hx hb dX11_sure_24 (by decide) ?_
      exact pw_iret hC hw hf dX11_sure_28
  · replace hf := pw_ifp hc hf
    refine lv_iconst (v := -1) hx hb dX11_sure_8 (by decide) ?_
    refine lv_goto (tgt := 28) hx hb dX11_sure_9 (by decide) ?_
    exact pw_iret hC hw hf dX11_sure_28
-- PerhapsWasModel avoid
def f_X11_avoid (x1 : Int32) (x2 : Int32) (σ : pw_St) : Option (Int32 × pw_St) := (pw_bi (f_X11_bars x1 σ) fun r1 σ1 => (if r1 = 0 then (some ((-1 : Int32), σ1)) else (if pw_in (0 : Int32) 2401 = true then (if (lg_cmp (σ1.2 45 (0 : Int32).toNatClampNeg) (0 : Int64)) = 0 then (some ((-1 : Int32), σ1)) else (pw_bi (f_X11_in x2 (0 : Int32) ((σ1.1 10 8) - (1 : Int32)) σ1) fun r2 σ2 => (if r2 = 0 then (some ((-1 : Int32), σ2)) else (pw_bi (f_X11_walk (0 : Int64) x2 σ2) fun r3 σ3 => (some (r3, σ3)))))) else none)))
def rm_X11_avoid : Room := { frames := 6, cells := 0, slots := 0, locals := 136 }
set_option maxHeartbeats 4000000 in
set_option maxRecDepth 100000 in
theorem c_X11_avoid {l : Launch} {G : pw_Gh} {x1 : Int32} {x2 : Int32} {σ : pw_St} {r : Int32} {τ : pw_St} (hf : f_X11_avoid x1 x2 σ = some (r, τ)) : Met l yX11_avoid (.code yX11_avoid cX11_avoid 3 (some .int) :: pw_BW) rm_X11_avoid (pw_Pc G [.ref (pw_ad G 10), .int x1, .int x2] σ) (pw_Qi G r τ) 0 0 (pw_gA G) := by
  refine pw_met (by decide +kernel) (Nat.le_of_ble_eq_true rfl) ?_
  intro p e s m args below meth c ls hC hw hl
  replace hl : lv_has ls 3 [(0, .ref (pw_ad G 10)), (1, .int x1), (2, .int x2)] := hl
  have hx := hC.1
  have hb := hC.2.1
  unfold f_X11_avoid at hf
  refine lv_aload_n hx hb dX11_avoid_0 rfl (lv_at hl 0 rfl) ?_
  refine lv_iload_n hx hb dX11_avoid_1 rfl (lv_at hl 1 rfl) ?_
  obtain ⟨r1, σ1, h1, hf⟩ := pw_bi_some hf
  refine pw_ci hw (pw_runV (As := [.int x1]) (rest := []) hC hw (c_X11_bars  h1) mw_1033 wm_X11_bars ⟨Nat.zero_le _, Nat.zero_le _⟩ ⟨rfl, rfl, Nat.le_of_ble_eq_true rfl, Nat.le_of_ble_eq_true rfl⟩ (by decide) rfl rfl rfl hl.1 rfl (Nat.le_of_ble_eq_true rfl) dX11_avoid_2) (fun H locs hw => ?_)
  refine lv_if_eq (tgt := 33) hx hb dX11_avoid_5 (by decide) (fun hc => ?_) (fun hc => ?_)
  · replace hf := pw_ifp hc hf
    refine lv_iconst (v := -1) hx hb dX11_avoid_33 (by decide) ?_
    exact pw_iret hC hw hf dX11_avoid_34
  · replace hf := pw_ifn hc hf
    refine lv_aload_n hx hb dX11_avoid_8 rfl (lv_at hl 0 rfl) ?_
    refine pg_10_15 hC hw mw_764 dX11_avoid_9 ?_
    refine lv_iconst (v := 0) hx hb dX11_avoid_12 (by decide) ?_
    obtain ⟨hin, hf⟩ := pw_gd hf
    refine pw_lld hC hw ca_45 hin dX11_avoid_13 ?_
    refine lv_lconst (v := 0) hx hb dX11_avoid_14 (by decide) ?_
    refine W.lcmp hx hb dX11_avoid_15 ?_
    refine lv_if_eq (tgt := 33) hx hb dX11_avoid_16 (by decide) (fun hc => ?_) (fun hc => ?_)
    · replace hf := pw_ifp hc hf
      refine lv_iconst (v := -1) hx hb dX11_avoid_33 (by decide) ?_
      exact pw_iret hC hw hf dX11_avoid_34
    · replace hf := pw_ifn hc hf
      refine lv_iload_n hx hb dX11_avoid_19 rfl (lv_at hl 2 rfl) ?_
      refine lv_iconst (v := 0) hx hb dX11_avoid_20 (by decide) ?_
      refine lv_aload_n hx hb dX11_avoid_21 rfl (lv_at hl 0 rfl) ?_
      refine pg_10_8 hC hw mw_757 dX11_avoid_22 ?_
      refine lv_iconst (v := 1) hx hb dX11_avoid_25 (by decide) ?_
      refine lv_isub hx hb dX11_avoid_26 ?_
      obtain ⟨r2, σ2, h2, hf⟩ := pw_bi_some hf
      refine pw_ci hw (pw_runS (As := [.int x2, .int (0 : Int32), .int ((σ1.1 10 8) - (1 : Int32))]) (rest := []) hC hw (c_X11_in  h2) mw_846 wm_X11_in ⟨Nat.zero_le _, Nat.zero_le _⟩ ⟨rfl, rfl, Nat.le_of_ble_eq_true rfl, Nat.le_of_ble_eq_true rfl⟩ rfl hl.1 rfl (Nat.le_of_ble_eq_true rfl) dX11_avoid_27) (fun H locs hw => ?_)
      refine lv_if_ne (tgt := 35) hx hb dX11_avoid_30 (by decide) (fun hc => ?_) (fun hc => ?_)
      · replace hf := pw_ifn hc hf
        refine lv_aload_n hx hb dX11_avoid_35 rfl (lv_at hl 0 rfl) ?_
        refine lv_lconst (v := 0) hx hb dX11_avoid_36 (by decide) ?_
        refine lv_iload_n hx hb dX11_avoid_37 rfl (lv_at hl 2 rfl) ?_
        obtain ⟨r3, σ3, h3, hf⟩ := pw_bi_some hf
        refine pw_ci hw (pw_runV (As := [.long (0 : Int64), .int x2]) (rest := []) hC hw (c_X11_walk  h3) mw_954 wm_X11_walk ⟨Nat.zero_le _, Nat.zero_le _⟩ ⟨rfl, rfl, Nat.le_of_ble_eq_true rfl, Nat.le_of_ble_eq_true rfl⟩ (by decide) rfl rfl rfl hl.1 rfl (Nat.le_of_ble_eq_true rfl) dX11_avoid_38) (fun H locs hw => ?_)
        exact pw_iret hC hw hf dX11_avoid_41
      · replace hf := pw_ifp hc hf
        refine lv_iconst (v := -1) hx hb dX11_avoid_33 (by decide) ?_
        exact pw_iret hC hw hf dX11_avoid_34
-- PerhapsWasModel avoids
def f_X11_avoids (x1 : Int32) (σ : pw_St) : Option (Int64 × pw_St) := (pw_bi (f_X11_bars x1 σ) fun r1 σ1 => (if r1 = 0 then (some ((-1 : Int64), σ1)) else (if pw_in (0 : Int32) 2401 = true then (some ((σ1.2 45 (0 : Int32).toNatClampNeg), σ1)) else none)))
def rm_X11_avoids : Room := { frames := 6, cells := 0, slots := 0, locals := 136 }
set_option maxHeartbeats 4000000 in
set_option maxRecDepth 100000 in
theorem c_X11_avoids {l : Launch} {G : pw_Gh} {x1 : Int32} {σ : pw_St} {r : Int64} {τ : pw_St} (hf : f_X11_avoids x1 σ = some (r, τ)) : Met l yX11_avoids (.code yX11_avoids cX11_avoids 2 (some .long) :: pw_BW) rm_X11_avoids (pw_Pc G [.ref (pw_ad G 10), .int x1] σ) (pw_Ql G r τ) 0 0 (pw_gA G) := by
  refine pw_met (by decide +kernel) (Nat.le_of_ble_eq_true rfl) ?_
  intro p e s m args below meth c ls hC hw hl
  replace hl : lv_has ls 2 [(0, .ref (pw_ad G 10)), (1, .int x1)] := hl
  have hx := hC.1
  have hb := hC.2.1
  unfold f_X11_avoids at hf
  refine lv_aload_n hx hb dX11_avoids_0 rfl (lv_at hl 0 rfl) ?_
  refine lv_iload_n hx hb dX11_avoids_1 rfl (lv_at hl 1 rfl) ?_
  obtain ⟨r1, σ1, h1, hf⟩ := pw_bi_some hf
  refine pw_ci hw (pw_runV (As := [.int x1]) (rest := []) hC hw (c_X11_bars  h1) mw_1033 wm_X11_bars ⟨Nat.zero_le _, Nat.zero_le _⟩ ⟨rfl, rfl, Nat.le_of_ble_eq_true rfl, Nat.le_of_ble_eq_true rfl⟩ (by decide) rfl rfl rfl hl.1 rfl (Nat.le_of_ble_eq_true rfl) dX11_avoids_2) (fun H locs hw => ?_)
  refine lv_if_eq (tgt := 17) hx hb dX11_avoids_5 (by decide) (fun hc => ?_) (fun hc => ?_)
  · replace hf := pw_ifp hc hf
    refine lv_ldc2 hx hb hC.2.2.2.1 (hC.2.2.2.2.1 _ mw_1045) dX11_avoids_17 ?_
    exact pw_lret hC hw hf dX11_avoids_20
  · replace hf := pw_ifn hc hf
    refine lv_aload_n hx hb dX11_avoids_8 rfl (lv_at hl 0 rfl) ?_
    refine pg_10_15 hC hw mw_764 dX11_avoids_9 ?_
    refine lv_iconst (v := 0) hx hb dX11_avoids_12 (by decide) ?_
    obtain ⟨hin, hf⟩ := pw_gd hf
    refine pw_lld hC hw ca_45 hin dX11_avoids_13 ?_
    refine lv_goto (tgt := 20) hx hb dX11_avoids_14 (by decide) ?_
    exact pw_lret hC hw hf dX11_avoids_20
-- PerhapsWasModel isKept
def b_X11_isKept_11 (k2 : Int32 → pw_St → Option (Int32 × pw_St)) (k11 : Int32 → Int32 → pw_St → Option (Int32 × pw_St)) (x1 : Int32) (x2 : Int32) (σ : pw_St) : Option (Int32 × pw_St) := (if (σ.1 10 1) ≤ x2 then (k2 (x1 + (1 : Int32)) σ) else (if pw_in x1 2401 = true then (if (σ.1 51 x1.toNatClampNeg) = 0 then (k2 (x1 + (1 : Int32)) σ) else (pw_bi (f_X11_part x1 x2 σ) fun r1 σ1 => (if pw_in x2 4 = true then (if (σ1.1 34 x2.toNatClampNeg) ≤ r1 then (k11 x1 (x2 + (1 : Int32)) σ1) else (pw_bi (f_X11_unit x2 σ1) fun r2 σ2 => (pw_bi (f_X11_isPossible (x1 + r2) σ2) fun r3 σ3 => (if r3 = 0 then (k11 x1 (x2 + (1 : Int32)) σ3) else (pw_bi (f_X11_unit x2 σ3) fun r4 σ4 => (if pw_in (x1 + r4) 2401 = true then (if (σ4.1 51 (x1 + r4).toNatClampNeg) = 0 then (if pw_isb (0 : Int32) = true then some ((0 : Int32), σ4) else none) else (k11 x1 (x2 + (1 : Int32)) σ4)) else none)))))) else none))) else none))
def l_X11_isKept_11 (k2 : Int32 → pw_St → Option (Int32 × pw_St)) : Nat → Int32 → Int32 → pw_St → Option (Int32 × pw_St)
  | 0 => fun _ _ _ => none
  | n + 1 => fun x1 x2 σ => b_X11_isKept_11 k2 (l_X11_isKept_11 k2 n) x1 x2 σ
def b_X11_isKept_2 (k2 : Int32 → pw_St → Option (Int32 × pw_St)) (x1 : Int32) (σ : pw_St) : Option (Int32 × pw_St) := (if (2401 : Int32) ≤ x1 then (if pw_isb (1 : Int32) = true then some ((1 : Int32), σ) else none) else (l_X11_isKept_11 k2 pw_FU x1 (0 : Int32) σ))
def l_X11_isKept_2 : Nat → Int32 → pw_St → Option (Int32 × pw_St)
  | 0 => fun _ _ => none
  | n + 1 => fun x1 σ => b_X11_isKept_2  (l_X11_isKept_2  n) x1 σ
def f_X11_isKept (σ : pw_St) : Option (Int32 × pw_St) := (l_X11_isKept_2  pw_FU (0 : Int32) σ)
def rm_X11_isKept : Room := { frames := 4, cells := 0, slots := 0, locals := 87 }
set_option maxHeartbeats 4000000 in
set_option maxRecDepth 100000 in
theorem t_X11_isKept_11 (hC : pw_CX G RX11 cX11_isKept 3 (some .boolean) p s m args meth c) {k2 : Int32 → pw_St → Option (Int32 × pw_St)} {k11 : Int32 → Int32 → pw_St → Option (Int32 × pw_St)} {r : Int32} {τ : pw_St} (hk2 : ∀ (x1 : Int32), ∀ (σ : pw_St) (H : Heap) (locs : List Loc) (ls : Array Slot), pw_WH G σ s.heap H locs → lv_has ls 3 [(0, .ref (pw_ad G 10)), (1, .int x1)] → k2 x1 σ = some (r, τ) → W p l e rm_X11_isKept s m args below meth c H locs 0 0 (MQ below (pw_Qi G r τ) args s 0 0 (pw_gA G)) (F0 m 2 ls [])) (hk11 : ∀ (x1 : Int32), ∀ (x2 : Int32), ∀ (σ : pw_St) (H : Heap) (locs : List Loc) (ls : Array Slot), pw_WH G σ s.heap H locs → lv_has ls 3 [(0, .ref (pw_ad G 10)), (1, .int x1), (2, .int x2)] → k11 x1 x2 σ = some (r, τ) → W p l e rm_X11_isKept s m args below meth c H locs 0 0 (MQ below (pw_Qi G r τ) args s 0 0 (pw_gA G)) (F0 m 11 ls [])) {x1 : Int32} {x2 : Int32} {σ : pw_St} {H : Heap} {locs : List Loc} {ls : Array Slot} (hw : pw_WH G σ s.heap H locs) (hl : lv_has ls 3 [(0, .ref (pw_ad G 10)), (1, .int x1), (2, .int x2)]) (hf : b_X11_isKept_11 k2 k11 x1 x2 σ = some (r, τ)) : W p l e rm_X11_isKept s m args below meth c H locs 0 0 (MQ below (pw_Qi G r τ) args s 0 0 (pw_gA G)) (F0 m 11 ls []) := by
  have hx := hC.1
  have hb := hC.2.1
  unfold b_X11_isKept_11 at hf
  refine lv_iload_n hx hb dX11_isKept_11 rfl (lv_at hl 2 rfl) ?_
  refine lv_aload_n hx hb dX11_isKept_12 rfl (lv_at hl 0 rfl) ?_
  refine pg_10_1 hC hw mw_750 dX11_isKept_13 ?_
  refine lv_icmp_ge (tgt := 77) hx hb dX11_isKept_16 (by decide) (fun hc => ?_) (fun hc => ?_)
  · replace hf := pw_ifp hc hf
    refine lv_iinc (v := (x1 + (1 : Int32))) (lv' := [(1, .int (x1 + (1 : Int32))), (0, .ref (pw_ad G 10)), (2, .int x2)]) hx hb dX11_isKept_77 hl (k := 1) rfl rfl (by decide) rfl (fun ls hl => ?_)
    refine lv_goto (tgt := 2) hx hb dX11_isKept_80 (by decide) ?_
    exact hk2 _ _ _ _ _ hw (lv_sub hl [1, 0] rfl) hf
  · replace hf := pw_ifn hc hf
    refine lv_aload_n hx hb dX11_isKept_19 rfl (lv_at hl 0 rfl) ?_
    refine pg_10_24 hC hw mw_773 dX11_isKept_20 ?_
    refine lv_iload_n hx hb dX11_isKept_23 rfl (lv_at hl 1 rfl) ?_
    obtain ⟨hin, hf⟩ := pw_gd hf
    refine pw_zld hC hw ca_51 hin dX11_isKept_24 ?_
    refine lv_if_eq (tgt := 77) hx hb dX11_isKept_25 (by decide) (fun hc => ?_) (fun hc => ?_)
    · replace hf := pw_ifp hc hf
      refine lv_iinc (v := (x1 + (1 : Int32))) (lv' := [(1, .int (x1 + (1 : Int32))), (0, .ref (pw_ad G 10)), (2, .int x2)]) hx hb dX11_isKept_77 hl (k := 1) rfl rfl (by decide) rfl (fun ls hl => ?_)
      refine lv_goto (tgt := 2) hx hb dX11_isKept_80 (by decide) ?_
      exact hk2 _ _ _ _ _ hw (lv_sub hl [1, 0] rfl) hf
    · replace hf := pw_ifn hc hf
      refine lv_iload_n hx hb dX11_isKept_28 rfl (lv_at hl 1 rfl) ?_
      refine lv_iload_n hx hb dX11_isKept_29 rfl (lv_at hl 2 rfl) ?_
      obtain ⟨r1, σ1, h1, hf⟩ := pw_bi_some hf
      refine pw_ci hw (pw_runS (As := [.int x1, .int x2]) (rest := []) hC hw (c_X11_part  h1) mw_901 wm_X11_part ⟨Nat.zero_le _, Nat.zero_le _⟩ ⟨rfl, rfl, Nat.le_of_ble_eq_true rfl, Nat.le_of_ble_eq_true rfl⟩ rfl hl.1 rfl (Nat.le_of_ble_eq_true rfl) dX11_isKept_30) (fun H locs hw => ?_)
      refine lv_aload_n hx hb dX11_isKept_33 rfl (lv_at hl 0 rfl) ?_
      refine pg_10_2 hC hw mw_751 dX11_isKept_34 ?_
      refine lv_iload_n hx hb dX11_isKept_37 rfl (lv_at hl 2 rfl) ?_
      obtain ⟨hin, hf⟩ := pw_gd hf
      refine pw_ild hC hw ca_34 hin dX11_isKept_38 ?_
      refine lv_icmp_ge (tgt := 71) hx hb dX11_isKept_39 (by decide) (fun hc => ?_) (fun hc => ?_)
      · replace hf := pw_ifp hc hf
        refine lv_iinc (v := (x2 + (1 : Int32))) (lv' := [(2, .int (x2 + (1 : Int32))), (0, .ref (pw_ad G 10)), (1, .int x1)]) hx hb dX11_isKept_71 hl (k := 2) rfl rfl (by decide) rfl (fun ls hl => ?_)
        refine lv_goto (tgt := 11) hx hb dX11_isKept_74 (by decide) ?_
        exact hk11 _ _ _ _ _ _ hw (lv_sub hl [1, 2, 0] rfl) hf
      · replace hf := pw_ifn hc hf
        refine lv_aload_n hx hb dX11_isKept_42 rfl (lv_at hl 0 rfl) ?_
        refine lv_iload_n hx hb dX11_isKept_43 rfl (lv_at hl 1 rfl) ?_
        refine lv_iload_n hx hb dX11_isKept_44 rfl (lv_at hl 2 rfl) ?_
        obtain ⟨r2, σ2, h2, hf⟩ := pw_bi_some hf
        refine pw_ci hw (pw_runS (As := [.int x2]) (rest := [.int x1, .ref (pw_ad G 10)]) hC hw (c_X11_unit  h2) mw_904 wm_X11_unit ⟨Nat.zero_le _, Nat.zero_le _⟩ ⟨rfl, rfl, Nat.le_of_ble_eq_true rfl, Nat.le_of_ble_eq_true rfl⟩ rfl hl.1 rfl (Nat.le_of_ble_eq_true rfl) dX11_isKept_45) (fun H locs hw => ?_)
        refine lv_iadd hx hb dX11_isKept_48 ?_
        obtain ⟨r3, σ3, h3, hf⟩ := pw_bi_some hf
        refine pw_ci hw (pw_runV (As := [.int (x1 + r2)]) (rest := []) hC hw (c_X11_isPossible  h3) mw_907 wm_X11_isPossible ⟨Nat.zero_le _, Nat.zero_le _⟩ ⟨rfl, rfl, Nat.le_of_ble_eq_true rfl, Nat.le_of_ble_eq_true rfl⟩ (by decide) rfl rfl rfl hl.1 rfl (Nat.le_of_ble_eq_true rfl) dX11_isKept_49) (fun H locs hw => ?_)
        refine lv_if_eq (tgt := 71) hx hb dX11_isKept_52 (by decide) (fun hc => ?_) (fun hc => ?_)
        · replace hf := pw_ifp hc hf
          refine lv_iinc (v := (x2 + (1 : Int32))) (lv' := [(2, .int (x2 + (1 : Int32))), (0, .ref (pw_ad G 10)), (1, .int x1)]) hx hb dX11_isKept_71 hl (k := 2) rfl rfl (by decide) rfl (fun ls hl => ?_)
          refine lv_goto (tgt := 11) hx hb dX11_isKept_74 (by decide) ?_
          exact hk11 _ _ _ _ _ _ hw (lv_sub hl [1, 2, 0] rfl) hf
        · replace hf := pw_ifn hc hf
          refine lv_aload_n hx hb dX11_isKept_55 rfl (lv_at hl 0 rfl) ?_
          refine pg_10_24 hC hw mw_773 dX11_isKept_56 ?_
          refine lv_iload_n hx hb dX11_isKept_59 rfl (lv_at hl 1 rfl) ?_
          refine lv_iload_n hx hb dX11_isKept_60 rfl (lv_at hl 2 rfl) ?_
          obtain ⟨r4, σ4, h4, hf⟩ := pw_bi_some hf
          refine pw_ci hw (pw_runS (As := [.int x2]) (rest := [.int x1, .ref (pw_ad G 51)]) hC hw (c_X11_unit  h4) mw_904 wm_X11_unit ⟨Nat.zero_le _, Nat.zero_le _⟩ ⟨rfl, rfl, Nat.le_of_ble_eq_true rfl, Nat.le_of_ble_eq_true rfl⟩ rfl hl.1 rfl (Nat.le_of_ble_eq_true rfl) dX11_isKept_61) (fun H locs hw => ?_)
          refine lv_iadd hx hb dX11_isKept_64 ?_
          obtain ⟨hin, hf⟩ := pw_gd hf
          refine pw_zld hC hw ca_51 hin dX11_isKept_65 ?_
          refine lv_if_ne (tgt := 71) hx hb dX11_isKept_66 (by decide) (fun hc => ?_) (fun hc => ?_)
          · replace hf := pw_ifn hc hf
            refine lv_iinc (v := (x2 + (1 : Int32))) (lv' := [(2, .int (x2 + (1 : Int32))), (0, .ref (pw_ad G 10)), (1, .int x1)]) hx hb dX11_isKept_71 hl (k := 2) rfl rfl (by decide) rfl (fun ls hl => ?_)
            refine lv_goto (tgt := 11) hx hb dX11_isKept_74 (by decide) ?_
            exact hk11 _ _ _ _ _ _ hw (lv_sub hl [1, 2, 0] rfl) hf
          · replace hf := pw_ifp hc hf
            refine lv_iconst (v := 0) hx hb dX11_isKept_69 (by decide) ?_
            exact pw_zret hC hw hf dX11_isKept_70
set_option maxHeartbeats 4000000 in
theorem tl_X11_isKept_11 (hC : pw_CX G RX11 cX11_isKept 3 (some .boolean) p s m args meth c) {k2 : Int32 → pw_St → Option (Int32 × pw_St)} {r : Int32} {τ : pw_St} (hk2 : ∀ (x1 : Int32), ∀ (σ : pw_St) (H : Heap) (locs : List Loc) (ls : Array Slot), pw_WH G σ s.heap H locs → lv_has ls 3 [(0, .ref (pw_ad G 10)), (1, .int x1)] → k2 x1 σ = some (r, τ) → W p l e rm_X11_isKept s m args below meth c H locs 0 0 (MQ below (pw_Qi G r τ) args s 0 0 (pw_gA G)) (F0 m 2 ls [])) : ∀ (n : Nat) (x1 : Int32) (x2 : Int32) (σ : pw_St) (H : Heap) (locs : List Loc) (ls : Array Slot), pw_WH G σ s.heap H locs → lv_has ls 3 [(0, .ref (pw_ad G 10)), (1, .int x1), (2, .int x2)] → l_X11_isKept_11 k2 n x1 x2 σ = some (r, τ) → W p l e rm_X11_isKept s m args below meth c H locs 0 0 (MQ below (pw_Qi G r τ) args s 0 0 (pw_gA G)) (F0 m 11 ls []) := by
  intro n
  induction n with
  | zero => intro x1 x2 σ H locs ls hw hl hf; cases hf
  | succ n ih => intro x1 x2 σ H locs ls hw hl hf; exact t_X11_isKept_11 hC hk2 ih  hw hl hf
set_option maxHeartbeats 4000000 in
set_option maxRecDepth 100000 in
theorem t_X11_isKept_2 (hC : pw_CX G RX11 cX11_isKept 3 (some .boolean) p s m args meth c) {k2 : Int32 → pw_St → Option (Int32 × pw_St)} {r : Int32} {τ : pw_St} (hk2 : ∀ (x1 : Int32), ∀ (σ : pw_St) (H : Heap) (locs : List Loc) (ls : Array Slot), pw_WH G σ s.heap H locs → lv_has ls 3 [(0, .ref (pw_ad G 10)), (1, .int x1)] → k2 x1 σ = some (r, τ) → W p l e rm_X11_isKept s m args below meth c H locs 0 0 (MQ below (pw_Qi G r τ) args s 0 0 (pw_gA G)) (F0 m 2 ls [])) {x1 : Int32} {σ : pw_St} {H : Heap} {locs : List Loc} {ls : Array Slot} (hw : pw_WH G σ s.heap H locs) (hl : lv_has ls 3 [(0, .ref (pw_ad G 10)), (1, .int x1)]) (hf : b_X11_isKept_2 k2 x1 σ = some (r, τ)) : W p l e rm_X11_isKept s m args below meth c H locs 0 0 (MQ below (pw_Qi G r τ) args s 0 0 (pw_gA G)) (F0 m 2 ls []) := by
  have hx := hC.1
  have hb := hC.2.1
  unfold b_X11_isKept_2 at hf
  refine lv_iload_n hx hb dX11_isKept_2 rfl (lv_at hl 1 rfl) ?_
  refine lv_sipush (v := 2401) hx hb dX11_isKept_3 (by decide) ?_
  refine lv_icmp_ge (tgt := 83) hx hb dX11_isKept_6 (by decide) (fun hc => ?_) (fun hc => ?_)
  · replace hf := pw_ifp hc hf
    refine lv_iconst (v := 1) hx hb dX11_isKept_83 (by decide) ?_
    exact pw_zret hC hw hf dX11_isKept_84
  · replace hf := pw_ifn hc hf
    refine lv_iconst (v := 0) hx hb dX11_isKept_9 (by decide) ?_
    refine lv_istore_n (lv' := [(2, .int (0 : Int32)), (0, .ref (pw_ad G 10)), (1, .int x1)]) hx hb dX11_isKept_10 rfl hl (by decide) rfl (fun ls hl => ?_)
    exact tl_X11_isKept_11 hC hk2 pw_FU _ _ _ _ _ _ hw (lv_sub hl [1, 2, 0] rfl) hf
set_option maxHeartbeats 4000000 in
theorem tl_X11_isKept_2 (hC : pw_CX G RX11 cX11_isKept 3 (some .boolean) p s m args meth c) {r : Int32} {τ : pw_St} : ∀ (n : Nat) (x1 : Int32) (σ : pw_St) (H : Heap) (locs : List Loc) (ls : Array Slot), pw_WH G σ s.heap H locs → lv_has ls 3 [(0, .ref (pw_ad G 10)), (1, .int x1)] → l_X11_isKept_2  n x1 σ = some (r, τ) → W p l e rm_X11_isKept s m args below meth c H locs 0 0 (MQ below (pw_Qi G r τ) args s 0 0 (pw_gA G)) (F0 m 2 ls []) := by
  intro n
  induction n with
  | zero => intro x1 σ H locs ls hw hl hf; cases hf
  | succ n ih => intro x1 σ H locs ls hw hl hf; exact t_X11_isKept_2 hC ih  hw hl hf
set_option maxHeartbeats 4000000 in
set_option maxRecDepth 100000 in
theorem c_X11_isKept {l : Launch} {G : pw_Gh} {σ : pw_St} {r : Int32} {τ : pw_St} (hf : f_X11_isKept σ = some (r, τ)) : Met l yX11_isKept (.code yX11_isKept cX11_isKept 3 (some .boolean) :: pw_BW) rm_X11_isKept (pw_Pc G [.ref (pw_ad G 10)] σ) (pw_Qi G r τ) 0 0 (pw_gA G) := by
  refine pw_met (by decide +kernel) (Nat.le_of_ble_eq_true rfl) ?_
  intro p e s m args below meth c ls hC hw hl
  replace hl : lv_has ls 3 [(0, .ref (pw_ad G 10))] := hl
  have hx := hC.1
  have hb := hC.2.1
  unfold f_X11_isKept at hf
  refine lv_iconst (v := 0) hx hb dX11_isKept_0 (by decide) ?_
  refine lv_istore_n (lv' := [(1, .int (0 : Int32)), (0, .ref (pw_ad G 10))]) hx hb dX11_isKept_1 rfl hl (by decide) rfl (fun ls hl => ?_)
  exact tl_X11_isKept_2 hC  pw_FU _ _ _ _ _ hw (lv_sub hl [1, 0] rfl) hf
end PM
