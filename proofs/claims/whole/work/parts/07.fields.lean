theorem ca_11 {G : pw_Gh} : 11 < 110 ∧ ∀ (f : Nat → Int32) (g : Nat → Int64), pw_cell G 11 f g = .inl (pw_gI G, 4, .inl f) := ⟨by decide, fun _ _ => rfl⟩
theorem ca_12 {G : pw_Gh} : 12 < 110 ∧ ∀ (f : Nat → Int32) (g : Nat → Int64), pw_cell G 12 f g = .inl (pw_gI G, 24, .inl f) := ⟨by decide, fun _ _ => rfl⟩
theorem ca_13 {G : pw_Gh} : 13 < 110 ∧ ∀ (f : Nat → Int32) (g : Nat → Int64), pw_cell G 13 f g = .inl (pw_gI G, 24, .inl f) := ⟨by decide, fun _ _ => rfl⟩
theorem ca_14 {G : pw_Gh} : 14 < 110 ∧ ∀ (f : Nat → Int32) (g : Nat → Int64), pw_cell G 14 f g = .inl (pw_gI G, 24, .inl f) := ⟨by decide, fun _ _ => rfl⟩
theorem ca_15 {G : pw_Gh} : 15 < 110 ∧ ∀ (f : Nat → Int32) (g : Nat → Int64), pw_cell G 15 f g = .inl (pw_gI G, 24, .inl f) := ⟨by decide, fun _ _ => rfl⟩
theorem ca_16 {G : pw_Gh} : 16 < 110 ∧ ∀ (f : Nat → Int32) (g : Nat → Int64), pw_cell G 16 f g = .inl (pw_gI G, 96, .inl f) := ⟨by decide, fun _ _ => rfl⟩
theorem ca_17 {G : pw_Gh} : 17 < 110 ∧ ∀ (f : Nat → Int32) (g : Nat → Int64), pw_cell G 17 f g = .inl (pw_gI G, 84, .inl f) := ⟨by decide, fun _ _ => rfl⟩
theorem ca_18 {G : pw_Gh} : 18 < 110 ∧ ∀ (f : Nat → Int32) (g : Nat → Int64), pw_cell G 18 f g = .inl (pw_gI G, 24, .inl f) := ⟨by decide, fun _ _ => rfl⟩
theorem ca_19 {G : pw_Gh} : 19 < 110 ∧ ∀ (f : Nat → Int32) (g : Nat → Int64), pw_cell G 19 f g = .inl (pw_gI G, 24, .inl f) := ⟨by decide, fun _ _ => rfl⟩
theorem ca_20 {G : pw_Gh} : 20 < 110 ∧ ∀ (f : Nat → Int32) (g : Nat → Int64), pw_cell G 20 f g = .inl (pw_gI G, 24, .inl f) := ⟨by decide, fun _ _ => rfl⟩
theorem ca_21 {G : pw_Gh} : 21 < 110 ∧ ∀ (f : Nat → Int32) (g : Nat → Int64), pw_cell G 21 f g = .inl (pw_gI G, 24, .inl f) := ⟨by decide, fun _ _ => rfl⟩
theorem ca_22 {G : pw_Gh} : 22 < 110 ∧ ∀ (f : Nat → Int32) (g : Nat → Int64), pw_cell G 22 f g = .inl (pw_gI G, 2401, .inl f) := ⟨by decide, fun _ _ => rfl⟩
theorem ca_23 {G : pw_Gh} : 23 < 110 ∧ ∀ (f : Nat → Int32) (g : Nat → Int64), pw_cell G 23 f g = .inl (pw_gZ G, 2401, .inl f) := ⟨by decide, fun _ _ => rfl⟩
theorem ca_24 {G : pw_Gh} : 24 < 110 ∧ ∀ (f : Nat → Int32) (g : Nat → Int64), pw_cell G 24 f g = .inl (pw_gI G, 25, .inl f) := ⟨by decide, fun _ _ => rfl⟩
theorem ca_25 {G : pw_Gh} : 25 < 110 ∧ ∀ (f : Nat → Int32) (g : Nat → Int64), pw_cell G 25 f g = .inl (pw_gI G, 4, .inl f) := ⟨by decide, fun _ _ => rfl⟩
theorem ca_26 {G : pw_Gh} : 26 < 110 ∧ ∀ (f : Nat → Int32) (g : Nat → Int64), pw_cell G 26 f g = .inl (pw_gF G, 6, .inr (.inr (.inr (.inr (fun i => some (pw_ad G (4 * (i + 0) + 54))))))) := ⟨by decide, fun _ _ => rfl⟩
theorem ca_27 {G : pw_Gh} : 27 < 110 ∧ ∀ (f : Nat → Int32) (g : Nat → Int64), pw_cell G 27 f g = .inl (pw_gF G, 8, .inr (.inr (.inr (.inr (fun i => some (pw_ad G (4 * (i + 6) + 54))))))) := ⟨by decide, fun _ _ => rfl⟩
theorem ca_28 {G : pw_Gh} : 28 < 110 ∧ ∀ (f : Nat → Int32) (g : Nat → Int64), pw_cell G 28 f g = .inl (pw_gI G, 4, .inl f) := ⟨by decide, fun _ _ => rfl⟩
theorem ca_29 {G : pw_Gh} : 29 < 110 ∧ ∀ (f : Nat → Int32) (g : Nat → Int64), pw_cell G 29 f g = .inl (pw_gI G, 6, .inl f) := ⟨by decide, fun _ _ => rfl⟩
theorem ca_30 {G : pw_Gh} : 30 < 110 ∧ ∀ (f : Nat → Int32) (g : Nat → Int64), pw_cell G 30 f g = .inl (pw_gZ G, 2401, .inl f) := ⟨by decide, fun _ _ => rfl⟩
theorem ca_31 {G : pw_Gh} : 31 < 110 ∧ ∀ (f : Nat → Int32) (g : Nat → Int64), pw_cell G 31 f g = .inl (pw_gI G, 2401, .inl f) := ⟨by decide, fun _ _ => rfl⟩
theorem ca_32 {G : pw_Gh} : 32 < 110 ∧ ∀ (f : Nat → Int32) (g : Nat → Int64), pw_cell G 32 f g = .inl (pw_gJ G, 2401, .inr (.inl g)) := ⟨by decide, fun _ _ => rfl⟩
theorem ca_33 {G : pw_Gh} : 33 < 110 ∧ ∀ (f : Nat → Int32) (g : Nat → Int64), pw_cell G 33 f g = .inl (pw_gI G, 24, .inl f) := ⟨by decide, fun _ _ => rfl⟩
theorem ca_34 {G : pw_Gh} : 34 < 110 ∧ ∀ (f : Nat → Int32) (g : Nat → Int64), pw_cell G 34 f g = .inl (pw_gI G, 4, .inl f) := ⟨by decide, fun _ _ => rfl⟩
theorem ca_35 {G : pw_Gh} : 35 < 110 ∧ ∀ (f : Nat → Int32) (g : Nat → Int64), pw_cell G 35 f g = .inl (pw_gI G, 24, .inl f) := ⟨by decide, fun _ _ => rfl⟩
theorem ca_36 {G : pw_Gh} : 36 < 110 ∧ ∀ (f : Nat → Int32) (g : Nat → Int64), pw_cell G 36 f g = .inl (pw_gI G, 24, .inl f) := ⟨by decide, fun _ _ => rfl⟩
theorem ca_37 {G : pw_Gh} : 37 < 110 ∧ ∀ (f : Nat → Int32) (g : Nat → Int64), pw_cell G 37 f g = .inl (pw_gI G, 24, .inl f) := ⟨by decide, fun _ _ => rfl⟩
theorem ca_38 {G : pw_Gh} : 38 < 110 ∧ ∀ (f : Nat → Int32) (g : Nat → Int64), pw_cell G 38 f g = .inl (pw_gI G, 24, .inl f) := ⟨by decide, fun _ _ => rfl⟩
theorem ca_39 {G : pw_Gh} : 39 < 110 ∧ ∀ (f : Nat → Int32) (g : Nat → Int64), pw_cell G 39 f g = .inl (pw_gI G, 96, .inl f) := ⟨by decide, fun _ _ => rfl⟩
theorem ca_40 {G : pw_Gh} : 40 < 110 ∧ ∀ (f : Nat → Int32) (g : Nat → Int64), pw_cell G 40 f g = .inl (pw_gI G, 24, .inl f) := ⟨by decide, fun _ _ => rfl⟩
theorem ca_41 {G : pw_Gh} : 41 < 110 ∧ ∀ (f : Nat → Int32) (g : Nat → Int64), pw_cell G 41 f g = .inl (pw_gI G, 24, .inl f) := ⟨by decide, fun _ _ => rfl⟩
theorem ca_42 {G : pw_Gh} : 42 < 110 ∧ ∀ (f : Nat → Int32) (g : Nat → Int64), pw_cell G 42 f g = .inl (pw_gI G, 24, .inl f) := ⟨by decide, fun _ _ => rfl⟩
theorem ca_43 {G : pw_Gh} : 43 < 110 ∧ ∀ (f : Nat → Int32) (g : Nat → Int64), pw_cell G 43 f g = .inl (pw_gI G, 24, .inl f) := ⟨by decide, fun _ _ => rfl⟩
theorem ca_44 {G : pw_Gh} : 44 < 110 ∧ ∀ (f : Nat → Int32) (g : Nat → Int64), pw_cell G 44 f g = .inl (pw_gZ G, 2401, .inl f) := ⟨by decide, fun _ _ => rfl⟩
theorem ca_45 {G : pw_Gh} : 45 < 110 ∧ ∀ (f : Nat → Int32) (g : Nat → Int64), pw_cell G 45 f g = .inl (pw_gJ G, 2401, .inr (.inl g)) := ⟨by decide, fun _ _ => rfl⟩
theorem ca_46 {G : pw_Gh} : 46 < 110 ∧ ∀ (f : Nat → Int32) (g : Nat → Int64), pw_cell G 46 f g = .inl (pw_gI G, 240, .inl f) := ⟨by decide, fun _ _ => rfl⟩
theorem ca_47 {G : pw_Gh} : 47 < 110 ∧ ∀ (f : Nat → Int32) (g : Nat → Int64), pw_cell G 47 f g = .inl (pw_gI G, 240, .inl f) := ⟨by decide, fun _ _ => rfl⟩
theorem ca_48 {G : pw_Gh} : 48 < 110 ∧ ∀ (f : Nat → Int32) (g : Nat → Int64), pw_cell G 48 f g = .inl (pw_gI G, 240, .inl f) := ⟨by decide, fun _ _ => rfl⟩
theorem ca_49 {G : pw_Gh} : 49 < 110 ∧ ∀ (f : Nat → Int32) (g : Nat → Int64), pw_cell G 49 f g = .inl (pw_gI G, 16, .inl f) := ⟨by decide, fun _ _ => rfl⟩
theorem ca_50 {G : pw_Gh} : 50 < 110 ∧ ∀ (f : Nat → Int32) (g : Nat → Int64), pw_cell G 50 f g = .inl (pw_gI G, 16, .inl f) := ⟨by decide, fun _ _ => rfl⟩
theorem ca_51 {G : pw_Gh} : 51 < 110 ∧ ∀ (f : Nat → Int32) (g : Nat → Int64), pw_cell G 51 f g = .inl (pw_gZ G, 2401, .inl f) := ⟨by decide, fun _ _ => rfl⟩
theorem ca_52 {G : pw_Gh} : 52 < 110 ∧ ∀ (f : Nat → Int32) (g : Nat → Int64), pw_cell G 52 f g = .inl (pw_gZ G, 2401, .inl f) := ⟨by decide, fun _ _ => rfl⟩
theorem ca_53 {G : pw_Gh} : 53 < 110 ∧ ∀ (f : Nat → Int32) (g : Nat → Int64), pw_cell G 53 f g = .inl (pw_gI G, 24, .inl f) := ⟨by decide, fun _ _ => rfl⟩
theorem ca_F1 {G : pw_Gh} {n : Nat} (h : n < 14) : 4 * n + 55 < 110 ∧ ∀ (f : Nat → Int32) (g : Nat → Int64), pw_cell G (4 * n + 55) f g = .inl (pw_gI G, 15, .inl f) := ⟨by omega, fun _ _ => pw_cellF1⟩
theorem ca_F2 {G : pw_Gh} {n : Nat} (h : n < 14) : 4 * n + 56 < 110 ∧ ∀ (f : Nat → Int32) (g : Nat → Int64), pw_cell G (4 * n + 56) f g = .inl (pw_gI G, 15, .inl f) := ⟨by omega, fun _ _ => pw_cellF2⟩
theorem ca_F3 {G : pw_Gh} {n : Nat} (h : n < 14) : 4 * n + 57 < 110 ∧ ∀ (f : Nat → Int32) (g : Nat → Int64), pw_cell G (4 * n + 57) f g = .inl (pw_gI G, 15, .inl f) := ⟨by omega, fun _ _ => pw_cellF3⟩
section PWF
variable {p : Program} {l : Launch} {e : Env} {R : Room} {s : State} {m : MethodId} {args : Array Value} {below : List Frame} {meth : Method} {c : Code} {H : Heap} {locs : List Loc} {cells slots : Nat} {Q : State → Prop}
variable {G : pw_Gh} {σ : pw_St} {own : String} {cc : ByteArray} {nL pc idx : Nat} {ret : Option FieldType} {ls : Array Slot} {rest : List Value}
theorem pg_0_0 (hC : pw_CX G own cc nL ret p s m args meth c) (hw : pw_WH G σ s.heap H locs) (hl : Cond.fieldLink own idx "PerhapsWas" "history" "LPerhapsWas$History;" ∈ pw_BW) (hdg : decode cc pc = .ok (.getfield idx, 3))
    (kk : W p l e R s m args below meth c H locs cells slots Q (F0 m (pc + 3) ls (.ref (pw_ad G 1) :: rest))) : W p l e R s m args below meth c H locs cells slots Q (F0 m pc ls (.ref (pw_ad G (0)) :: rest)) :=
  va_get (D := pw_gD G) (ci := 10) (C := RX10) (T := TX10) (N := 9) hC.1 hC.2.1 hC.2.2.2.2.1 pw_inX10 hC.2.2.2.1 hC.2.2.2.2.2.1.1 hw.1.1 (0) (pw_at (by decide)) rfl 0 (by decide) (hC.2.2.2.2.1 _ hl) (fun _ h => h) rfl hdg kk
theorem pg_0_1 (hC : pw_CX G own cc nL ret p s m args meth c) (hw : pw_WH G σ s.heap H locs) (hl : Cond.fieldLink own idx "PerhapsWas" "net" "LPerhapsWas$Net;" ∈ pw_BW) (hdg : decode cc pc = .ok (.getfield idx, 3))
    (kk : W p l e R s m args below meth c H locs cells slots Q (F0 m (pc + 3) ls (.ref (pw_ad G 3) :: rest))) : W p l e R s m args below meth c H locs cells slots Q (F0 m pc ls (.ref (pw_ad G (0)) :: rest)) :=
  va_get (D := pw_gD G) (ci := 10) (C := RX10) (T := TX10) (N := 9) hC.1 hC.2.1 hC.2.2.2.2.1 pw_inX10 hC.2.2.2.1 hC.2.2.2.2.2.1.1 hw.1.1 (0) (pw_at (by decide)) rfl 1 (by decide) (hC.2.2.2.2.1 _ hl) (fun _ h => h) rfl hdg kk
theorem pg_0_2 (hC : pw_CX G own cc nL ret p s m args meth c) (hw : pw_WH G σ s.heap H locs) (hl : Cond.fieldLink own idx "PerhapsWas" "pile" "LPerhapsWas$Pile;" ∈ pw_BW) (hdg : decode cc pc = .ok (.getfield idx, 3))
    (kk : W p l e R s m args below meth c H locs cells slots Q (F0 m (pc + 3) ls (.ref (pw_ad G 4) :: rest))) : W p l e R s m args below meth c H locs cells slots Q (F0 m pc ls (.ref (pw_ad G (0)) :: rest)) :=
  va_get (D := pw_gD G) (ci := 10) (C := RX10) (T := TX10) (N := 9) hC.1 hC.2.1 hC.2.2.2.2.1 pw_inX10 hC.2.2.2.1 hC.2.2.2.2.2.1.1 hw.1.1 (0) (pw_at (by decide)) rfl 2 (by decide) (hC.2.2.2.2.1 _ hl) (fun _ h => h) rfl hdg kk
theorem pg_0_3 (hC : pw_CX G own cc nL ret p s m args meth c) (hw : pw_WH G σ s.heap H locs) (hl : Cond.fieldLink own idx "PerhapsWas" "conditions" "LPerhapsWas$Conditions;" ∈ pw_BW) (hdg : decode cc pc = .ok (.getfield idx, 3))
    (kk : W p l e R s m args below meth c H locs cells slots Q (F0 m (pc + 3) ls (.ref (pw_ad G 5) :: rest))) : W p l e R s m args below meth c H locs cells slots Q (F0 m pc ls (.ref (pw_ad G (0)) :: rest)) :=
  va_get (D := pw_gD G) (ci := 10) (C := RX10) (T := TX10) (N := 9) hC.1 hC.2.1 hC.2.2.2.2.1 pw_inX10 hC.2.2.2.1 hC.2.2.2.2.2.1.1 hw.1.1 (0) (pw_at (by decide)) rfl 3 (by decide) (hC.2.2.2.2.1 _ hl) (fun _ h => h) rfl hdg kk
theorem pg_0_4 (hC : pw_CX G own cc nL ret p s m args meth c) (hw : pw_WH G σ s.heap H locs) (hl : Cond.fieldLink own idx "PerhapsWas" "moment" "LPerhapsWas$Moment;" ∈ pw_BW) (hdg : decode cc pc = .ok (.getfield idx, 3))
    (kk : W p l e R s m args below meth c H locs cells slots Q (F0 m (pc + 3) ls (.ref (pw_ad G 6) :: rest))) : W p l e R s m args below meth c H locs cells slots Q (F0 m pc ls (.ref (pw_ad G (0)) :: rest)) :=
  va_get (D := pw_gD G) (ci := 10) (C := RX10) (T := TX10) (N := 9) hC.1 hC.2.1 hC.2.2.2.2.1 pw_inX10 hC.2.2.2.1 hC.2.2.2.2.2.1.1 hw.1.1 (0) (pw_at (by decide)) rfl 4 (by decide) (hC.2.2.2.2.1 _ hl) (fun _ h => h) rfl hdg kk
theorem pg_0_5 (hC : pw_CX G own cc nL ret p s m args meth c) (hw : pw_WH G σ s.heap H locs) (hl : Cond.fieldLink own idx "PerhapsWas" "marks" "LPerhapsWas$Marks;" ∈ pw_BW) (hdg : decode cc pc = .ok (.getfield idx, 3))
    (kk : W p l e R s m args below meth c H locs cells slots Q (F0 m (pc + 3) ls (.ref (pw_ad G 7) :: rest))) : W p l e R s m args below meth c H locs cells slots Q (F0 m pc ls (.ref (pw_ad G (0)) :: rest)) :=
  va_get (D := pw_gD G) (ci := 10) (C := RX10) (T := TX10) (N := 9) hC.1 hC.2.1 hC.2.2.2.2.1 pw_inX10 hC.2.2.2.1 hC.2.2.2.2.2.1.1 hw.1.1 (0) (pw_at (by decide)) rfl 5 (by decide) (hC.2.2.2.2.1 _ hl) (fun _ h => h) rfl hdg kk
theorem pg_0_6 (hC : pw_CX G own cc nL ret p s m args meth c) (hw : pw_WH G σ s.heap H locs) (hl : Cond.fieldLink own idx "PerhapsWas" "ways" "LPerhapsWas$Ways;" ∈ pw_BW) (hdg : decode cc pc = .ok (.getfield idx, 3))
    (kk : W p l e R s m args below meth c H locs cells slots Q (F0 m (pc + 3) ls (.ref (pw_ad G 8) :: rest))) : W p l e R s m args below meth c H locs cells slots Q (F0 m pc ls (.ref (pw_ad G (0)) :: rest)) :=
  va_get (D := pw_gD G) (ci := 10) (C := RX10) (T := TX10) (N := 9) hC.1 hC.2.1 hC.2.2.2.2.1 pw_inX10 hC.2.2.2.1 hC.2.2.2.2.2.1.1 hw.1.1 (0) (pw_at (by decide)) rfl 6 (by decide) (hC.2.2.2.2.1 _ hl) (fun _ h => h) rfl hdg kk
theorem pg_0_7 (hC : pw_CX G own cc nL ret p s m args meth c) (hw : pw_WH G σ s.heap H locs) (hl : Cond.fieldLink own idx "PerhapsWas" "row" "LPerhapsWas$Row;" ∈ pw_BW) (hdg : decode cc pc = .ok (.getfield idx, 3))
    (kk : W p l e R s m args below meth c H locs cells slots Q (F0 m (pc + 3) ls (.ref (pw_ad G 9) :: rest))) : W p l e R s m args below meth c H locs cells slots Q (F0 m pc ls (.ref (pw_ad G (0)) :: rest)) :=
  va_get (D := pw_gD G) (ci := 10) (C := RX10) (T := TX10) (N := 9) hC.1 hC.2.1 hC.2.2.2.2.1 pw_inX10 hC.2.2.2.1 hC.2.2.2.2.2.1.1 hw.1.1 (0) (pw_at (by decide)) rfl 7 (by decide) (hC.2.2.2.2.1 _ hl) (fun _ h => h) rfl hdg kk
theorem pg_0_8 (hC : pw_CX G own cc nL ret p s m args meth c) (hw : pw_WH G σ s.heap H locs) (hl : Cond.fieldLink own idx "PerhapsWas" "refusal" "I" ∈ pw_BW) (hdg : decode cc pc = .ok (.getfield idx, 3))
    (kk : W p l e R s m args below meth c H locs cells slots Q (F0 m (pc + 3) ls (.int (σ.1 0 8) :: rest))) : W p l e R s m args below meth c H locs cells slots Q (F0 m pc ls (.ref (pw_ad G (0)) :: rest)) :=
  va_get (D := pw_gD G) (ci := 10) (C := RX10) (T := TX10) (N := 9) hC.1 hC.2.1 hC.2.2.2.2.1 pw_inX10 hC.2.2.2.1 hC.2.2.2.2.2.1.1 hw.1.1 (0) (pw_at (by decide)) rfl 8 (by decide) (hC.2.2.2.2.1 _ hl) (fun _ h => h) rfl hdg kk
theorem pp_0_8 {v : Int32} (hC : pw_CX G own cc nL ret p s m args meth c) (hw : pw_WH G σ s.heap H locs) (hl : Cond.fieldLink own idx "PerhapsWas" "refusal" "I" ∈ pw_BW) (hdg : decode cc pc = .ok (.putfield idx, 3))
    (kk : ∀ (H1 : Heap) (locs1 : List Loc), pw_WH G (pw_sM σ (0) 8 v) s.heap H1 locs1 → W p l e R s m args below meth c H1 locs1 cells slots Q (F0 m (pc + 3) ls rest)) : W p l e R s m args below meth c H locs cells slots Q (F0 m pc ls (.int v :: .ref (pw_ad G (0)) :: rest)) := by
  refine va_put (D := pw_gD G) (ci := 10) (v := .int v) (ty := .int) (C := RX10) (T := TX10) (N := 9) hC.1 hC.2.1 hC.2.2.2.2.1 pw_inX10 tyX10 tyX10_ok nmX10 hC.2.2.2.1 hC.2.2.2.2.2.1.1 hw.1.1 hw.1.2 hw.2 (0) (pw_at (by decide)) rfl 8 (by decide) (hC.2.2.2.2.1 _ hl) (fun _ h => h) rfl (by decide +kernel) rfl rfl (Nat.le_of_ble_eq_true rfl) hdg (fun H1 locs1 h1 h2 h3 => ?_)
  have hq := pw_setM (G := G) (σ := σ) (k := 0) (j := 8) (v := v) (by decide)
  skip
  exact kk H1 locs1 ⟨⟨hq ▸ h1, hq ▸ h2⟩, h3⟩
theorem pg_1_0 (hC : pw_CX G own cc nL ret p s m args meth c) (hw : pw_WH G σ s.heap H locs) (hl : Cond.fieldLink own idx "PerhapsWas$History" "letters" "LPerhapsWas$Letters;" ∈ pw_BW) (hdg : decode cc pc = .ok (.getfield idx, 3))
    (kk : W p l e R s m args below meth c H locs cells slots Q (F0 m (pc + 3) ls (.ref (pw_ad G 2) :: rest))) : W p l e R s m args below meth c H locs cells slots Q (F0 m pc ls (.ref (pw_ad G (1)) :: rest)) :=
  va_get (D := pw_gD G) (ci := 2) (C := RX2) (T := TX2) (N := 11) hC.1 hC.2.1 hC.2.2.2.2.1 pw_inX2 hC.2.2.2.1 hC.2.2.2.2.2.1.1 hw.1.1 (1) (pw_at (by decide)) rfl 0 (by decide) (hC.2.2.2.2.1 _ hl) (fun _ h => h) rfl hdg kk
theorem pg_1_1 (hC : pw_CX G own cc nL ret p s m args meth c) (hw : pw_WH G σ s.heap H locs) (hl : Cond.fieldLink own idx "PerhapsWas$History" "had" "[I" ∈ pw_BW) (hdg : decode cc pc = .ok (.getfield idx, 3))
    (kk : W p l e R s m args below meth c H locs cells slots Q (F0 m (pc + 3) ls (.ref (pw_ad G 11) :: rest))) : W p l e R s m args below meth c H locs cells slots Q (F0 m pc ls (.ref (pw_ad G (1)) :: rest)) :=
  va_get (D := pw_gD G) (ci := 2) (C := RX2) (T := TX2) (N := 11) hC.1 hC.2.1 hC.2.2.2.2.1 pw_inX2 hC.2.2.2.1 hC.2.2.2.2.2.1.1 hw.1.1 (1) (pw_at (by decide)) rfl 1 (by decide) (hC.2.2.2.2.1 _ hl) (fun _ h => h) rfl hdg kk
theorem pg_1_2 (hC : pw_CX G own cc nL ret p s m args meth c) (hw : pw_WH G σ s.heap H locs) (hl : Cond.fieldLink own idx "PerhapsWas$History" "came" "[I" ∈ pw_BW) (hdg : decode cc pc = .ok (.getfield idx, 3))
    (kk : W p l e R s m args below meth c H locs cells slots Q (F0 m (pc + 3) ls (.ref (pw_ad G 12) :: rest))) : W p l e R s m args below meth c H locs cells slots Q (F0 m pc ls (.ref (pw_ad G (1)) :: rest)) :=
  va_get (D := pw_gD G) (ci := 2) (C := RX2) (T := TX2) (N := 11) hC.1 hC.2.1 hC.2.2.2.2.1 pw_inX2 hC.2.2.2.1 hC.2.2.2.2.2.1.1 hw.1.1 (1) (pw_at (by decide)) rfl 2 (by decide) (hC.2.2.2.2.1 _ hl) (fun _ h => h) rfl hdg kk
theorem pg_1_3 (hC : pw_CX G own cc nL ret p s m args meth c) (hw : pw_WH G σ s.heap H locs) (hl : Cond.fieldLink own idx "PerhapsWas$History" "kinds" "[I" ∈ pw_BW) (hdg : decode cc pc = .ok (.getfield idx, 3))
    (kk : W p l e R s m args below meth c H locs cells slots Q (F0 m (pc + 3) ls (.ref (pw_ad G 13) :: rest))) : W p l e R s m args below meth c H locs cells slots Q (F0 m pc ls (.ref (pw_ad G (1)) :: rest)) :=
  va_get (D := pw_gD G) (ci := 2) (C := RX2) (T := TX2) (N := 11) hC.1 hC.2.1 hC.2.2.2.2.1 pw_inX2 hC.2.2.2.1 hC.2.2.2.2.2.1.1 hw.1.1 (1) (pw_at (by decide)) rfl 3 (by decide) (hC.2.2.2.2.1 _ hl) (fun _ h => h) rfl hdg kk
theorem pg_1_4 (hC : pw_CX G own cc nL ret p s m args meth c) (hw : pw_WH G σ s.heap H locs) (hl : Cond.fieldLink own idx "PerhapsWas$History" "subjects" "[I" ∈ pw_BW) (hdg : decode cc pc = .ok (.getfield idx, 3))
    (kk : W p l e R s m args below meth c H locs cells slots Q (F0 m (pc + 3) ls (.ref (pw_ad G 14) :: rest))) : W p l e R s m args below meth c H locs cells slots Q (F0 m pc ls (.ref (pw_ad G (1)) :: rest)) :=
  va_get (D := pw_gD G) (ci := 2) (C := RX2) (T := TX2) (N := 11) hC.1 hC.2.1 hC.2.2.2.2.1 pw_inX2 hC.2.2.2.1 hC.2.2.2.2.2.1.1 hw.1.1 (1) (pw_at (by decide)) rfl 4 (by decide) (hC.2.2.2.2.1 _ hl) (fun _ h => h) rfl hdg kk
theorem pg_1_5 (hC : pw_CX G own cc nL ret p s m args meth c) (hw : pw_WH G σ s.heap H locs) (hl : Cond.fieldLink own idx "PerhapsWas$History" "turns" "[I" ∈ pw_BW) (hdg : decode cc pc = .ok (.getfield idx, 3))
    (kk : W p l e R s m args below meth c H locs cells slots Q (F0 m (pc + 3) ls (.ref (pw_ad G 15) :: rest))) : W p l e R s m args below meth c H locs cells slots Q (F0 m pc ls (.ref (pw_ad G (1)) :: rest)) :=
  va_get (D := pw_gD G) (ci := 2) (C := RX2) (T := TX2) (N := 11) hC.1 hC.2.1 hC.2.2.2.2.1 pw_inX2 hC.2.2.2.1 hC.2.2.2.2.2.1.1 hw.1.1 (1) (pw_at (by decide)) rfl 5 (by decide) (hC.2.2.2.2.1 _ hl) (fun _ h => h) rfl hdg kk
theorem pg_1_6 (hC : pw_CX G own cc nL ret p s m args meth c) (hw : pw_WH G σ s.heap H locs) (hl : Cond.fieldLink own idx "PerhapsWas$History" "clocks" "[I" ∈ pw_BW) (hdg : decode cc pc = .ok (.getfield idx, 3))
    (kk : W p l e R s m args below meth c H locs cells slots Q (F0 m (pc + 3) ls (.ref (pw_ad G 16) :: rest))) : W p l e R s m args below meth c H locs cells slots Q (F0 m pc ls (.ref (pw_ad G (1)) :: rest)) :=
  va_get (D := pw_gD G) (ci := 2) (C := RX2) (T := TX2) (N := 11) hC.1 hC.2.1 hC.2.2.2.2.1 pw_inX2 hC.2.2.2.1 hC.2.2.2.2.2.1.1 hw.1.1 (1) (pw_at (by decide)) rfl 6 (by decide) (hC.2.2.2.2.1 _ hl) (fun _ h => h) rfl hdg kk
theorem pg_1_7 (hC : pw_CX G own cc nL ret p s m args meth c) (hw : pw_WH G σ s.heap H locs) (hl : Cond.fieldLink own idx "PerhapsWas$History" "values" "[I" ∈ pw_BW) (hdg : decode cc pc = .ok (.getfield idx, 3))
    (kk : W p l e R s m args below meth c H locs cells slots Q (F0 m (pc + 3) ls (.ref (pw_ad G 17) :: rest))) : W p l e R s m args below meth c H locs cells slots Q (F0 m pc ls (.ref (pw_ad G (1)) :: rest)) :=
  va_get (D := pw_gD G) (ci := 2) (C := RX2) (T := TX2) (N := 11) hC.1 hC.2.1 hC.2.2.2.2.1 pw_inX2 hC.2.2.2.1 hC.2.2.2.2.2.1.1 hw.1.1 (1) (pw_at (by decide)) rfl 7 (by decide) (hC.2.2.2.2.1 _ hl) (fun _ h => h) rfl hdg kk
theorem pg_1_8 (hC : pw_CX G own cc nL ret p s m args meth c) (hw : pw_WH G σ s.heap H locs) (hl : Cond.fieldLink own idx "PerhapsWas$History" "processes" "I" ∈ pw_BW) (hdg : decode cc pc = .ok (.getfield idx, 3))
    (kk : W p l e R s m args below meth c H locs cells slots Q (F0 m (pc + 3) ls (.int (σ.1 1 8) :: rest))) : W p l e R s m args below meth c H locs cells slots Q (F0 m pc ls (.ref (pw_ad G (1)) :: rest)) :=
  va_get (D := pw_gD G) (ci := 2) (C := RX2) (T := TX2) (N := 11) hC.1 hC.2.1 hC.2.2.2.2.1 pw_inX2 hC.2.2.2.1 hC.2.2.2.2.2.1.1 hw.1.1 (1) (pw_at (by decide)) rfl 8 (by decide) (hC.2.2.2.2.1 _ hl) (fun _ h => h) rfl hdg kk
theorem pp_1_8 {v : Int32} (hC : pw_CX G own cc nL ret p s m args meth c) (hw : pw_WH G σ s.heap H locs) (hl : Cond.fieldLink own idx "PerhapsWas$History" "processes" "I" ∈ pw_BW) (hdg : decode cc pc = .ok (.putfield idx, 3))
    (kk : ∀ (H1 : Heap) (locs1 : List Loc), pw_WH G (pw_sM σ (1) 8 v) s.heap H1 locs1 → W p l e R s m args below meth c H1 locs1 cells slots Q (F0 m (pc + 3) ls rest)) : W p l e R s m args below meth c H locs cells slots Q (F0 m pc ls (.int v :: .ref (pw_ad G (1)) :: rest)) := by
  refine va_put (D := pw_gD G) (ci := 2) (v := .int v) (ty := .int) (C := RX2) (T := TX2) (N := 11) hC.1 hC.2.1 hC.2.2.2.2.1 pw_inX2 tyX2 tyX2_ok nmX2 hC.2.2.2.1 hC.2.2.2.2.2.1.1 hw.1.1 hw.1.2 hw.2 (1) (pw_at (by decide)) rfl 8 (by decide) (hC.2.2.2.2.1 _ hl) (fun _ h => h) rfl (by decide +kernel) rfl rfl (Nat.le_of_ble_eq_true rfl) hdg (fun H1 locs1 h1 h2 h3 => ?_)
  have hq := pw_setM (G := G) (σ := σ) (k := 1) (j := 8) (v := v) (by decide)
  skip
  exact kk H1 locs1 ⟨⟨hq ▸ h1, hq ▸ h2⟩, h3⟩
theorem pg_1_9 (hC : pw_CX G own cc nL ret p s m args meth c) (hw : pw_WH G σ s.heap H locs) (hl : Cond.fieldLink own idx "PerhapsWas$History" "total" "I" ∈ pw_BW) (hdg : decode cc pc = .ok (.getfield idx, 3))
    (kk : W p l e R s m args below meth c H locs cells slots Q (F0 m (pc + 3) ls (.int (σ.1 1 9) :: rest))) : W p l e R s m args below meth c H locs cells slots Q (F0 m pc ls (.ref (pw_ad G (1)) :: rest)) :=
  va_get (D := pw_gD G) (ci := 2) (C := RX2) (T := TX2) (N := 11) hC.1 hC.2.1 hC.2.2.2.2.1 pw_inX2 hC.2.2.2.1 hC.2.2.2.2.2.1.1 hw.1.1 (1) (pw_at (by decide)) rfl 9 (by decide) (hC.2.2.2.2.1 _ hl) (fun _ h => h) rfl hdg kk
theorem pp_1_9 {v : Int32} (hC : pw_CX G own cc nL ret p s m args meth c) (hw : pw_WH G σ s.heap H locs) (hl : Cond.fieldLink own idx "PerhapsWas$History" "total" "I" ∈ pw_BW) (hdg : decode cc pc = .ok (.putfield idx, 3))
    (kk : ∀ (H1 : Heap) (locs1 : List Loc), pw_WH G (pw_sM σ (1) 9 v) s.heap H1 locs1 → W p l e R s m args below meth c H1 locs1 cells slots Q (F0 m (pc + 3) ls rest)) : W p l e R s m args below meth c H locs cells slots Q (F0 m pc ls (.int v :: .ref (pw_ad G (1)) :: rest)) := by
  refine va_put (D := pw_gD G) (ci := 2) (v := .int v) (ty := .int) (C := RX2) (T := TX2) (N := 11) hC.1 hC.2.1 hC.2.2.2.2.1 pw_inX2 tyX2 tyX2_ok nmX2 hC.2.2.2.1 hC.2.2.2.2.2.1.1 hw.1.1 hw.1.2 hw.2 (1) (pw_at (by decide)) rfl 9 (by decide) (hC.2.2.2.2.1 _ hl) (fun _ h => h) rfl (by decide +kernel) rfl rfl (Nat.le_of_ble_eq_true rfl) hdg (fun H1 locs1 h1 h2 h3 => ?_)
  have hq := pw_setM (G := G) (σ := σ) (k := 1) (j := 9) (v := v) (by decide)
  skip
  exact kk H1 locs1 ⟨⟨hq ▸ h1, hq ▸ h2⟩, h3⟩
theorem pg_1_10 (hC : pw_CX G own cc nL ret p s m args meth c) (hw : pw_WH G σ s.heap H locs) (hl : Cond.fieldLink own idx "PerhapsWas$History" "changes" "I" ∈ pw_BW) (hdg : decode cc pc = .ok (.getfield idx, 3))
    (kk : W p l e R s m args below meth c H locs cells slots Q (F0 m (pc + 3) ls (.int (σ.1 1 10) :: rest))) : W p l e R s m args below meth c H locs cells slots Q (F0 m pc ls (.ref (pw_ad G (1)) :: rest)) :=
  va_get (D := pw_gD G) (ci := 2) (C := RX2) (T := TX2) (N := 11) hC.1 hC.2.1 hC.2.2.2.2.1 pw_inX2 hC.2.2.2.1 hC.2.2.2.2.2.1.1 hw.1.1 (1) (pw_at (by decide)) rfl 10 (by decide) (hC.2.2.2.2.1 _ hl) (fun _ h => h) rfl hdg kk
theorem pp_1_10 {v : Int32} (hC : pw_CX G own cc nL ret p s m args meth c) (hw : pw_WH G σ s.heap H locs) (hl : Cond.fieldLink own idx "PerhapsWas$History" "changes" "I" ∈ pw_BW) (hdg : decode cc pc = .ok (.putfield idx, 3))
    (kk : ∀ (H1 : Heap) (locs1 : List Loc), pw_WH G (pw_sM σ (1) 10 v) s.heap H1 locs1 → W p l e R s m args below meth c H1 locs1 cells slots Q (F0 m (pc + 3) ls rest)) : W p l e R s m args below meth c H locs cells slots Q (F0 m pc ls (.int v :: .ref (pw_ad G (1)) :: rest)) := by
  refine va_put (D := pw_gD G) (ci := 2) (v := .int v) (ty := .int) (C := RX2) (T := TX2) (N := 11) hC.1 hC.2.1 hC.2.2.2.2.1 pw_inX2 tyX2 tyX2_ok nmX2 hC.2.2.2.1 hC.2.2.2.2.2.1.1 hw.1.1 hw.1.2 hw.2 (1) (pw_at (by decide)) rfl 10 (by decide) (hC.2.2.2.2.1 _ hl) (fun _ h => h) rfl (by decide +kernel) rfl rfl (Nat.le_of_ble_eq_true rfl) hdg (fun H1 locs1 h1 h2 h3 => ?_)
  have hq := pw_setM (G := G) (σ := σ) (k := 1) (j := 10) (v := v) (by decide)
  skip
  exact kk H1 locs1 ⟨⟨hq ▸ h1, hq ▸ h2⟩, h3⟩
theorem pg_2_0 (hC : pw_CX G own cc nL ret p s m args meth c) (hw : pw_WH G σ s.heap H locs) (hl : Cond.fieldLink own idx "PerhapsWas$Letters" "from" "[I" ∈ pw_BW) (hdg : decode cc pc = .ok (.getfield idx, 3))
    (kk : W p l e R s m args below meth c H locs cells slots Q (F0 m (pc + 3) ls (.ref (pw_ad G 18) :: rest))) : W p l e R s m args below meth c H locs cells slots Q (F0 m pc ls (.ref (pw_ad G (2)) :: rest)) :=
  va_get (D := pw_gD G) (ci := 3) (C := RX3) (T := TX3) (N := 5) hC.1 hC.2.1 hC.2.2.2.2.1 pw_inX3 hC.2.2.2.1 hC.2.2.2.2.2.1.1 hw.1.1 (2) (pw_at (by decide)) rfl 0 (by decide) (hC.2.2.2.2.1 _ hl) (fun _ h => h) rfl hdg kk
theorem pg_2_1 (hC : pw_CX G own cc nL ret p s m args meth c) (hw : pw_WH G σ s.heap H locs) (hl : Cond.fieldLink own idx "PerhapsWas$Letters" "to" "[I" ∈ pw_BW) (hdg : decode cc pc = .ok (.getfield idx, 3))
    (kk : W p l e R s m args below meth c H locs cells slots Q (F0 m (pc + 3) ls (.ref (pw_ad G 19) :: rest))) : W p l e R s m args below meth c H locs cells slots Q (F0 m pc ls (.ref (pw_ad G (2)) :: rest)) :=
  va_get (D := pw_gD G) (ci := 3) (C := RX3) (T := TX3) (N := 5) hC.1 hC.2.1 hC.2.2.2.2.1 pw_inX3 hC.2.2.2.1 hC.2.2.2.2.2.1.1 hw.1.1 (2) (pw_at (by decide)) rfl 1 (by decide) (hC.2.2.2.2.1 _ hl) (fun _ h => h) rfl hdg kk
theorem pg_2_2 (hC : pw_CX G own cc nL ret p s m args meth c) (hw : pw_WH G σ s.heap H locs) (hl : Cond.fieldLink own idx "PerhapsWas$Letters" "sent" "[I" ∈ pw_BW) (hdg : decode cc pc = .ok (.getfield idx, 3))
    (kk : W p l e R s m args below meth c H locs cells slots Q (F0 m (pc + 3) ls (.ref (pw_ad G 20) :: rest))) : W p l e R s m args below meth c H locs cells slots Q (F0 m pc ls (.ref (pw_ad G (2)) :: rest)) :=
  va_get (D := pw_gD G) (ci := 3) (C := RX3) (T := TX3) (N := 5) hC.1 hC.2.1 hC.2.2.2.2.1 pw_inX3 hC.2.2.2.1 hC.2.2.2.2.2.1.1 hw.1.1 (2) (pw_at (by decide)) rfl 2 (by decide) (hC.2.2.2.2.1 _ hl) (fun _ h => h) rfl hdg kk
theorem pg_2_3 (hC : pw_CX G own cc nL ret p s m args meth c) (hw : pw_WH G σ s.heap H locs) (hl : Cond.fieldLink own idx "PerhapsWas$Letters" "taken" "[I" ∈ pw_BW) (hdg : decode cc pc = .ok (.getfield idx, 3))
    (kk : W p l e R s m args below meth c H locs cells slots Q (F0 m (pc + 3) ls (.ref (pw_ad G 21) :: rest))) : W p l e R s m args below meth c H locs cells slots Q (F0 m pc ls (.ref (pw_ad G (2)) :: rest)) :=
  va_get (D := pw_gD G) (ci := 3) (C := RX3) (T := TX3) (N := 5) hC.1 hC.2.1 hC.2.2.2.2.1 pw_inX3 hC.2.2.2.1 hC.2.2.2.2.2.1.1 hw.1.1 (2) (pw_at (by decide)) rfl 3 (by decide) (hC.2.2.2.2.1 _ hl) (fun _ h => h) rfl hdg kk
theorem pg_2_4 (hC : pw_CX G own cc nL ret p s m args meth c) (hw : pw_WH G σ s.heap H locs) (hl : Cond.fieldLink own idx "PerhapsWas$Letters" "total" "I" ∈ pw_BW) (hdg : decode cc pc = .ok (.getfield idx, 3))
    (kk : W p l e R s m args below meth c H locs cells slots Q (F0 m (pc + 3) ls (.int (σ.1 2 4) :: rest))) : W p l e R s m args below meth c H locs cells slots Q (F0 m pc ls (.ref (pw_ad G (2)) :: rest)) :=
  va_get (D := pw_gD G) (ci := 3) (C := RX3) (T := TX3) (N := 5) hC.1 hC.2.1 hC.2.2.2.2.1 pw_inX3 hC.2.2.2.1 hC.2.2.2.2.2.1.1 hw.1.1 (2) (pw_at (by decide)) rfl 4 (by decide) (hC.2.2.2.2.1 _ hl) (fun _ h => h) rfl hdg kk
theorem pp_2_4 {v : Int32} (hC : pw_CX G own cc nL ret p s m args meth c) (hw : pw_WH G σ s.heap H locs) (hl : Cond.fieldLink own idx "PerhapsWas$Letters" "total" "I" ∈ pw_BW) (hdg : decode cc pc = .ok (.putfield idx, 3))
    (kk : ∀ (H1 : Heap) (locs1 : List Loc), pw_WH G (pw_sM σ (2) 4 v) s.heap H1 locs1 → W p l e R s m args below meth c H1 locs1 cells slots Q (F0 m (pc + 3) ls rest)) : W p l e R s m args below meth c H locs cells slots Q (F0 m pc ls (.int v :: .ref (pw_ad G (2)) :: rest)) := by
  refine va_put (D := pw_gD G) (ci := 3) (v := .int v) (ty := .int) (C := RX3) (T := TX3) (N := 5) hC.1 hC.2.1 hC.2.2.2.2.1 pw_inX3 tyX3 tyX3_ok nmX3 hC.2.2.2.1 hC.2.2.2.2.2.1.1 hw.1.1 hw.1.2 hw.2 (2) (pw_at (by decide)) rfl 4 (by decide) (hC.2.2.2.2.1 _ hl) (fun _ h => h) rfl (by decide +kernel) rfl rfl (Nat.le_of_ble_eq_true rfl) hdg (fun H1 locs1 h1 h2 h3 => ?_)
  have hq := pw_setM (G := G) (σ := σ) (k := 2) (j := 4) (v := v) (by decide)
  skip
  exact kk H1 locs1 ⟨⟨hq ▸ h1, hq ▸ h2⟩, h3⟩
theorem pg_3_0 (hC : pw_CX G own cc nL ret p s m args meth c) (hw : pw_WH G σ s.heap H locs) (hl : Cond.fieldLink own idx "PerhapsWas$Net" "history" "LPerhapsWas$History;" ∈ pw_BW) (hdg : decode cc pc = .ok (.getfield idx, 3))
    (kk : W p l e R s m args below meth c H locs cells slots Q (F0 m (pc + 3) ls (.ref (pw_ad G 1) :: rest))) : W p l e R s m args below meth c H locs cells slots Q (F0 m pc ls (.ref (pw_ad G (3)) :: rest)) :=
  va_get (D := pw_gD G) (ci := 6) (C := RX6) (T := TX6) (N := 8) hC.1 hC.2.1 hC.2.2.2.2.1 pw_inX6 hC.2.2.2.1 hC.2.2.2.2.2.1.1 hw.1.1 (3) (pw_at (by decide)) rfl 0 (by decide) (hC.2.2.2.2.1 _ hl) (fun _ h => h) rfl hdg kk
theorem pg_3_1 (hC : pw_CX G own cc nL ret p s m args meth c) (hw : pw_WH G σ s.heap H locs) (hl : Cond.fieldLink own idx "PerhapsWas$Net" "inOrder" "[I" ∈ pw_BW) (hdg : decode cc pc = .ok (.getfield idx, 3))
    (kk : W p l e R s m args below meth c H locs cells slots Q (F0 m (pc + 3) ls (.ref (pw_ad G 22) :: rest))) : W p l e R s m args below meth c H locs cells slots Q (F0 m pc ls (.ref (pw_ad G (3)) :: rest)) :=
  va_get (D := pw_gD G) (ci := 6) (C := RX6) (T := TX6) (N := 8) hC.1 hC.2.1 hC.2.2.2.2.1 pw_inX6 hC.2.2.2.1 hC.2.2.2.2.2.1.1 hw.1.1 (3) (pw_at (by decide)) rfl 1 (by decide) (hC.2.2.2.2.1 _ hl) (fun _ h => h) rfl hdg kk
theorem pg_3_2 (hC : pw_CX G own cc nL ret p s m args meth c) (hw : pw_WH G σ s.heap H locs) (hl : Cond.fieldLink own idx "PerhapsWas$Net" "allowed" "[Z" ∈ pw_BW) (hdg : decode cc pc = .ok (.getfield idx, 3))
    (kk : W p l e R s m args below meth c H locs cells slots Q (F0 m (pc + 3) ls (.ref (pw_ad G 23) :: rest))) : W p l e R s m args below meth c H locs cells slots Q (F0 m pc ls (.ref (pw_ad G (3)) :: rest)) :=
  va_get (D := pw_gD G) (ci := 6) (C := RX6) (T := TX6) (N := 8) hC.1 hC.2.1 hC.2.2.2.2.1 pw_inX6 hC.2.2.2.1 hC.2.2.2.2.2.1.1 hw.1.1 (3) (pw_at (by decide)) rfl 2 (by decide) (hC.2.2.2.2.1 _ hl) (fun _ h => h) rfl hdg kk
theorem pg_3_3 (hC : pw_CX G own cc nL ret p s m args meth c) (hw : pw_WH G σ s.heap H locs) (hl : Cond.fieldLink own idx "PerhapsWas$Net" "ends" "[I" ∈ pw_BW) (hdg : decode cc pc = .ok (.getfield idx, 3))
    (kk : W p l e R s m args below meth c H locs cells slots Q (F0 m (pc + 3) ls (.ref (pw_ad G 24) :: rest))) : W p l e R s m args below meth c H locs cells slots Q (F0 m pc ls (.ref (pw_ad G (3)) :: rest)) :=
  va_get (D := pw_gD G) (ci := 6) (C := RX6) (T := TX6) (N := 8) hC.1 hC.2.1 hC.2.2.2.2.1 pw_inX6 hC.2.2.2.1 hC.2.2.2.2.2.1.1 hw.1.1 (3) (pw_at (by decide)) rfl 3 (by decide) (hC.2.2.2.2.1 _ hl) (fun _ h => h) rfl hdg kk
theorem pg_3_4 (hC : pw_CX G own cc nL ret p s m args meth c) (hw : pw_WH G σ s.heap H locs) (hl : Cond.fieldLink own idx "PerhapsWas$Net" "counts" "[I" ∈ pw_BW) (hdg : decode cc pc = .ok (.getfield idx, 3))
    (kk : W p l e R s m args below meth c H locs cells slots Q (F0 m (pc + 3) ls (.ref (pw_ad G 25) :: rest))) : W p l e R s m args below meth c H locs cells slots Q (F0 m pc ls (.ref (pw_ad G (3)) :: rest)) :=
  va_get (D := pw_gD G) (ci := 6) (C := RX6) (T := TX6) (N := 8) hC.1 hC.2.1 hC.2.2.2.2.1 pw_inX6 hC.2.2.2.1 hC.2.2.2.2.2.1.1 hw.1.1 (3) (pw_at (by decide)) rfl 4 (by decide) (hC.2.2.2.2.1 _ hl) (fun _ h => h) rfl hdg kk
theorem pg_3_5 (hC : pw_CX G own cc nL ret p s m args meth c) (hw : pw_WH G σ s.heap H locs) (hl : Cond.fieldLink own idx "PerhapsWas$Net" "total" "I" ∈ pw_BW) (hdg : decode cc pc = .ok (.getfield idx, 3))
    (kk : W p l e R s m args below meth c H locs cells slots Q (F0 m (pc + 3) ls (.int (σ.1 3 5) :: rest))) : W p l e R s m args below meth c H locs cells slots Q (F0 m pc ls (.ref (pw_ad G (3)) :: rest)) :=
  va_get (D := pw_gD G) (ci := 6) (C := RX6) (T := TX6) (N := 8) hC.1 hC.2.1 hC.2.2.2.2.1 pw_inX6 hC.2.2.2.1 hC.2.2.2.2.2.1.1 hw.1.1 (3) (pw_at (by decide)) rfl 5 (by decide) (hC.2.2.2.2.1 _ hl) (fun _ h => h) rfl hdg kk
theorem pp_3_5 {v : Int32} (hC : pw_CX G own cc nL ret p s m args meth c) (hw : pw_WH G σ s.heap H locs) (hl : Cond.fieldLink own idx "PerhapsWas$Net" "total" "I" ∈ pw_BW) (hdg : decode cc pc = .ok (.putfield idx, 3))
    (kk : ∀ (H1 : Heap) (locs1 : List Loc), pw_WH G (pw_sM σ (3) 5 v) s.heap H1 locs1 → W p l e R s m args below meth c H1 locs1 cells slots Q (F0 m (pc + 3) ls rest)) : W p l e R s m args below meth c H locs cells slots Q (F0 m pc ls (.int v :: .ref (pw_ad G (3)) :: rest)) := by
  refine va_put (D := pw_gD G) (ci := 6) (v := .int v) (ty := .int) (C := RX6) (T := TX6) (N := 8) hC.1 hC.2.1 hC.2.2.2.2.1 pw_inX6 tyX6 tyX6_ok nmX6 hC.2.2.2.1 hC.2.2.2.2.2.1.1 hw.1.1 hw.1.2 hw.2 (3) (pw_at (by decide)) rfl 5 (by decide) (hC.2.2.2.2.1 _ hl) (fun _ h => h) rfl (by decide +kernel) rfl rfl (Nat.le_of_ble_eq_true rfl) hdg (fun H1 locs1 h1 h2 h3 => ?_)
  have hq := pw_setM (G := G) (σ := σ) (k := 3) (j := 5) (v := v) (by decide)
  skip
  exact kk H1 locs1 ⟨⟨hq ▸ h1, hq ▸ h2⟩, h3⟩
theorem pg_3_6 (hC : pw_CX G own cc nL ret p s m args meth c) (hw : pw_WH G σ s.heap H locs) (hl : Cond.fieldLink own idx "PerhapsWas$Net" "whole" "I" ∈ pw_BW) (hdg : decode cc pc = .ok (.getfield idx, 3))
    (kk : W p l e R s m args below meth c H locs cells slots Q (F0 m (pc + 3) ls (.int (σ.1 3 6) :: rest))) : W p l e R s m args below meth c H locs cells slots Q (F0 m pc ls (.ref (pw_ad G (3)) :: rest)) :=
  va_get (D := pw_gD G) (ci := 6) (C := RX6) (T := TX6) (N := 8) hC.1 hC.2.1 hC.2.2.2.2.1 pw_inX6 hC.2.2.2.1 hC.2.2.2.2.2.1.1 hw.1.1 (3) (pw_at (by decide)) rfl 6 (by decide) (hC.2.2.2.2.1 _ hl) (fun _ h => h) rfl hdg kk
theorem pp_3_6 {v : Int32} (hC : pw_CX G own cc nL ret p s m args meth c) (hw : pw_WH G σ s.heap H locs) (hl : Cond.fieldLink own idx "PerhapsWas$Net" "whole" "I" ∈ pw_BW) (hdg : decode cc pc = .ok (.putfield idx, 3))
    (kk : ∀ (H1 : Heap) (locs1 : List Loc), pw_WH G (pw_sM σ (3) 6 v) s.heap H1 locs1 → W p l e R s m args below meth c H1 locs1 cells slots Q (F0 m (pc + 3) ls rest)) : W p l e R s m args below meth c H locs cells slots Q (F0 m pc ls (.int v :: .ref (pw_ad G (3)) :: rest)) := by
  refine va_put (D := pw_gD G) (ci := 6) (v := .int v) (ty := .int) (C := RX6) (T := TX6) (N := 8) hC.1 hC.2.1 hC.2.2.2.2.1 pw_inX6 tyX6 tyX6_ok nmX6 hC.2.2.2.1 hC.2.2.2.2.2.1.1 hw.1.1 hw.1.2 hw.2 (3) (pw_at (by decide)) rfl 6 (by decide) (hC.2.2.2.2.1 _ hl) (fun _ h => h) rfl (by decide +kernel) rfl rfl (Nat.le_of_ble_eq_true rfl) hdg (fun H1 locs1 h1 h2 h3 => ?_)
  have hq := pw_setM (G := G) (σ := σ) (k := 3) (j := 6) (v := v) (by decide)
  skip
  exact kk H1 locs1 ⟨⟨hq ▸ h1, hq ▸ h2⟩, h3⟩
theorem pg_3_7 (hC : pw_CX G own cc nL ret p s m args meth c) (hw : pw_WH G σ s.heap H locs) (hl : Cond.fieldLink own idx "PerhapsWas$Net" "seenChanges" "I" ∈ pw_BW) (hdg : decode cc pc = .ok (.getfield idx, 3))
    (kk : W p l e R s m args below meth c H locs cells slots Q (F0 m (pc + 3) ls (.int (σ.1 3 7) :: rest))) : W p l e R s m args below meth c H locs cells slots Q (F0 m pc ls (.ref (pw_ad G (3)) :: rest)) :=
  va_get (D := pw_gD G) (ci := 6) (C := RX6) (T := TX6) (N := 8) hC.1 hC.2.1 hC.2.2.2.2.1 pw_inX6 hC.2.2.2.1 hC.2.2.2.2.2.1.1 hw.1.1 (3) (pw_at (by decide)) rfl 7 (by decide) (hC.2.2.2.2.1 _ hl) (fun _ h => h) rfl hdg kk
theorem pp_3_7 {v : Int32} (hC : pw_CX G own cc nL ret p s m args meth c) (hw : pw_WH G σ s.heap H locs) (hl : Cond.fieldLink own idx "PerhapsWas$Net" "seenChanges" "I" ∈ pw_BW) (hdg : decode cc pc = .ok (.putfield idx, 3))
    (kk : ∀ (H1 : Heap) (locs1 : List Loc), pw_WH G (pw_sM σ (3) 7 v) s.heap H1 locs1 → W p l e R s m args below meth c H1 locs1 cells slots Q (F0 m (pc + 3) ls rest)) : W p l e R s m args below meth c H locs cells slots Q (F0 m pc ls (.int v :: .ref (pw_ad G (3)) :: rest)) := by
  refine va_put (D := pw_gD G) (ci := 6) (v := .int v) (ty := .int) (C := RX6) (T := TX6) (N := 8) hC.1 hC.2.1 hC.2.2.2.2.1 pw_inX6 tyX6 tyX6_ok nmX6 hC.2.2.2.1 hC.2.2.2.2.2.1.1 hw.1.1 hw.1.2 hw.2 (3) (pw_at (by decide)) rfl 7 (by decide) (hC.2.2.2.2.1 _ hl) (fun _ h => h) rfl (by decide +kernel) rfl rfl (Nat.le_of_ble_eq_true rfl) hdg (fun H1 locs1 h1 h2 h3 => ?_)
  have hq := pw_setM (G := G) (σ := σ) (k := 3) (j := 7) (v := v) (by decide)
  skip
  exact kk H1 locs1 ⟨⟨hq ▸ h1, hq ▸ h2⟩, h3⟩
theorem pg_4_0 (hC : pw_CX G own cc nL ret p s m args meth c) (hw : pw_WH G σ s.heap H locs) (hl : Cond.fieldLink own idx "PerhapsWas$Pile" "formulas" "[LPerhapsWas$Formula;" ∈ pw_BW) (hdg : decode cc pc = .ok (.getfield idx, 3))
    (kk : W p l e R s m args below meth c H locs cells slots Q (F0 m (pc + 3) ls (.ref (pw_ad G 26) :: rest))) : W p l e R s m args below meth c H locs cells slots Q (F0 m pc ls (.ref (pw_ad G (4)) :: rest)) :=
  va_get (D := pw_gD G) (ci := 7) (C := RX7) (T := TX7) (N := 2) hC.1 hC.2.1 hC.2.2.2.2.1 pw_inX7 hC.2.2.2.1 hC.2.2.2.2.2.1.1 hw.1.1 (4) (pw_at (by decide)) rfl 0 (by decide) (hC.2.2.2.2.1 _ hl) (fun _ h => h) rfl hdg kk
theorem pg_4_1 (hC : pw_CX G own cc nL ret p s m args meth c) (hw : pw_WH G σ s.heap H locs) (hl : Cond.fieldLink own idx "PerhapsWas$Pile" "tops" "I" ∈ pw_BW) (hdg : decode cc pc = .ok (.getfield idx, 3))
    (kk : W p l e R s m args below meth c H locs cells slots Q (F0 m (pc + 3) ls (.int (σ.1 4 1) :: rest))) : W p l e R s m args below meth c H locs cells slots Q (F0 m pc ls (.ref (pw_ad G (4)) :: rest)) :=
  va_get (D := pw_gD G) (ci := 7) (C := RX7) (T := TX7) (N := 2) hC.1 hC.2.1 hC.2.2.2.2.1 pw_inX7 hC.2.2.2.1 hC.2.2.2.2.2.1.1 hw.1.1 (4) (pw_at (by decide)) rfl 1 (by decide) (hC.2.2.2.2.1 _ hl) (fun _ h => h) rfl hdg kk
theorem pp_4_1 {v : Int32} (hC : pw_CX G own cc nL ret p s m args meth c) (hw : pw_WH G σ s.heap H locs) (hl : Cond.fieldLink own idx "PerhapsWas$Pile" "tops" "I" ∈ pw_BW) (hdg : decode cc pc = .ok (.putfield idx, 3))
    (kk : ∀ (H1 : Heap) (locs1 : List Loc), pw_WH G (pw_sM σ (4) 1 v) s.heap H1 locs1 → W p l e R s m args below meth c H1 locs1 cells slots Q (F0 m (pc + 3) ls rest)) : W p l e R s m args below meth c H locs cells slots Q (F0 m pc ls (.int v :: .ref (pw_ad G (4)) :: rest)) := by
  refine va_put (D := pw_gD G) (ci := 7) (v := .int v) (ty := .int) (C := RX7) (T := TX7) (N := 2) hC.1 hC.2.1 hC.2.2.2.2.1 pw_inX7 tyX7 tyX7_ok nmX7 hC.2.2.2.1 hC.2.2.2.2.2.1.1 hw.1.1 hw.1.2 hw.2 (4) (pw_at (by decide)) rfl 1 (by decide) (hC.2.2.2.2.1 _ hl) (fun _ h => h) rfl (by decide +kernel) rfl rfl (Nat.le_of_ble_eq_true rfl) hdg (fun H1 locs1 h1 h2 h3 => ?_)
  have hq := pw_setM (G := G) (σ := σ) (k := 4) (j := 1) (v := v) (by decide)
  skip
  exact kk H1 locs1 ⟨⟨hq ▸ h1, hq ▸ h2⟩, h3⟩
theorem pg_5_0 (hC : pw_CX G own cc nL ret p s m args meth c) (hw : pw_WH G σ s.heap H locs) (hl : Cond.fieldLink own idx "PerhapsWas$Conditions" "formulas" "[LPerhapsWas$Formula;" ∈ pw_BW) (hdg : decode cc pc = .ok (.getfield idx, 3))
    (kk : W p l e R s m args below meth c H locs cells slots Q (F0 m (pc + 3) ls (.ref (pw_ad G 27) :: rest))) : W p l e R s m args below meth c H locs cells slots Q (F0 m pc ls (.ref (pw_ad G (5)) :: rest)) :=
  va_get (D := pw_gD G) (ci := 0) (C := RX0) (T := TX0) (N := 2) hC.1 hC.2.1 hC.2.2.2.2.1 pw_inX0 hC.2.2.2.1 hC.2.2.2.2.2.1.1 hw.1.1 (5) (pw_at (by decide)) rfl 0 (by decide) (hC.2.2.2.2.1 _ hl) (fun _ h => h) rfl hdg kk
theorem pg_5_1 (hC : pw_CX G own cc nL ret p s m args meth c) (hw : pw_WH G σ s.heap H locs) (hl : Cond.fieldLink own idx "PerhapsWas$Conditions" "total" "I" ∈ pw_BW) (hdg : decode cc pc = .ok (.getfield idx, 3))
    (kk : W p l e R s m args below meth c H locs cells slots Q (F0 m (pc + 3) ls (.int (σ.1 5 1) :: rest))) : W p l e R s m args below meth c H locs cells slots Q (F0 m pc ls (.ref (pw_ad G (5)) :: rest)) :=
  va_get (D := pw_gD G) (ci := 0) (C := RX0) (T := TX0) (N := 2) hC.1 hC.2.1 hC.2.2.2.2.1 pw_inX0 hC.2.2.2.1 hC.2.2.2.2.2.1.1 hw.1.1 (5) (pw_at (by decide)) rfl 1 (by decide) (hC.2.2.2.2.1 _ hl) (fun _ h => h) rfl hdg kk
theorem pp_5_1 {v : Int32} (hC : pw_CX G own cc nL ret p s m args meth c) (hw : pw_WH G σ s.heap H locs) (hl : Cond.fieldLink own idx "PerhapsWas$Conditions" "total" "I" ∈ pw_BW) (hdg : decode cc pc = .ok (.putfield idx, 3))
    (kk : ∀ (H1 : Heap) (locs1 : List Loc), pw_WH G (pw_sM σ (5) 1 v) s.heap H1 locs1 → W p l e R s m args below meth c H1 locs1 cells slots Q (F0 m (pc + 3) ls rest)) : W p l e R s m args below meth c H locs cells slots Q (F0 m pc ls (.int v :: .ref (pw_ad G (5)) :: rest)) := by
  refine va_put (D := pw_gD G) (ci := 0) (v := .int v) (ty := .int) (C := RX0) (T := TX0) (N := 2) hC.1 hC.2.1 hC.2.2.2.2.1 pw_inX0 tyX0 tyX0_ok nmX0 hC.2.2.2.1 hC.2.2.2.2.2.1.1 hw.1.1 hw.1.2 hw.2 (5) (pw_at (by decide)) rfl 1 (by decide) (hC.2.2.2.2.1 _ hl) (fun _ h => h) rfl (by decide +kernel) rfl rfl (Nat.le_of_ble_eq_true rfl) hdg (fun H1 locs1 h1 h2 h3 => ?_)
  have hq := pw_setM (G := G) (σ := σ) (k := 5) (j := 1) (v := v) (by decide)
  skip
  exact kk H1 locs1 ⟨⟨hq ▸ h1, hq ▸ h2⟩, h3⟩
theorem pg_6_0 (hC : pw_CX G own cc nL ret p s m args meth c) (hw : pw_WH G σ s.heap H locs) (hl : Cond.fieldLink own idx "PerhapsWas$Moment" "history" "LPerhapsWas$History;" ∈ pw_BW) (hdg : decode cc pc = .ok (.getfield idx, 3))
    (kk : W p l e R s m args below meth c H locs cells slots Q (F0 m (pc + 3) ls (.ref (pw_ad G 1) :: rest))) : W p l e R s m args below meth c H locs cells slots Q (F0 m pc ls (.ref (pw_ad G (6)) :: rest)) :=
  va_get (D := pw_gD G) (ci := 5) (C := RX5) (T := TX5) (N := 3) hC.1 hC.2.1 hC.2.2.2.2.1 pw_inX5 hC.2.2.2.1 hC.2.2.2.2.2.1.1 hw.1.1 (6) (pw_at (by decide)) rfl 0 (by decide) (hC.2.2.2.2.1 _ hl) (fun _ h => h) rfl hdg kk
theorem pg_6_1 (hC : pw_CX G own cc nL ret p s m args meth c) (hw : pw_WH G σ s.heap H locs) (hl : Cond.fieldLink own idx "PerhapsWas$Moment" "counts" "[I" ∈ pw_BW) (hdg : decode cc pc = .ok (.getfield idx, 3))
    (kk : W p l e R s m args below meth c H locs cells slots Q (F0 m (pc + 3) ls (.ref (pw_ad G 28) :: rest))) : W p l e R s m args below meth c H locs cells slots Q (F0 m pc ls (.ref (pw_ad G (6)) :: rest)) :=
  va_get (D := pw_gD G) (ci := 5) (C := RX5) (T := TX5) (N := 3) hC.1 hC.2.1 hC.2.2.2.2.1 pw_inX5 hC.2.2.2.1 hC.2.2.2.2.2.1.1 hw.1.1 (6) (pw_at (by decide)) rfl 1 (by decide) (hC.2.2.2.2.1 _ hl) (fun _ h => h) rfl hdg kk
theorem pg_6_2 (hC : pw_CX G own cc nL ret p s m args meth c) (hw : pw_WH G σ s.heap H locs) (hl : Cond.fieldLink own idx "PerhapsWas$Moment" "pile" "[I" ∈ pw_BW) (hdg : decode cc pc = .ok (.getfield idx, 3))
    (kk : W p l e R s m args below meth c H locs cells slots Q (F0 m (pc + 3) ls (.ref (pw_ad G 29) :: rest))) : W p l e R s m args below meth c H locs cells slots Q (F0 m pc ls (.ref (pw_ad G (6)) :: rest)) :=
  va_get (D := pw_gD G) (ci := 5) (C := RX5) (T := TX5) (N := 3) hC.1 hC.2.1 hC.2.2.2.2.1 pw_inX5 hC.2.2.2.1 hC.2.2.2.2.2.1.1 hw.1.1 (6) (pw_at (by decide)) rfl 2 (by decide) (hC.2.2.2.2.1 _ hl) (fun _ h => h) rfl hdg kk
theorem pg_7_0 (hC : pw_CX G own cc nL ret p s m args meth c) (hw : pw_WH G σ s.heap H locs) (hl : Cond.fieldLink own idx "PerhapsWas$Marks" "moment" "LPerhapsWas$Moment;" ∈ pw_BW) (hdg : decode cc pc = .ok (.getfield idx, 3))
    (kk : W p l e R s m args below meth c H locs cells slots Q (F0 m (pc + 3) ls (.ref (pw_ad G 6) :: rest))) : W p l e R s m args below meth c H locs cells slots Q (F0 m pc ls (.ref (pw_ad G (7)) :: rest)) :=
  va_get (D := pw_gD G) (ci := 4) (C := RX4) (T := TX4) (N := 3) hC.1 hC.2.1 hC.2.2.2.2.1 pw_inX4 hC.2.2.2.1 hC.2.2.2.2.2.1.1 hw.1.1 (7) (pw_at (by decide)) rfl 0 (by decide) (hC.2.2.2.2.1 _ hl) (fun _ h => h) rfl hdg kk
theorem pg_7_1 (hC : pw_CX G own cc nL ret p s m args meth c) (hw : pw_WH G σ s.heap H locs) (hl : Cond.fieldLink own idx "PerhapsWas$Marks" "holds" "[Z" ∈ pw_BW) (hdg : decode cc pc = .ok (.getfield idx, 3))
    (kk : W p l e R s m args below meth c H locs cells slots Q (F0 m (pc + 3) ls (.ref (pw_ad G 30) :: rest))) : W p l e R s m args below meth c H locs cells slots Q (F0 m pc ls (.ref (pw_ad G (7)) :: rest)) :=
  va_get (D := pw_gD G) (ci := 4) (C := RX4) (T := TX4) (N := 3) hC.1 hC.2.1 hC.2.2.2.2.1 pw_inX4 hC.2.2.2.1 hC.2.2.2.2.2.1.1 hw.1.1 (7) (pw_at (by decide)) rfl 1 (by decide) (hC.2.2.2.2.1 _ hl) (fun _ h => h) rfl hdg kk
theorem pg_7_2 (hC : pw_CX G own cc nL ret p s m args meth c) (hw : pw_WH G σ s.heap H locs) (hl : Cond.fieldLink own idx "PerhapsWas$Marks" "nearest" "[I" ∈ pw_BW) (hdg : decode cc pc = .ok (.getfield idx, 3))
    (kk : W p l e R s m args below meth c H locs cells slots Q (F0 m (pc + 3) ls (.ref (pw_ad G 31) :: rest))) : W p l e R s m args below meth c H locs cells slots Q (F0 m pc ls (.ref (pw_ad G (7)) :: rest)) :=
  va_get (D := pw_gD G) (ci := 4) (C := RX4) (T := TX4) (N := 3) hC.1 hC.2.1 hC.2.2.2.2.1 pw_inX4 hC.2.2.2.1 hC.2.2.2.2.2.1.1 hw.1.1 (7) (pw_at (by decide)) rfl 2 (by decide) (hC.2.2.2.2.1 _ hl) (fun _ h => h) rfl hdg kk
theorem pg_8_0 (hC : pw_CX G own cc nL ret p s m args meth c) (hw : pw_WH G σ s.heap H locs) (hl : Cond.fieldLink own idx "PerhapsWas$Ways" "onward" "[J" ∈ pw_BW) (hdg : decode cc pc = .ok (.getfield idx, 3))
    (kk : W p l e R s m args below meth c H locs cells slots Q (F0 m (pc + 3) ls (.ref (pw_ad G 32) :: rest))) : W p l e R s m args below meth c H locs cells slots Q (F0 m pc ls (.ref (pw_ad G (8)) :: rest)) :=
  va_get (D := pw_gD G) (ci := 9) (C := RX9) (T := TX9) (N := 1) hC.1 hC.2.1 hC.2.2.2.2.1 pw_inX9 hC.2.2.2.1 hC.2.2.2.2.2.1.1 hw.1.1 (8) (pw_at (by decide)) rfl 0 (by decide) (hC.2.2.2.2.1 _ hl) (fun _ h => h) rfl hdg kk
theorem pg_9_0 (hC : pw_CX G own cc nL ret p s m args meth c) (hw : pw_WH G σ s.heap H locs) (hl : Cond.fieldLink own idx "PerhapsWas$Row" "told" "[I" ∈ pw_BW) (hdg : decode cc pc = .ok (.getfield idx, 3))
    (kk : W p l e R s m args below meth c H locs cells slots Q (F0 m (pc + 3) ls (.ref (pw_ad G 33) :: rest))) : W p l e R s m args below meth c H locs cells slots Q (F0 m pc ls (.ref (pw_ad G (9)) :: rest)) :=
  va_get (D := pw_gD G) (ci := 8) (C := RX8) (T := TX8) (N := 2) hC.1 hC.2.1 hC.2.2.2.2.1 pw_inX8 hC.2.2.2.1 hC.2.2.2.2.2.1.1 hw.1.1 (9) (pw_at (by decide)) rfl 0 (by decide) (hC.2.2.2.2.1 _ hl) (fun _ h => h) rfl hdg kk
theorem pg_9_1 (hC : pw_CX G own cc nL ret p s m args meth c) (hw : pw_WH G σ s.heap H locs) (hl : Cond.fieldLink own idx "PerhapsWas$Row" "length" "I" ∈ pw_BW) (hdg : decode cc pc = .ok (.getfield idx, 3))
    (kk : W p l e R s m args below meth c H locs cells slots Q (F0 m (pc + 3) ls (.int (σ.1 9 1) :: rest))) : W p l e R s m args below meth c H locs cells slots Q (F0 m pc ls (.ref (pw_ad G (9)) :: rest)) :=
  va_get (D := pw_gD G) (ci := 8) (C := RX8) (T := TX8) (N := 2) hC.1 hC.2.1 hC.2.2.2.2.1 pw_inX8 hC.2.2.2.1 hC.2.2.2.2.2.1.1 hw.1.1 (9) (pw_at (by decide)) rfl 1 (by decide) (hC.2.2.2.2.1 _ hl) (fun _ h => h) rfl hdg kk
theorem pp_9_1 {v : Int32} (hC : pw_CX G own cc nL ret p s m args meth c) (hw : pw_WH G σ s.heap H locs) (hl : Cond.fieldLink own idx "PerhapsWas$Row" "length" "I" ∈ pw_BW) (hdg : decode cc pc = .ok (.putfield idx, 3))
    (kk : ∀ (H1 : Heap) (locs1 : List Loc), pw_WH G (pw_sM σ (9) 1 v) s.heap H1 locs1 → W p l e R s m args below meth c H1 locs1 cells slots Q (F0 m (pc + 3) ls rest)) : W p l e R s m args below meth c H locs cells slots Q (F0 m pc ls (.int v :: .ref (pw_ad G (9)) :: rest)) := by
  refine va_put (D := pw_gD G) (ci := 8) (v := .int v) (ty := .int) (C := RX8) (T := TX8) (N := 2) hC.1 hC.2.1 hC.2.2.2.2.1 pw_inX8 tyX8 tyX8_ok nmX8 hC.2.2.2.1 hC.2.2.2.2.2.1.1 hw.1.1 hw.1.2 hw.2 (9) (pw_at (by decide)) rfl 1 (by decide) (hC.2.2.2.2.1 _ hl) (fun _ h => h) rfl (by decide +kernel) rfl rfl (Nat.le_of_ble_eq_true rfl) hdg (fun H1 locs1 h1 h2 h3 => ?_)
  have hq := pw_setM (G := G) (σ := σ) (k := 9) (j := 1) (v := v) (by decide)
  skip
  exact kk H1 locs1 ⟨⟨hq ▸ h1, hq ▸ h2⟩, h3⟩
theorem pg_10_0 (hC : pw_CX G own cc nL ret p s m args meth c) (hw : pw_WH G σ s.heap H locs) (hl : Cond.fieldLink own idx "PerhapsWasModel" "thrown" "I" ∈ pw_BW) (hdg : decode cc pc = .ok (.getfield idx, 3))
    (kk : W p l e R s m args below meth c H locs cells slots Q (F0 m (pc + 3) ls (.int (σ.1 10 0) :: rest))) : W p l e R s m args below meth c H locs cells slots Q (F0 m pc ls (.ref (pw_ad G (10)) :: rest)) :=
  va_get (D := pw_gD G) (ci := 11) (C := RX11) (T := TX11) (N := 28) hC.1 hC.2.1 hC.2.2.2.2.1 pw_inX11 hC.2.2.2.1 hC.2.2.2.2.2.1.1 hw.1.1 (10) (pw_at (by decide)) rfl 0 (by decide) (hC.2.2.2.2.1 _ hl) (fun _ h => h) rfl hdg kk
theorem pp_10_0 {v : Int32} (hC : pw_CX G own cc nL ret p s m args meth c) (hw : pw_WH G σ s.heap H locs) (hl : Cond.fieldLink own idx "PerhapsWasModel" "thrown" "I" ∈ pw_BW) (hdg : decode cc pc = .ok (.putfield idx, 3))
    (kk : ∀ (H1 : Heap) (locs1 : List Loc), pw_WH G (pw_sM σ (10) 0 v) s.heap H1 locs1 → W p l e R s m args below meth c H1 locs1 cells slots Q (F0 m (pc + 3) ls rest)) : W p l e R s m args below meth c H locs cells slots Q (F0 m pc ls (.int v :: .ref (pw_ad G (10)) :: rest)) := by
  refine va_put (D := pw_gD G) (ci := 11) (v := .int v) (ty := .int) (C := RX11) (T := TX11) (N := 28) hC.1 hC.2.1 hC.2.2.2.2.1 pw_inX11 tyX11 tyX11_ok nmX11 hC.2.2.2.1 hC.2.2.2.2.2.1.1 hw.1.1 hw.1.2 hw.2 (10) (pw_at (by decide)) rfl 0 (by decide) (hC.2.2.2.2.1 _ hl) (fun _ h => h) rfl (by decide +kernel) rfl rfl (Nat.le_of_ble_eq_true rfl) hdg (fun H1 locs1 h1 h2 h3 => ?_)
  have hq := pw_setM (G := G) (σ := σ) (k := 10) (j := 0) (v := v) (by decide)
  skip
  exact kk H1 locs1 ⟨⟨hq ▸ h1, hq ▸ h2⟩, h3⟩
theorem pg_10_1 (hC : pw_CX G own cc nL ret p s m args meth c) (hw : pw_WH G σ s.heap H locs) (hl : Cond.fieldLink own idx "PerhapsWasModel" "processes" "I" ∈ pw_BW) (hdg : decode cc pc = .ok (.getfield idx, 3))
    (kk : W p l e R s m args below meth c H locs cells slots Q (F0 m (pc + 3) ls (.int (σ.1 10 1) :: rest))) : W p l e R s m args below meth c H locs cells slots Q (F0 m pc ls (.ref (pw_ad G (10)) :: rest)) :=
  va_get (D := pw_gD G) (ci := 11) (C := RX11) (T := TX11) (N := 28) hC.1 hC.2.1 hC.2.2.2.2.1 pw_inX11 hC.2.2.2.1 hC.2.2.2.2.2.1.1 hw.1.1 (10) (pw_at (by decide)) rfl 1 (by decide) (hC.2.2.2.2.1 _ hl) (fun _ h => h) rfl hdg kk
theorem pp_10_1 {v : Int32} (hC : pw_CX G own cc nL ret p s m args meth c) (hw : pw_WH G σ s.heap H locs) (hl : Cond.fieldLink own idx "PerhapsWasModel" "processes" "I" ∈ pw_BW) (hdg : decode cc pc = .ok (.putfield idx, 3))
    (kk : ∀ (H1 : Heap) (locs1 : List Loc), pw_WH G (pw_sM σ (10) 1 v) s.heap H1 locs1 → W p l e R s m args below meth c H1 locs1 cells slots Q (F0 m (pc + 3) ls rest)) : W p l e R s m args below meth c H locs cells slots Q (F0 m pc ls (.int v :: .ref (pw_ad G (10)) :: rest)) := by
  refine va_put (D := pw_gD G) (ci := 11) (v := .int v) (ty := .int) (C := RX11) (T := TX11) (N := 28) hC.1 hC.2.1 hC.2.2.2.2.1 pw_inX11 tyX11 tyX11_ok nmX11 hC.2.2.2.1 hC.2.2.2.2.2.1.1 hw.1.1 hw.1.2 hw.2 (10) (pw_at (by decide)) rfl 1 (by decide) (hC.2.2.2.2.1 _ hl) (fun _ h => h) rfl (by decide +kernel) rfl rfl (Nat.le_of_ble_eq_true rfl) hdg (fun H1 locs1 h1 h2 h3 => ?_)
  have hq := pw_setM (G := G) (σ := σ) (k := 10) (j := 1) (v := v) (by decide)
  skip
  exact kk H1 locs1 ⟨⟨hq ▸ h1, hq ▸ h2⟩, h3⟩
theorem pg_10_2 (hC : pw_CX G own cc nL ret p s m args meth c) (hw : pw_WH G σ s.heap H locs) (hl : Cond.fieldLink own idx "PerhapsWasModel" "events" "[I" ∈ pw_BW) (hdg : decode cc pc = .ok (.getfield idx, 3))
    (kk : W p l e R s m args below meth c H locs cells slots Q (F0 m (pc + 3) ls (.ref (pw_ad G 34) :: rest))) : W p l e R s m args below meth c H locs cells slots Q (F0 m pc ls (.ref (pw_ad G (10)) :: rest)) :=
  va_get (D := pw_gD G) (ci := 11) (C := RX11) (T := TX11) (N := 28) hC.1 hC.2.1 hC.2.2.2.2.1 pw_inX11 hC.2.2.2.1 hC.2.2.2.2.2.1.1 hw.1.1 (10) (pw_at (by decide)) rfl 2 (by decide) (hC.2.2.2.2.1 _ hl) (fun _ h => h) rfl hdg kk
theorem pg_10_3 (hC : pw_CX G own cc nL ret p s m args meth c) (hw : pw_WH G σ s.heap H locs) (hl : Cond.fieldLink own idx "PerhapsWasModel" "kind" "[I" ∈ pw_BW) (hdg : decode cc pc = .ok (.getfield idx, 3))
    (kk : W p l e R s m args below meth c H locs cells slots Q (F0 m (pc + 3) ls (.ref (pw_ad G 35) :: rest))) : W p l e R s m args below meth c H locs cells slots Q (F0 m pc ls (.ref (pw_ad G (10)) :: rest)) :=
  va_get (D := pw_gD G) (ci := 11) (C := RX11) (T := TX11) (N := 28) hC.1 hC.2.1 hC.2.2.2.2.1 pw_inX11 hC.2.2.2.1 hC.2.2.2.2.2.1.1 hw.1.1 (10) (pw_at (by decide)) rfl 3 (by decide) (hC.2.2.2.2.1 _ hl) (fun _ h => h) rfl hdg kk
theorem pg_10_4 (hC : pw_CX G own cc nL ret p s m args meth c) (hw : pw_WH G σ s.heap H locs) (hl : Cond.fieldLink own idx "PerhapsWasModel" "about" "[I" ∈ pw_BW) (hdg : decode cc pc = .ok (.getfield idx, 3))
    (kk : W p l e R s m args below meth c H locs cells slots Q (F0 m (pc + 3) ls (.ref (pw_ad G 36) :: rest))) : W p l e R s m args below meth c H locs cells slots Q (F0 m pc ls (.ref (pw_ad G (10)) :: rest)) :=
  va_get (D := pw_gD G) (ci := 11) (C := RX11) (T := TX11) (N := 28) hC.1 hC.2.1 hC.2.2.2.2.1 pw_inX11 hC.2.2.2.1 hC.2.2.2.2.2.1.1 hw.1.1 (10) (pw_at (by decide)) rfl 4 (by decide) (hC.2.2.2.2.1 _ hl) (fun _ h => h) rfl hdg kk
theorem pg_10_5 (hC : pw_CX G own cc nL ret p s m args meth c) (hw : pw_WH G σ s.heap H locs) (hl : Cond.fieldLink own idx "PerhapsWasModel" "worth" "[I" ∈ pw_BW) (hdg : decode cc pc = .ok (.getfield idx, 3))
    (kk : W p l e R s m args below meth c H locs cells slots Q (F0 m (pc + 3) ls (.ref (pw_ad G 37) :: rest))) : W p l e R s m args below meth c H locs cells slots Q (F0 m pc ls (.ref (pw_ad G (10)) :: rest)) :=
  va_get (D := pw_gD G) (ci := 11) (C := RX11) (T := TX11) (N := 28) hC.1 hC.2.1 hC.2.2.2.2.1 pw_inX11 hC.2.2.2.1 hC.2.2.2.2.2.1.1 hw.1.1 (10) (pw_at (by decide)) rfl 5 (by decide) (hC.2.2.2.2.1 _ hl) (fun _ h => h) rfl hdg kk
theorem pg_10_6 (hC : pw_CX G own cc nL ret p s m args meth c) (hw : pw_WH G σ s.heap H locs) (hl : Cond.fieldLink own idx "PerhapsWasModel" "came" "[I" ∈ pw_BW) (hdg : decode cc pc = .ok (.getfield idx, 3))
    (kk : W p l e R s m args below meth c H locs cells slots Q (F0 m (pc + 3) ls (.ref (pw_ad G 38) :: rest))) : W p l e R s m args below meth c H locs cells slots Q (F0 m pc ls (.ref (pw_ad G (10)) :: rest)) :=
  va_get (D := pw_gD G) (ci := 11) (C := RX11) (T := TX11) (N := 28) hC.1 hC.2.1 hC.2.2.2.2.1 pw_inX11 hC.2.2.2.1 hC.2.2.2.2.2.1.1 hw.1.1 (10) (pw_at (by decide)) rfl 6 (by decide) (hC.2.2.2.2.1 _ hl) (fun _ h => h) rfl hdg kk
theorem pg_10_7 (hC : pw_CX G own cc nL ret p s m args meth c) (hw : pw_WH G σ s.heap H locs) (hl : Cond.fieldLink own idx "PerhapsWasModel" "clock" "[I" ∈ pw_BW) (hdg : decode cc pc = .ok (.getfield idx, 3))
    (kk : W p l e R s m args below meth c H locs cells slots Q (F0 m (pc + 3) ls (.ref (pw_ad G 39) :: rest))) : W p l e R s m args below meth c H locs cells slots Q (F0 m pc ls (.ref (pw_ad G (10)) :: rest)) :=
  va_get (D := pw_gD G) (ci := 11) (C := RX11) (T := TX11) (N := 28) hC.1 hC.2.1 hC.2.2.2.2.1 pw_inX11 hC.2.2.2.1 hC.2.2.2.2.2.1.1 hw.1.1 (10) (pw_at (by decide)) rfl 7 (by decide) (hC.2.2.2.2.1 _ hl) (fun _ h => h) rfl hdg kk
theorem pg_10_8 (hC : pw_CX G own cc nL ret p s m args meth c) (hw : pw_WH G σ s.heap H locs) (hl : Cond.fieldLink own idx "PerhapsWasModel" "all" "I" ∈ pw_BW) (hdg : decode cc pc = .ok (.getfield idx, 3))
    (kk : W p l e R s m args below meth c H locs cells slots Q (F0 m (pc + 3) ls (.int (σ.1 10 8) :: rest))) : W p l e R s m args below meth c H locs cells slots Q (F0 m pc ls (.ref (pw_ad G (10)) :: rest)) :=
  va_get (D := pw_gD G) (ci := 11) (C := RX11) (T := TX11) (N := 28) hC.1 hC.2.1 hC.2.2.2.2.1 pw_inX11 hC.2.2.2.1 hC.2.2.2.2.2.1.1 hw.1.1 (10) (pw_at (by decide)) rfl 8 (by decide) (hC.2.2.2.2.1 _ hl) (fun _ h => h) rfl hdg kk
theorem pp_10_8 {v : Int32} (hC : pw_CX G own cc nL ret p s m args meth c) (hw : pw_WH G σ s.heap H locs) (hl : Cond.fieldLink own idx "PerhapsWasModel" "all" "I" ∈ pw_BW) (hdg : decode cc pc = .ok (.putfield idx, 3))
    (kk : ∀ (H1 : Heap) (locs1 : List Loc), pw_WH G (pw_sM σ (10) 8 v) s.heap H1 locs1 → W p l e R s m args below meth c H1 locs1 cells slots Q (F0 m (pc + 3) ls rest)) : W p l e R s m args below meth c H locs cells slots Q (F0 m pc ls (.int v :: .ref (pw_ad G (10)) :: rest)) := by
  refine va_put (D := pw_gD G) (ci := 11) (v := .int v) (ty := .int) (C := RX11) (T := TX11) (N := 28) hC.1 hC.2.1 hC.2.2.2.2.1 pw_inX11 tyX11 tyX11_ok nmX11 hC.2.2.2.1 hC.2.2.2.2.2.1.1 hw.1.1 hw.1.2 hw.2 (10) (pw_at (by decide)) rfl 8 (by decide) (hC.2.2.2.2.1 _ hl) (fun _ h => h) rfl (by decide +kernel) rfl rfl (Nat.le_of_ble_eq_true rfl) hdg (fun H1 locs1 h1 h2 h3 => ?_)
  have hq := pw_setM (G := G) (σ := σ) (k := 10) (j := 8) (v := v) (by decide)
  skip
  exact kk H1 locs1 ⟨⟨hq ▸ h1, hq ▸ h2⟩, h3⟩
theorem pg_10_9 (hC : pw_CX G own cc nL ret p s m args meth c) (hw : pw_WH G σ s.heap H locs) (hl : Cond.fieldLink own idx "PerhapsWasModel" "letters" "I" ∈ pw_BW) (hdg : decode cc pc = .ok (.getfield idx, 3))
    (kk : W p l e R s m args below meth c H locs cells slots Q (F0 m (pc + 3) ls (.int (σ.1 10 9) :: rest))) : W p l e R s m args below meth c H locs cells slots Q (F0 m pc ls (.ref (pw_ad G (10)) :: rest)) :=
  va_get (D := pw_gD G) (ci := 11) (C := RX11) (T := TX11) (N := 28) hC.1 hC.2.1 hC.2.2.2.2.1 pw_inX11 hC.2.2.2.1 hC.2.2.2.2.2.1.1 hw.1.1 (10) (pw_at (by decide)) rfl 9 (by decide) (hC.2.2.2.2.1 _ hl) (fun _ h => h) rfl hdg kk
theorem pp_10_9 {v : Int32} (hC : pw_CX G own cc nL ret p s m args meth c) (hw : pw_WH G σ s.heap H locs) (hl : Cond.fieldLink own idx "PerhapsWasModel" "letters" "I" ∈ pw_BW) (hdg : decode cc pc = .ok (.putfield idx, 3))
    (kk : ∀ (H1 : Heap) (locs1 : List Loc), pw_WH G (pw_sM σ (10) 9 v) s.heap H1 locs1 → W p l e R s m args below meth c H1 locs1 cells slots Q (F0 m (pc + 3) ls rest)) : W p l e R s m args below meth c H locs cells slots Q (F0 m pc ls (.int v :: .ref (pw_ad G (10)) :: rest)) := by
  refine va_put (D := pw_gD G) (ci := 11) (v := .int v) (ty := .int) (C := RX11) (T := TX11) (N := 28) hC.1 hC.2.1 hC.2.2.2.2.1 pw_inX11 tyX11 tyX11_ok nmX11 hC.2.2.2.1 hC.2.2.2.2.2.1.1 hw.1.1 hw.1.2 hw.2 (10) (pw_at (by decide)) rfl 9 (by decide) (hC.2.2.2.2.1 _ hl) (fun _ h => h) rfl (by decide +kernel) rfl rfl (Nat.le_of_ble_eq_true rfl) hdg (fun H1 locs1 h1 h2 h3 => ?_)
  have hq := pw_setM (G := G) (σ := σ) (k := 10) (j := 9) (v := v) (by decide)
  skip
  exact kk H1 locs1 ⟨⟨hq ▸ h1, hq ▸ h2⟩, h3⟩
theorem pg_10_10 (hC : pw_CX G own cc nL ret p s m args meth c) (hw : pw_WH G σ s.heap H locs) (hl : Cond.fieldLink own idx "PerhapsWasModel" "from" "[I" ∈ pw_BW) (hdg : decode cc pc = .ok (.getfield idx, 3))
    (kk : W p l e R s m args below meth c H locs cells slots Q (F0 m (pc + 3) ls (.ref (pw_ad G 40) :: rest))) : W p l e R s m args below meth c H locs cells slots Q (F0 m pc ls (.ref (pw_ad G (10)) :: rest)) :=
  va_get (D := pw_gD G) (ci := 11) (C := RX11) (T := TX11) (N := 28) hC.1 hC.2.1 hC.2.2.2.2.1 pw_inX11 hC.2.2.2.1 hC.2.2.2.2.2.1.1 hw.1.1 (10) (pw_at (by decide)) rfl 10 (by decide) (hC.2.2.2.2.1 _ hl) (fun _ h => h) rfl hdg kk
theorem pg_10_11 (hC : pw_CX G own cc nL ret p s m args meth c) (hw : pw_WH G σ s.heap H locs) (hl : Cond.fieldLink own idx "PerhapsWasModel" "to" "[I" ∈ pw_BW) (hdg : decode cc pc = .ok (.getfield idx, 3))
    (kk : W p l e R s m args below meth c H locs cells slots Q (F0 m (pc + 3) ls (.ref (pw_ad G 41) :: rest))) : W p l e R s m args below meth c H locs cells slots Q (F0 m pc ls (.ref (pw_ad G (10)) :: rest)) :=
  va_get (D := pw_gD G) (ci := 11) (C := RX11) (T := TX11) (N := 28) hC.1 hC.2.1 hC.2.2.2.2.1 pw_inX11 hC.2.2.2.1 hC.2.2.2.2.2.1.1 hw.1.1 (10) (pw_at (by decide)) rfl 11 (by decide) (hC.2.2.2.2.1 _ hl) (fun _ h => h) rfl hdg kk
theorem pg_10_12 (hC : pw_CX G own cc nL ret p s m args meth c) (hw : pw_WH G σ s.heap H locs) (hl : Cond.fieldLink own idx "PerhapsWasModel" "sent" "[I" ∈ pw_BW) (hdg : decode cc pc = .ok (.getfield idx, 3))
    (kk : W p l e R s m args below meth c H locs cells slots Q (F0 m (pc + 3) ls (.ref (pw_ad G 42) :: rest))) : W p l e R s m args below meth c H locs cells slots Q (F0 m pc ls (.ref (pw_ad G (10)) :: rest)) :=
  va_get (D := pw_gD G) (ci := 11) (C := RX11) (T := TX11) (N := 28) hC.1 hC.2.1 hC.2.2.2.2.1 pw_inX11 hC.2.2.2.1 hC.2.2.2.2.2.1.1 hw.1.1 (10) (pw_at (by decide)) rfl 12 (by decide) (hC.2.2.2.2.1 _ hl) (fun _ h => h) rfl hdg kk
theorem pg_10_13 (hC : pw_CX G own cc nL ret p s m args meth c) (hw : pw_WH G σ s.heap H locs) (hl : Cond.fieldLink own idx "PerhapsWasModel" "took" "[I" ∈ pw_BW) (hdg : decode cc pc = .ok (.getfield idx, 3))
    (kk : W p l e R s m args below meth c H locs cells slots Q (F0 m (pc + 3) ls (.ref (pw_ad G 43) :: rest))) : W p l e R s m args below meth c H locs cells slots Q (F0 m pc ls (.ref (pw_ad G (10)) :: rest)) :=
  va_get (D := pw_gD G) (ci := 11) (C := RX11) (T := TX11) (N := 28) hC.1 hC.2.1 hC.2.2.2.2.1 pw_inX11 hC.2.2.2.1 hC.2.2.2.2.2.1.1 hw.1.1 (10) (pw_at (by decide)) rfl 13 (by decide) (hC.2.2.2.2.1 _ hl) (fun _ h => h) rfl hdg kk
theorem pg_10_14 (hC : pw_CX G own cc nL ret p s m args meth c) (hw : pw_WH G σ s.heap H locs) (hl : Cond.fieldLink own idx "PerhapsWasModel" "barred" "[Z" ∈ pw_BW) (hdg : decode cc pc = .ok (.getfield idx, 3))
    (kk : W p l e R s m args below meth c H locs cells slots Q (F0 m (pc + 3) ls (.ref (pw_ad G 44) :: rest))) : W p l e R s m args below meth c H locs cells slots Q (F0 m pc ls (.ref (pw_ad G (10)) :: rest)) :=
  va_get (D := pw_gD G) (ci := 11) (C := RX11) (T := TX11) (N := 28) hC.1 hC.2.1 hC.2.2.2.2.1 pw_inX11 hC.2.2.2.1 hC.2.2.2.2.2.1.1 hw.1.1 (10) (pw_at (by decide)) rfl 14 (by decide) (hC.2.2.2.2.1 _ hl) (fun _ h => h) rfl hdg kk
theorem pg_10_15 (hC : pw_CX G own cc nL ret p s m args meth c) (hw : pw_WH G σ s.heap H locs) (hl : Cond.fieldLink own idx "PerhapsWasModel" "ways" "[J" ∈ pw_BW) (hdg : decode cc pc = .ok (.getfield idx, 3))
    (kk : W p l e R s m args below meth c H locs cells slots Q (F0 m (pc + 3) ls (.ref (pw_ad G 45) :: rest))) : W p l e R s m args below meth c H locs cells slots Q (F0 m pc ls (.ref (pw_ad G (10)) :: rest)) :=
  va_get (D := pw_gD G) (ci := 11) (C := RX11) (T := TX11) (N := 28) hC.1 hC.2.1 hC.2.2.2.2.1 pw_inX11 hC.2.2.2.1 hC.2.2.2.2.2.1.1 hw.1.1 (10) (pw_at (by decide)) rfl 15 (by decide) (hC.2.2.2.2.1 _ hl) (fun _ h => h) rfl hdg kk
theorem pg_10_16 (hC : pw_CX G own cc nL ret p s m args meth c) (hw : pw_WH G σ s.heap H locs) (hl : Cond.fieldLink own idx "PerhapsWasModel" "what" "[I" ∈ pw_BW) (hdg : decode cc pc = .ok (.getfield idx, 3))
    (kk : W p l e R s m args below meth c H locs cells slots Q (F0 m (pc + 3) ls (.ref (pw_ad G 46) :: rest))) : W p l e R s m args below meth c H locs cells slots Q (F0 m pc ls (.ref (pw_ad G (10)) :: rest)) :=
  va_get (D := pw_gD G) (ci := 11) (C := RX11) (T := TX11) (N := 28) hC.1 hC.2.1 hC.2.2.2.2.1 pw_inX11 hC.2.2.2.1 hC.2.2.2.2.2.1.1 hw.1.1 (10) (pw_at (by decide)) rfl 16 (by decide) (hC.2.2.2.2.1 _ hl) (fun _ h => h) rfl hdg kk
theorem pg_10_17 (hC : pw_CX G own cc nL ret p s m args meth c) (hw : pw_WH G σ s.heap H locs) (hl : Cond.fieldLink own idx "PerhapsWasModel" "partA" "[I" ∈ pw_BW) (hdg : decode cc pc = .ok (.getfield idx, 3))
    (kk : W p l e R s m args below meth c H locs cells slots Q (F0 m (pc + 3) ls (.ref (pw_ad G 47) :: rest))) : W p l e R s m args below meth c H locs cells slots Q (F0 m pc ls (.ref (pw_ad G (10)) :: rest)) :=
  va_get (D := pw_gD G) (ci := 11) (C := RX11) (T := TX11) (N := 28) hC.1 hC.2.1 hC.2.2.2.2.1 pw_inX11 hC.2.2.2.1 hC.2.2.2.2.2.1.1 hw.1.1 (10) (pw_at (by decide)) rfl 17 (by decide) (hC.2.2.2.2.1 _ hl) (fun _ h => h) rfl hdg kk
theorem pg_10_18 (hC : pw_CX G own cc nL ret p s m args meth c) (hw : pw_WH G σ s.heap H locs) (hl : Cond.fieldLink own idx "PerhapsWasModel" "partB" "[I" ∈ pw_BW) (hdg : decode cc pc = .ok (.getfield idx, 3))
    (kk : W p l e R s m args below meth c H locs cells slots Q (F0 m (pc + 3) ls (.ref (pw_ad G 48) :: rest))) : W p l e R s m args below meth c H locs cells slots Q (F0 m pc ls (.ref (pw_ad G (10)) :: rest)) :=
  va_get (D := pw_gD G) (ci := 11) (C := RX11) (T := TX11) (N := 28) hC.1 hC.2.1 hC.2.2.2.2.1 pw_inX11 hC.2.2.2.1 hC.2.2.2.2.2.1.1 hw.1.1 (10) (pw_at (by decide)) rfl 18 (by decide) (hC.2.2.2.2.1 _ hl) (fun _ h => h) rfl hdg kk
theorem pg_10_19 (hC : pw_CX G own cc nL ret p s m args meth c) (hw : pw_WH G σ s.heap H locs) (hl : Cond.fieldLink own idx "PerhapsWasModel" "parts" "[I" ∈ pw_BW) (hdg : decode cc pc = .ok (.getfield idx, 3))
    (kk : W p l e R s m args below meth c H locs cells slots Q (F0 m (pc + 3) ls (.ref (pw_ad G 49) :: rest))) : W p l e R s m args below meth c H locs cells slots Q (F0 m pc ls (.ref (pw_ad G (10)) :: rest)) :=
  va_get (D := pw_gD G) (ci := 11) (C := RX11) (T := TX11) (N := 28) hC.1 hC.2.1 hC.2.2.2.2.1 pw_inX11 hC.2.2.2.1 hC.2.2.2.2.2.1.1 hw.1.1 (10) (pw_at (by decide)) rfl 19 (by decide) (hC.2.2.2.2.1 _ hl) (fun _ h => h) rfl hdg kk
theorem pg_10_20 (hC : pw_CX G own cc nL ret p s m args meth c) (hw : pw_WH G σ s.heap H locs) (hl : Cond.fieldLink own idx "PerhapsWasModel" "conditions" "I" ∈ pw_BW) (hdg : decode cc pc = .ok (.getfield idx, 3))
    (kk : W p l e R s m args below meth c H locs cells slots Q (F0 m (pc + 3) ls (.int (σ.1 10 20) :: rest))) : W p l e R s m args below meth c H locs cells slots Q (F0 m pc ls (.ref (pw_ad G (10)) :: rest)) :=
  va_get (D := pw_gD G) (ci := 11) (C := RX11) (T := TX11) (N := 28) hC.1 hC.2.1 hC.2.2.2.2.1 pw_inX11 hC.2.2.2.1 hC.2.2.2.2.2.1.1 hw.1.1 (10) (pw_at (by decide)) rfl 20 (by decide) (hC.2.2.2.2.1 _ hl) (fun _ h => h) rfl hdg kk
theorem pp_10_20 {v : Int32} (hC : pw_CX G own cc nL ret p s m args meth c) (hw : pw_WH G σ s.heap H locs) (hl : Cond.fieldLink own idx "PerhapsWasModel" "conditions" "I" ∈ pw_BW) (hdg : decode cc pc = .ok (.putfield idx, 3))
    (kk : ∀ (H1 : Heap) (locs1 : List Loc), pw_WH G (pw_sM σ (10) 20 v) s.heap H1 locs1 → W p l e R s m args below meth c H1 locs1 cells slots Q (F0 m (pc + 3) ls rest)) : W p l e R s m args below meth c H locs cells slots Q (F0 m pc ls (.int v :: .ref (pw_ad G (10)) :: rest)) := by
  refine va_put (D := pw_gD G) (ci := 11) (v := .int v) (ty := .int) (C := RX11) (T := TX11) (N := 28) hC.1 hC.2.1 hC.2.2.2.2.1 pw_inX11 tyX11 tyX11_ok nmX11 hC.2.2.2.1 hC.2.2.2.2.2.1.1 hw.1.1 hw.1.2 hw.2 (10) (pw_at (by decide)) rfl 20 (by decide) (hC.2.2.2.2.1 _ hl) (fun _ h => h) rfl (by decide +kernel) rfl rfl (Nat.le_of_ble_eq_true rfl) hdg (fun H1 locs1 h1 h2 h3 => ?_)
  have hq := pw_setM (G := G) (σ := σ) (k := 10) (j := 20) (v := v) (by decide)
  skip
  exact kk H1 locs1 ⟨⟨hq ▸ h1, hq ▸ h2⟩, h3⟩
theorem pg_10_21 (hC : pw_CX G own cc nL ret p s m args meth c) (hw : pw_WH G σ s.heap H locs) (hl : Cond.fieldLink own idx "PerhapsWasModel" "piled" "I" ∈ pw_BW) (hdg : decode cc pc = .ok (.getfield idx, 3))
    (kk : W p l e R s m args below meth c H locs cells slots Q (F0 m (pc + 3) ls (.int (σ.1 10 21) :: rest))) : W p l e R s m args below meth c H locs cells slots Q (F0 m pc ls (.ref (pw_ad G (10)) :: rest)) :=
  va_get (D := pw_gD G) (ci := 11) (C := RX11) (T := TX11) (N := 28) hC.1 hC.2.1 hC.2.2.2.2.1 pw_inX11 hC.2.2.2.1 hC.2.2.2.2.2.1.1 hw.1.1 (10) (pw_at (by decide)) rfl 21 (by decide) (hC.2.2.2.2.1 _ hl) (fun _ h => h) rfl hdg kk
theorem pp_10_21 {v : Int32} (hC : pw_CX G own cc nL ret p s m args meth c) (hw : pw_WH G σ s.heap H locs) (hl : Cond.fieldLink own idx "PerhapsWasModel" "piled" "I" ∈ pw_BW) (hdg : decode cc pc = .ok (.putfield idx, 3))
    (kk : ∀ (H1 : Heap) (locs1 : List Loc), pw_WH G (pw_sM σ (10) 21 v) s.heap H1 locs1 → W p l e R s m args below meth c H1 locs1 cells slots Q (F0 m (pc + 3) ls rest)) : W p l e R s m args below meth c H locs cells slots Q (F0 m pc ls (.int v :: .ref (pw_ad G (10)) :: rest)) := by
  refine va_put (D := pw_gD G) (ci := 11) (v := .int v) (ty := .int) (C := RX11) (T := TX11) (N := 28) hC.1 hC.2.1 hC.2.2.2.2.1 pw_inX11 tyX11 tyX11_ok nmX11 hC.2.2.2.1 hC.2.2.2.2.2.1.1 hw.1.1 hw.1.2 hw.2 (10) (pw_at (by decide)) rfl 21 (by decide) (hC.2.2.2.2.1 _ hl) (fun _ h => h) rfl (by decide +kernel) rfl rfl (Nat.le_of_ble_eq_true rfl) hdg (fun H1 locs1 h1 h2 h3 => ?_)
  have hq := pw_setM (G := G) (σ := σ) (k := 10) (j := 21) (v := v) (by decide)
  skip
  exact kk H1 locs1 ⟨⟨hq ▸ h1, hq ▸ h2⟩, h3⟩
theorem pg_10_22 (hC : pw_CX G own cc nL ret p s m args meth c) (hw : pw_WH G σ s.heap H locs) (hl : Cond.fieldLink own idx "PerhapsWasModel" "status" "I" ∈ pw_BW) (hdg : decode cc pc = .ok (.getfield idx, 3))
    (kk : W p l e R s m args below meth c H locs cells slots Q (F0 m (pc + 3) ls (.int (σ.1 10 22) :: rest))) : W p l e R s m args below meth c H locs cells slots Q (F0 m pc ls (.ref (pw_ad G (10)) :: rest)) :=
  va_get (D := pw_gD G) (ci := 11) (C := RX11) (T := TX11) (N := 28) hC.1 hC.2.1 hC.2.2.2.2.1 pw_inX11 hC.2.2.2.1 hC.2.2.2.2.2.1.1 hw.1.1 (10) (pw_at (by decide)) rfl 22 (by decide) (hC.2.2.2.2.1 _ hl) (fun _ h => h) rfl hdg kk
theorem pp_10_22 {v : Int32} (hC : pw_CX G own cc nL ret p s m args meth c) (hw : pw_WH G σ s.heap H locs) (hl : Cond.fieldLink own idx "PerhapsWasModel" "status" "I" ∈ pw_BW) (hdg : decode cc pc = .ok (.putfield idx, 3))
    (kk : ∀ (H1 : Heap) (locs1 : List Loc), pw_WH G (pw_sM σ (10) 22 v) s.heap H1 locs1 → W p l e R s m args below meth c H1 locs1 cells slots Q (F0 m (pc + 3) ls rest)) : W p l e R s m args below meth c H locs cells slots Q (F0 m pc ls (.int v :: .ref (pw_ad G (10)) :: rest)) := by
  refine va_put (D := pw_gD G) (ci := 11) (v := .int v) (ty := .int) (C := RX11) (T := TX11) (N := 28) hC.1 hC.2.1 hC.2.2.2.2.1 pw_inX11 tyX11 tyX11_ok nmX11 hC.2.2.2.1 hC.2.2.2.2.2.1.1 hw.1.1 hw.1.2 hw.2 (10) (pw_at (by decide)) rfl 22 (by decide) (hC.2.2.2.2.1 _ hl) (fun _ h => h) rfl (by decide +kernel) rfl rfl (Nat.le_of_ble_eq_true rfl) hdg (fun H1 locs1 h1 h2 h3 => ?_)
  have hq := pw_setM (G := G) (σ := σ) (k := 10) (j := 22) (v := v) (by decide)
  skip
  exact kk H1 locs1 ⟨⟨hq ▸ h1, hq ▸ h2⟩, h3⟩
theorem pg_10_23 (hC : pw_CX G own cc nL ret p s m args meth c) (hw : pw_WH G σ s.heap H locs) (hl : Cond.fieldLink own idx "PerhapsWasModel" "pile" "[I" ∈ pw_BW) (hdg : decode cc pc = .ok (.getfield idx, 3))
    (kk : W p l e R s m args below meth c H locs cells slots Q (F0 m (pc + 3) ls (.ref (pw_ad G 50) :: rest))) : W p l e R s m args below meth c H locs cells slots Q (F0 m pc ls (.ref (pw_ad G (10)) :: rest)) :=
  va_get (D := pw_gD G) (ci := 11) (C := RX11) (T := TX11) (N := 28) hC.1 hC.2.1 hC.2.2.2.2.1 pw_inX11 hC.2.2.2.1 hC.2.2.2.2.2.1.1 hw.1.1 (10) (pw_at (by decide)) rfl 23 (by decide) (hC.2.2.2.2.1 _ hl) (fun _ h => h) rfl hdg kk
theorem pg_10_24 (hC : pw_CX G own cc nL ret p s m args meth c) (hw : pw_WH G σ s.heap H locs) (hl : Cond.fieldLink own idx "PerhapsWasModel" "holds" "[Z" ∈ pw_BW) (hdg : decode cc pc = .ok (.getfield idx, 3))
    (kk : W p l e R s m args below meth c H locs cells slots Q (F0 m (pc + 3) ls (.ref (pw_ad G 51) :: rest))) : W p l e R s m args below meth c H locs cells slots Q (F0 m pc ls (.ref (pw_ad G (10)) :: rest)) :=
  va_get (D := pw_gD G) (ci := 11) (C := RX11) (T := TX11) (N := 28) hC.1 hC.2.1 hC.2.2.2.2.1 pw_inX11 hC.2.2.2.1 hC.2.2.2.2.2.1.1 hw.1.1 (10) (pw_at (by decide)) rfl 24 (by decide) (hC.2.2.2.2.1 _ hl) (fun _ h => h) rfl hdg kk
theorem pg_10_25 (hC : pw_CX G own cc nL ret p s m args meth c) (hw : pw_WH G σ s.heap H locs) (hl : Cond.fieldLink own idx "PerhapsWasModel" "come" "[Z" ∈ pw_BW) (hdg : decode cc pc = .ok (.getfield idx, 3))
    (kk : W p l e R s m args below meth c H locs cells slots Q (F0 m (pc + 3) ls (.ref (pw_ad G 52) :: rest))) : W p l e R s m args below meth c H locs cells slots Q (F0 m pc ls (.ref (pw_ad G (10)) :: rest)) :=
  va_get (D := pw_gD G) (ci := 11) (C := RX11) (T := TX11) (N := 28) hC.1 hC.2.1 hC.2.2.2.2.1 pw_inX11 hC.2.2.2.1 hC.2.2.2.2.2.1.1 hw.1.1 (10) (pw_at (by decide)) rfl 25 (by decide) (hC.2.2.2.2.1 _ hl) (fun _ h => h) rfl hdg kk
theorem pg_10_26 (hC : pw_CX G own cc nL ret p s m args meth c) (hw : pw_WH G σ s.heap H locs) (hl : Cond.fieldLink own idx "PerhapsWasModel" "said" "[I" ∈ pw_BW) (hdg : decode cc pc = .ok (.getfield idx, 3))
    (kk : W p l e R s m args below meth c H locs cells slots Q (F0 m (pc + 3) ls (.ref (pw_ad G 53) :: rest))) : W p l e R s m args below meth c H locs cells slots Q (F0 m pc ls (.ref (pw_ad G (10)) :: rest)) :=
  va_get (D := pw_gD G) (ci := 11) (C := RX11) (T := TX11) (N := 28) hC.1 hC.2.1 hC.2.2.2.2.1 pw_inX11 hC.2.2.2.1 hC.2.2.2.2.2.1.1 hw.1.1 (10) (pw_at (by decide)) rfl 26 (by decide) (hC.2.2.2.2.1 _ hl) (fun _ h => h) rfl hdg kk
theorem pg_10_27 (hC : pw_CX G own cc nL ret p s m args meth c) (hw : pw_WH G σ s.heap H locs) (hl : Cond.fieldLink own idx "PerhapsWasModel" "saids" "I" ∈ pw_BW) (hdg : decode cc pc = .ok (.getfield idx, 3))
    (kk : W p l e R s m args below meth c H locs cells slots Q (F0 m (pc + 3) ls (.int (σ.1 10 27) :: rest))) : W p l e R s m args below meth c H locs cells slots Q (F0 m pc ls (.ref (pw_ad G (10)) :: rest)) :=
  va_get (D := pw_gD G) (ci := 11) (C := RX11) (T := TX11) (N := 28) hC.1 hC.2.1 hC.2.2.2.2.1 pw_inX11 hC.2.2.2.1 hC.2.2.2.2.2.1.1 hw.1.1 (10) (pw_at (by decide)) rfl 27 (by decide) (hC.2.2.2.2.1 _ hl) (fun _ h => h) rfl hdg kk
theorem pp_10_27 {v : Int32} (hC : pw_CX G own cc nL ret p s m args meth c) (hw : pw_WH G σ s.heap H locs) (hl : Cond.fieldLink own idx "PerhapsWasModel" "saids" "I" ∈ pw_BW) (hdg : decode cc pc = .ok (.putfield idx, 3))
    (kk : ∀ (H1 : Heap) (locs1 : List Loc), pw_WH G (pw_sM σ (10) 27 v) s.heap H1 locs1 → W p l e R s m args below meth c H1 locs1 cells slots Q (F0 m (pc + 3) ls rest)) : W p l e R s m args below meth c H locs cells slots Q (F0 m pc ls (.int v :: .ref (pw_ad G (10)) :: rest)) := by
  refine va_put (D := pw_gD G) (ci := 11) (v := .int v) (ty := .int) (C := RX11) (T := TX11) (N := 28) hC.1 hC.2.1 hC.2.2.2.2.1 pw_inX11 tyX11 tyX11_ok nmX11 hC.2.2.2.1 hC.2.2.2.2.2.1.1 hw.1.1 hw.1.2 hw.2 (10) (pw_at (by decide)) rfl 27 (by decide) (hC.2.2.2.2.1 _ hl) (fun _ h => h) rfl (by decide +kernel) rfl rfl (Nat.le_of_ble_eq_true rfl) hdg (fun H1 locs1 h1 h2 h3 => ?_)
  have hq := pw_setM (G := G) (σ := σ) (k := 10) (j := 27) (v := v) (by decide)
  skip
  exact kk H1 locs1 ⟨⟨hq ▸ h1, hq ▸ h2⟩, h3⟩
theorem pg_F_0 {n : Nat} (hn : n < 14) (hC : pw_CX G own cc nL ret p s m args meth c) (hw : pw_WH G σ s.heap H locs) (hl : Cond.fieldLink own idx "PerhapsWas$Formula" "kinds" "[I" ∈ pw_BW) (hdg : decode cc pc = .ok (.getfield idx, 3))
    (kk : W p l e R s m args below meth c H locs cells slots Q (F0 m (pc + 3) ls (.ref (pw_ad G (4 * n + 55)) :: rest))) : W p l e R s m args below meth c H locs cells slots Q (F0 m pc ls (.ref (pw_ad G (4 * n + 54)) :: rest)) :=
  va_get (D := pw_gD G) (ci := 1) (C := RX1) (T := TX1) (N := 4) hC.1 hC.2.1 hC.2.2.2.2.1 pw_inX1 hC.2.2.2.1 hC.2.2.2.2.2.1.1 hw.1.1 (4 * n + 54) ((pw_at (by omega)).trans (by rw [pw_cellF])) rfl 0 (by decide) (hC.2.2.2.2.1 _ hl) (fun _ h => h) rfl hdg kk
theorem pg_F_1 {n : Nat} (hn : n < 14) (hC : pw_CX G own cc nL ret p s m args meth c) (hw : pw_WH G σ s.heap H locs) (hl : Cond.fieldLink own idx "PerhapsWas$Formula" "firsts" "[I" ∈ pw_BW) (hdg : decode cc pc = .ok (.getfield idx, 3))
    (kk : W p l e R s m args below meth c H locs cells slots Q (F0 m (pc + 3) ls (.ref (pw_ad G (4 * n + 56)) :: rest))) : W p l e R s m args below meth c H locs cells slots Q (F0 m pc ls (.ref (pw_ad G (4 * n + 54)) :: rest)) :=
  va_get (D := pw_gD G) (ci := 1) (C := RX1) (T := TX1) (N := 4) hC.1 hC.2.1 hC.2.2.2.2.1 pw_inX1 hC.2.2.2.1 hC.2.2.2.2.2.1.1 hw.1.1 (4 * n + 54) ((pw_at (by omega)).trans (by rw [pw_cellF])) rfl 1 (by decide) (hC.2.2.2.2.1 _ hl) (fun _ h => h) rfl hdg kk
theorem pg_F_2 {n : Nat} (hn : n < 14) (hC : pw_CX G own cc nL ret p s m args meth c) (hw : pw_WH G σ s.heap H locs) (hl : Cond.fieldLink own idx "PerhapsWas$Formula" "seconds" "[I" ∈ pw_BW) (hdg : decode cc pc = .ok (.getfield idx, 3))
    (kk : W p l e R s m args below meth c H locs cells slots Q (F0 m (pc + 3) ls (.ref (pw_ad G (4 * n + 57)) :: rest))) : W p l e R s m args below meth c H locs cells slots Q (F0 m pc ls (.ref (pw_ad G (4 * n + 54)) :: rest)) :=
  va_get (D := pw_gD G) (ci := 1) (C := RX1) (T := TX1) (N := 4) hC.1 hC.2.1 hC.2.2.2.2.1 pw_inX1 hC.2.2.2.1 hC.2.2.2.2.2.1.1 hw.1.1 (4 * n + 54) ((pw_at (by omega)).trans (by rw [pw_cellF])) rfl 2 (by decide) (hC.2.2.2.2.1 _ hl) (fun _ h => h) rfl hdg kk
theorem pg_F_3 {n : Nat} (hn : n < 14) (hC : pw_CX G own cc nL ret p s m args meth c) (hw : pw_WH G σ s.heap H locs) (hl : Cond.fieldLink own idx "PerhapsWas$Formula" "parts" "I" ∈ pw_BW) (hdg : decode cc pc = .ok (.getfield idx, 3))
    (kk : W p l e R s m args below meth c H locs cells slots Q (F0 m (pc + 3) ls (.int (σ.1 (4 * n + 54) 3) :: rest))) : W p l e R s m args below meth c H locs cells slots Q (F0 m pc ls (.ref (pw_ad G (4 * n + 54)) :: rest)) :=
  va_get (D := pw_gD G) (ci := 1) (C := RX1) (T := TX1) (N := 4) hC.1 hC.2.1 hC.2.2.2.2.1 pw_inX1 hC.2.2.2.1 hC.2.2.2.2.2.1.1 hw.1.1 (4 * n + 54) ((pw_at (by omega)).trans (by rw [pw_cellF])) rfl 3 (by decide) (hC.2.2.2.2.1 _ hl) (fun _ h => h) rfl hdg kk
theorem pp_F_3 {n : Nat} (hn : n < 14) {v : Int32} (hC : pw_CX G own cc nL ret p s m args meth c) (hw : pw_WH G σ s.heap H locs) (hl : Cond.fieldLink own idx "PerhapsWas$Formula" "parts" "I" ∈ pw_BW) (hdg : decode cc pc = .ok (.putfield idx, 3))
    (kk : ∀ (H1 : Heap) (locs1 : List Loc), pw_WH G (pw_sM σ (4 * n + 54) 3 v) s.heap H1 locs1 → W p l e R s m args below meth c H1 locs1 cells slots Q (F0 m (pc + 3) ls rest)) : W p l e R s m args below meth c H locs cells slots Q (F0 m pc ls (.int v :: .ref (pw_ad G (4 * n + 54)) :: rest)) := by
  refine va_put (D := pw_gD G) (ci := 1) (v := .int v) (ty := .int) (C := RX1) (T := TX1) (N := 4) hC.1 hC.2.1 hC.2.2.2.2.1 pw_inX1 tyX1 tyX1_ok nmX1 hC.2.2.2.1 hC.2.2.2.2.2.1.1 hw.1.1 hw.1.2 hw.2 (4 * n + 54) ((pw_at (by omega)).trans (by rw [pw_cellF])) rfl 3 (by decide) (hC.2.2.2.2.1 _ hl) (fun _ h => h) rfl (by decide +kernel) rfl rfl (Nat.le_of_ble_eq_true rfl) hdg (fun H1 locs1 h1 h2 h3 => ?_)
  have hq := pw_setM (G := G) (σ := σ) (k := 4 * n + 54) (j := 3) (v := v) (by omega)
  rw [pw_cellF] at hq
  exact kk H1 locs1 ⟨⟨hq ▸ h1, hq ▸ h2⟩, h3⟩
end PWF
