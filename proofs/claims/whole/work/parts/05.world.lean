-- THE WORLD: the state's picture, its cells, and a row for each instruction over it (made by wip/gen/world.py)
abbrev pw_St : Type := (Nat → Nat → Int32) × (Nat → Nat → Int64)
abbrev pw_Gh : Type := (Nat → ClassId) × (Nat → Nat → Nat) × (Nat → Nat) × (ClassId × ClassId × ClassId × ClassId) × Nat × (Nat → Prop)
def pw_gD (G : pw_Gh) : va_G := (G.1, G.2.1)
def pw_ad (G : pw_Gh) : Nat → Nat := G.2.2.1
def pw_gI (G : pw_Gh) : ClassId := G.2.2.2.1.1
def pw_gJ (G : pw_Gh) : ClassId := G.2.2.2.1.2.1
def pw_gZ (G : pw_Gh) : ClassId := G.2.2.2.1.2.2.1
def pw_gF (G : pw_Gh) : ClassId := G.2.2.2.1.2.2.2
def pw_gw (G : pw_Gh) : Nat := G.2.2.2.2.1
def pw_gA (G : pw_Gh) : Nat → Prop := G.2.2.2.2.2
def pw_cell (G : pw_Gh) (k : Nat) (f : Nat → Int32) (g : Nat → Int64) : va_E := match k with
  | 0 => .inr (10, [.ref (pw_ad G 1), .ref (pw_ad G 3), .ref (pw_ad G 4), .ref (pw_ad G 5), .ref (pw_ad G 6), .ref (pw_ad G 7), .ref (pw_ad G 8), .ref (pw_ad G 9), .int (f 8)])
  | 1 => .inr (2, [.ref (pw_ad G 2), .ref (pw_ad G 11), .ref (pw_ad G 12), .ref (pw_ad G 13), .ref (pw_ad G 14), .ref (pw_ad G 15), .ref (pw_ad G 16), .ref (pw_ad G 17), .int (f 8), .int (f 9), .int (f 10)])
  | 2 => .inr (3, [.ref (pw_ad G 18), .ref (pw_ad G 19), .ref (pw_ad G 20), .ref (pw_ad G 21), .int (f 4)])
  | 3 => .inr (6, [.ref (pw_ad G 1), .ref (pw_ad G 22), .ref (pw_ad G 23), .ref (pw_ad G 24), .ref (pw_ad G 25), .int (f 5), .int (f 6), .int (f 7)])
  | 4 => .inr (7, [.ref (pw_ad G 26), .int (f 1)])
  | 5 => .inr (0, [.ref (pw_ad G 27), .int (f 1)])
  | 6 => .inr (5, [.ref (pw_ad G 1), .ref (pw_ad G 28), .ref (pw_ad G 29)])
  | 7 => .inr (4, [.ref (pw_ad G 6), .ref (pw_ad G 30), .ref (pw_ad G 31)])
  | 8 => .inr (9, [.ref (pw_ad G 32)])
  | 9 => .inr (8, [.ref (pw_ad G 33), .int (f 1)])
  | 10 => .inr (11, [.int (f 0), .int (f 1), .ref (pw_ad G 34), .ref (pw_ad G 35), .ref (pw_ad G 36), .ref (pw_ad G 37), .ref (pw_ad G 38), .ref (pw_ad G 39), .int (f 8), .int (f 9), .ref (pw_ad G 40), .ref (pw_ad G 41), .ref (pw_ad G 42), .ref (pw_ad G 43), .ref (pw_ad G 44), .ref (pw_ad G 45), .ref (pw_ad G 46), .ref (pw_ad G 47), .ref (pw_ad G 48), .ref (pw_ad G 49), .int (f 20), .int (f 21), .int (f 22), .ref (pw_ad G 50), .ref (pw_ad G 51), .ref (pw_ad G 52), .ref (pw_ad G 53), .int (f 27)])
  | 11 => .inl (pw_gI G, 4, .inl f)
  | 12 => .inl (pw_gI G, 24, .inl f)
  | 13 => .inl (pw_gI G, 24, .inl f)
  | 14 => .inl (pw_gI G, 24, .inl f)
  | 15 => .inl (pw_gI G, 24, .inl f)
  | 16 => .inl (pw_gI G, 96, .inl f)
  | 17 => .inl (pw_gI G, 84, .inl f)
  | 18 => .inl (pw_gI G, 24, .inl f)
  | 19 => .inl (pw_gI G, 24, .inl f)
  | 20 => .inl (pw_gI G, 24, .inl f)
  | 21 => .inl (pw_gI G, 24, .inl f)
  | 22 => .inl (pw_gI G, 2401, .inl f)
  | 23 => .inl (pw_gZ G, 2401, .inl f)
  | 24 => .inl (pw_gI G, 25, .inl f)
  | 25 => .inl (pw_gI G, 4, .inl f)
  | 26 => .inl (pw_gF G, 6, .inr (.inr (.inr (.inr (fun i => some (pw_ad G (4 * (i + 0) + 54)))))))
  | 27 => .inl (pw_gF G, 8, .inr (.inr (.inr (.inr (fun i => some (pw_ad G (4 * (i + 6) + 54)))))))
  | 28 => .inl (pw_gI G, 4, .inl f)
  | 29 => .inl (pw_gI G, 6, .inl f)
  | 30 => .inl (pw_gZ G, 2401, .inl f)
  | 31 => .inl (pw_gI G, 2401, .inl f)
  | 32 => .inl (pw_gJ G, 2401, .inr (.inl g))
  | 33 => .inl (pw_gI G, 24, .inl f)
  | 34 => .inl (pw_gI G, 4, .inl f)
  | 35 => .inl (pw_gI G, 24, .inl f)
  | 36 => .inl (pw_gI G, 24, .inl f)
  | 37 => .inl (pw_gI G, 24, .inl f)
  | 38 => .inl (pw_gI G, 24, .inl f)
  | 39 => .inl (pw_gI G, 96, .inl f)
  | 40 => .inl (pw_gI G, 24, .inl f)
  | 41 => .inl (pw_gI G, 24, .inl f)
  | 42 => .inl (pw_gI G, 24, .inl f)
  | 43 => .inl (pw_gI G, 24, .inl f)
  | 44 => .inl (pw_gZ G, 2401, .inl f)
  | 45 => .inl (pw_gJ G, 2401, .inr (.inl g))
  | 46 => .inl (pw_gI G, 240, .inl f)
  | 47 => .inl (pw_gI G, 240, .inl f)
  | 48 => .inl (pw_gI G, 240, .inl f)
  | 49 => .inl (pw_gI G, 16, .inl f)
  | 50 => .inl (pw_gI G, 16, .inl f)
  | 51 => .inl (pw_gZ G, 2401, .inl f)
  | 52 => .inl (pw_gZ G, 2401, .inl f)
  | 53 => .inl (pw_gI G, 24, .inl f)
  | n + 54 => if n % 4 = 0 then .inr (1, [.ref (pw_ad G (n + 55)), .ref (pw_ad G (n + 56)), .ref (pw_ad G (n + 57)), .int (f 3)]) else .inl (pw_gI G, 15, .inl f)
def pw_ws (G : pw_Gh) (σ : pw_St) : va_W := (List.range 110).map (fun k => (pw_ad G k, pw_cell G k (σ.1 k) (σ.2 k)))
def pw_sM (σ : pw_St) (k j : Nat) (v : Int32) : pw_St := (va_up σ.1 k (upd (σ.1 k) j v), σ.2)
def pw_sL (σ : pw_St) (k j : Nat) (v : Int64) : pw_St := (σ.1, va_up σ.2 k (vp_updL (σ.2 k) j v))
theorem pw_at {G : pw_Gh} {σ : pw_St} {k : Nat} (hk : k < 110) : (pw_ws G σ)[k]? = some (pw_ad G k, pw_cell G k (σ.1 k) (σ.2 k)) := by
  unfold pw_ws
  rw [List.getElem?_map, List.getElem?_range hk]; rfl
theorem pw_setM {G : pw_Gh} {σ : pw_St} {k j : Nat} {v : Int32} (hk : k < 110) : (pw_ws G σ).set k (pw_ad G k, pw_cell G k (upd (σ.1 k) j v) (σ.2 k)) = pw_ws G (pw_sM σ k j v) := by
  apply List.ext_getElem?
  intro i
  rw [List.getElem?_set]
  by_cases hi : k = i
  · subst hi
    rw [if_pos rfl, pw_at hk, if_pos (by unfold pw_ws; rw [List.length_map, List.length_range]; exact hk)]
    simp only [pw_sM, va_up, if_true]
  · rw [if_neg hi]
    by_cases h2 : i < 110
    · rw [pw_at h2, pw_at h2]
      simp only [pw_sM, va_up, if_neg (Ne.symm hi)]
    · rw [List.getElem?_eq_none, List.getElem?_eq_none] <;> (unfold pw_ws; rw [List.length_map, List.length_range]; omega)
theorem pw_setL {G : pw_Gh} {σ : pw_St} {k j : Nat} {v : Int64} (hk : k < 110) : (pw_ws G σ).set k (pw_ad G k, pw_cell G k (σ.1 k) (vp_updL (σ.2 k) j v)) = pw_ws G (pw_sL σ k j v) := by
  apply List.ext_getElem?
  intro i
  rw [List.getElem?_set]
  by_cases hi : k = i
  · subst hi
    rw [if_pos rfl, pw_at hk, if_pos (by unfold pw_ws; rw [List.length_map, List.length_range]; exact hk)]
    simp only [pw_sL, va_up, if_true]
  · rw [if_neg hi]
    by_cases h2 : i < 110
    · rw [pw_at h2, pw_at h2]
      simp only [pw_sL, va_up, if_neg (Ne.symm hi)]
    · rw [List.getElem?_eq_none, List.getElem?_eq_none] <;> (unfold pw_ws; rw [List.length_map, List.length_range]; omega)
theorem pw_cellF {G : pw_Gh} {n : Nat} {f : Nat → Int32} {g : Nat → Int64} : pw_cell G (4 * n + 54) f g = .inr (1, [.ref (pw_ad G (4 * n + 55)), .ref (pw_ad G (4 * n + 56)), .ref (pw_ad G (4 * n + 57)), .int (f 3)]) := by
  show (if (4 * n) % 4 = 0 then _ else _) = _
  rw [if_pos (by omega)]
theorem pw_cellF1 {G : pw_Gh} {n : Nat} {f : Nat → Int32} {g : Nat → Int64} : pw_cell G (4 * n + 55) f g = .inl (pw_gI G, 15, .inl f) := by
  show (if (4 * n + 1) % 4 = 0 then _ else _) = _
  rw [if_neg (by omega)]
theorem pw_cellF2 {G : pw_Gh} {n : Nat} {f : Nat → Int32} {g : Nat → Int64} : pw_cell G (4 * n + 56) f g = .inl (pw_gI G, 15, .inl f) := by
  show (if (4 * n + 2) % 4 = 0 then _ else _) = _
  rw [if_neg (by omega)]
theorem pw_cellF3 {G : pw_Gh} {n : Nat} {f : Nat → Int32} {g : Nat → Int64} : pw_cell G (4 * n + 57) f g = .inl (pw_gI G, 15, .inl f) := by
  show (if (4 * n + 3) % 4 = 0 then _ else _) = _
  rw [if_neg (by omega)]
-- the words: all good rows of the tables
def pw_BW : List Cond := lw_tbl.filter goodWord
theorem pw_bw {w : Cond} (h : w ∈ lw_tbl) (g : goodWord w = true) : w ∈ pw_BW := List.mem_filter.mpr ⟨h, g⟩
theorem pw_good {ws : List Cond} (h : ∀ w ∈ ws, w ∈ pw_BW) : GoodIn pw_BW ws := fun w hw => ⟨h w hw, good_of_word (List.mem_filter.mp (h w hw)).2⟩
theorem pw_goodC {w : Cond} (h : w ∈ pw_BW) : GoodIn pw_BW (w :: pw_BW) := pw_good (fun v hv => (List.mem_cons.mp hv).elim (fun e => by rw [e]; exact h) id)
def pw_wt (j : Nat) : Int32 := match j with
  | 0 => 1
  | 1 => 7
  | 2 => 49
  | _ => 343
def pw_tys (G : pw_Gh) : List (ClassId × FieldType) := [(pw_gI G, .int), (pw_gJ G, .long), (pw_gZ G, .boolean), (pw_gF G, .object RX1)]
def pw_Sc (G : pw_Gh) (U : State) : Prop := va_K (pw_gD G) vwCl (pw_tys G) U ∧ va_Z "PerhapsWas" "WEIGHTS" "[I" (.ref (pw_gw G)) (pw_gA G) U U.heap ∧ va_T .int (pw_gw G) 4 (fun j => .int (pw_wt j)) (pw_gA G) U U.heap ∧ va_Nw (.fieldLinkNest RX2 52 "PerhapsWas" "WEIGHTS" "[I" "PerhapsWas") U ∧ va_Nw (.fieldLinkNest RX6 45 "PerhapsWas" "WEIGHTS" "[I" "PerhapsWas") U ∧ va_Nw (.fieldLinkNest RX8 31 "PerhapsWas" "WEIGHTS" "[I" "PerhapsWas") U ∧ va_Nw (.fieldLinkNest RX9 46 "PerhapsWas" "WEIGHTS" "[I" "PerhapsWas") U
def pw_Wd (G : pw_Gh) (σ : pw_St) (H : Heap) : Prop := va_P (pw_gD G) vwCl (pw_ws G σ) H ∧ va_D (pw_gA G) (pw_ws G σ)
def pw_WH (G : pw_Gh) (σ : pw_St) (H0 H : Heap) (locs : List Loc) : Prop := pw_Wd G σ H ∧ va_S (pw_gA G) H0 H locs
def pw_Pc (G : pw_Gh) (av : List Value) (σ : pw_St) : Array Value → State → Prop := va_Pc av (fun U => pw_Wd G σ U.heap ∧ pw_Sc G U)
def pw_Qi (G : pw_Gh) (r : Int32) (σ : pw_St) : Array Value → State → Outcome → State → Prop := va_Qi (fun (r2 : Int32) (_ : Unit) => r2 = r) (fun _ t => pw_Wd G σ t.heap) (pw_gA G)
def pw_Ql (G : pw_Gh) (r : Int64) (σ : pw_St) : Array Value → State → Outcome → State → Prop := va_Ql (fun (r2 : Int64) (_ : Unit) => r2 = r) (fun _ t => pw_Wd G σ t.heap) (pw_gA G)
def pw_Qv (G : pw_Gh) (σ : pw_St) : Array Value → State → Outcome → State → Prop := va_Qv (fun (_ : Unit) => True) (fun _ t => pw_Wd G σ t.heap) (pw_gA G)
def pw_Qr (G : pw_Gh) (a : Nat) (σ : pw_St) : Array Value → State → Outcome → State → Prop := va_Qr (fun (_ : Unit) => True) (fun _ b t => b = a ∧ pw_Wd G σ t.heap) (pw_gA G)
def pw_CX (G : pw_Gh) (own : String) (cc : ByteArray) (nL : Nat) (ret : Option FieldType) (p : Program) (s : State) (m : MethodId) (args : Array Value) (meth : Method) (c : Code) : Prop :=
  p.tables.exec = Jvm.exec ∧ c.code = cc ∧ c.maxLocals = nL ∧ s.vm.findClass own = some m.cls ∧ (∀ w ∈ pw_BW, w.before args s = true) ∧ pw_Sc G s ∧ meth.sig.returnType = ret ∧ meth.locks = false
theorem pw_Wd_of {G : pw_Gh} {σ : pw_St} {t : State} {H : Heap} (ht : t.heap = H) (h : pw_Wd G σ H) : pw_Wd G σ t.heap := by rw [ht]; exact h
theorem pw_Sc.blind {G : pw_Gh} {U : State} {g : JFrame} {mk : MethodId} {a : Array Value} (h : pw_Sc G U) : pw_Sc G (U.calling g mk a) := by
  obtain ⟨h1, h2, h3, n0, n1, n2, n3⟩ := h
  exact ⟨va_K.moved (u := U) (U := U.calling g mk a) (Vm.Alike.refl U.vm) h1, va_Z.moved (u := U) (U := U.calling g mk a) (Vm.Alike.refl U.vm) h2, va_T.moved (u := U) (U := U.calling g mk a) (Vm.Alike.refl U.vm) h3, va_Nw.same rfl rfl n0, va_Nw.same rfl rfl n1, va_Nw.same rfl rfl n2, va_Nw.same rfl rfl n3⟩
theorem pw_blind {G : pw_Gh} {av : List Value} {σ : pw_St} : FrameBlind (pw_Pc G av σ) := fun a U g mk h => ⟨h.1, h.2.1, h.2.2.blind⟩
theorem pw_Sc.go {G : pw_Gh} {s U : State} {H : Heap} {locs : List Loc} (h : pw_Sc G s) (hS : va_S (pw_gA G) s.heap H locs) (hU : U.heap = H) (hW : s.WarmedH U.vm) : pw_Sc G U := by
  obtain ⟨h1, h2, h3, n0, n1, n2, n3⟩ := h
  exact ⟨va_K.moved hW.alike h1, by rw [hU]; exact va_Z.moved hW.alike (va_Z.kept h2 hS.2.1), by rw [hU]; exact va_T.moved hW.alike (va_T.kept h3 hS.2.1), va_Nw.warmF hW n0, va_Nw.warmF hW n1, va_Nw.warmF hW n2, va_Nw.warmF hW n3⟩
-- the programs' words: a guard, a call's answer
def pw_in (i : Int32) (n : Nat) : Bool := decide (0 ≤ i.toInt ∧ i.toInt < (n : Int))
theorem pw_gd {α : Type} {i : Int32} {n : Nat} {a : Option α} {r : α} (h : (if pw_in i n = true then a else none) = some r) : vp_in i n ∧ a = some r := by
  by_cases q : pw_in i n = true
  · rw [if_pos q] at h
    exact ⟨vp_in_iff.mpr (of_decide_eq_true q), h⟩
  · rw [if_neg q] at h; cases h
theorem pw_ifp {α : Type} {c : Prop} {ic : Decidable c} {a b : Option α} {r : α} (hc : c) (h : (if c then a else b) = some r) : a = some r := by rw [if_pos hc] at h; exact h
theorem pw_ifn {α : Type} {c : Prop} {ic : Decidable c} {a b : Option α} {r : α} (hc : ¬ c) (h : (if c then a else b) = some r) : b = some r := by rw [if_neg hc] at h; exact h
theorem pw_nz {α : Type} {x : Int32} {a : Option α} {r : α} (h : (if x = 0 then none else a) = some r) : ¬ x = 0 ∧ a = some r := by
  by_cases q : x = 0
  · rw [if_pos q] at h; cases h
  · rw [if_neg q] at h; exact ⟨q, h⟩
def pw_bi {α : Type} (q : Option (Int32 × pw_St)) (k : Int32 → pw_St → Option α) : Option α := match q with
  | none => none
  | some z => k z.1 z.2
def pw_bl {α : Type} (q : Option (Int64 × pw_St)) (k : Int64 → pw_St → Option α) : Option α := match q with
  | none => none
  | some z => k z.1 z.2
def pw_bv {α : Type} (q : Option pw_St) (k : pw_St → Option α) : Option α := match q with
  | none => none
  | some z => k z
theorem pw_bi_some {α : Type} {q : Option (Int32 × pw_St)} {k : Int32 → pw_St → Option α} {r : α} (h : pw_bi q k = some r) : ∃ (v : Int32) (σ : pw_St), q = some (v, σ) ∧ k v σ = some r := by
  cases q with
  | none => cases h
  | some z => exact ⟨z.1, z.2, rfl, h⟩
theorem pw_bl_some {α : Type} {q : Option (Int64 × pw_St)} {k : Int64 → pw_St → Option α} {r : α} (h : pw_bl q k = some r) : ∃ (v : Int64) (σ : pw_St), q = some (v, σ) ∧ k v σ = some r := by
  cases q with
  | none => cases h
  | some z => exact ⟨z.1, z.2, rfl, h⟩
theorem pw_bv_some {α : Type} {q : Option pw_St} {k : pw_St → Option α} {r : α} (h : pw_bv q k = some r) : ∃ σ : pw_St, q = some σ ∧ k σ = some r := by
  cases q with
  | none => cases h
  | some z => exact ⟨z, rfl, h⟩
def pw_lt {α : Type} (v : pw_St) (k : pw_St → Option α) : Option α := k v
theorem pw_lts {α : Type} {v : pw_St} {k : pw_St → Option α} {r : α} (h : pw_lt v k = some r) : ∃ σ : pw_St, σ = v ∧ k σ = some r := ⟨v, rfl, h⟩
theorem pw_WHe {G : pw_Gh} {σ1 σ2 : pw_St} {H0 H : Heap} {locs : List Loc} (e : σ2 = σ1) (h : pw_WH G σ1 H0 H locs) : pw_WH G σ2 H0 H locs := by rw [e]; exact h
theorem pw_fb {i : Int32} {n d : Nat} (h : vp_in i n) (hd : n + d ≤ 14) : i.toNatClampNeg + d < 14 := by
  have h2 : i.toNatClampNeg < n := Nat.not_le.mp fun q => h (Or.inr q)
  omega
theorem pw_ti {x k : Int32} {z : Int} (h : ¬ x = k) (hk : k.toInt = z) : x.toInt ≠ z := fun q => h (Int32.toInt_inj.mp (by rw [q, hk]))
def pw_FU : Nat := 3000
def pw_isb (x : Int32) : Bool := decide (narrow .boolean (.int x) = .int x)
theorem pw_bg {α : Type} {x : Int32} {a : Option α} {r : α} (h : (if pw_isb x = true then a else none) = some r) : narrow .boolean (.int x) = .int x ∧ a = some r := by
  by_cases q : pw_isb x = true
  · rw [if_pos q] at h
    exact ⟨of_decide_eq_true q, h⟩
  · rw [if_neg q] at h; cases h
section PW
variable {p : Program} {l : Launch} {e : Env} {R : Room} {s : State} {m : MethodId} {args : Array Value} {below : List Frame} {meth : Method} {c : Code} {H : Heap} {locs : List Loc} {cells slots : Nat} {Q : State → Prop}
variable {G : pw_Gh} {σ : pw_St} {own : String} {cc : ByteArray} {nL pc : Nat} {ret : Option FieldType} {ls : Array Slot} {rest : List Value}
/-- a method's contract out of its walk -/
theorem pw_met {y : MethodName} {rm : Room} {av : List Value} {Qc : Array Value → State → Outcome → State → Prop} (hy : plainName y.cls = true) (hn : (lg_sl av).length ≤ nL)
    (body : ∀ (p : Program) (e : Env) (s : State) (m : MethodId) (args : Array Value) (below : List Frame) (meth : Method) (c : Code) (ls : Array Slot), pw_CX G y.cls cc nL ret p s m args meth c → pw_WH G σ s.heap s.heap [] → lv_has ls nL (lv_args 0 av) → W p l e rm s m args below meth c s.heap [] 0 0 (MQ below Qc args s 0 0 (pw_gA G)) (F0 m 0 ls [])) :
    Met l y (.code y cc nL ret :: pw_BW) rm (pw_Pc G av σ) Qc 0 0 (pw_gA G) := by
  refine Met.ofW (cc := cc) (maxL := nL) (ret := ret) hy rfl ?_
  intro p e s m args below meth c s₁ B hml hv
  obtain ⟨rfl, hw, hsc⟩ := hv
  have hl := lv_entry av (n := nL) hn
  rw [lg_entry_eq]
  generalize (lg_sl av ++ List.replicate (nL - (lg_sl av).length) Slot.unset).toArray = ls at hl ⊢
  have hts := atoms_spec (ws := .code y cc nL ret :: pw_BW) B.pre
  exact body p e s m _ below meth c ls ⟨B.exec, B.bytes, hml, findClass_of_methodNamed B.named, fun w h => hts w (List.mem_cons_of_mem _ h), hsc, B.returns, B.notSynchronized⟩ ⟨hw, va_S.rf⟩ hl
theorem pw_iret {v r : Int32} {σ2 : pw_St} (hC : pw_CX G own cc nL (some .int) p s m args meth c) (hw : pw_WH G σ s.heap H locs) (hf : some (v, σ) = some (r, σ2)) (hdg : decode cc pc = .ok (.ireturn, 1)) : W p l e R s m args below meth c H locs 0 0 (MQ below (pw_Qi G r σ2) args s 0 0 (pw_gA G)) (F0 m pc ls [.int v]) := by
  cases hf
  exact W.iret hC.1 hC.2.1 hC.2.2.2.2.2.2.1 (fun t ht hW => ⟨⟨v, (), rfl, rfl, pw_Wd_of ht hw.1⟩, hw.2.F ht⟩) hw.2.2.2 hdg hC.2.2.2.2.2.2.2
theorem pw_zret {v r : Int32} {σ2 : pw_St} (hC : pw_CX G own cc nL (some .boolean) p s m args meth c) (hw : pw_WH G σ s.heap H locs) (hf : (if pw_isb v = true then some (v, σ) else none) = some (r, σ2)) (hdg : decode cc pc = .ok (.ireturn, 1)) : W p l e R s m args below meth c H locs 0 0 (MQ below (pw_Qi G r σ2) args s 0 0 (pw_gA G)) (F0 m pc ls [.int v]) := by
  obtain ⟨hn, hf⟩ := pw_bg hf
  cases hf
  exact W.zret hC.1 hC.2.1 hC.2.2.2.2.2.2.1 hn (fun t ht hW => ⟨⟨v, (), rfl, rfl, pw_Wd_of ht hw.1⟩, hw.2.F ht⟩) hw.2.2.2 hdg hC.2.2.2.2.2.2.2
theorem pw_lret {v r : Int64} {σ2 : pw_St} (hC : pw_CX G own cc nL (some .long) p s m args meth c) (hw : pw_WH G σ s.heap H locs) (hf : some (v, σ) = some (r, σ2)) (hdg : decode cc pc = .ok (.lreturn, 1)) : W p l e R s m args below meth c H locs 0 0 (MQ below (pw_Ql G r σ2) args s 0 0 (pw_gA G)) (F0 m pc ls [.long v]) := by
  cases hf
  exact W.lret hC.1 hC.2.1 hC.2.2.2.2.2.2.1 (fun t ht hW => ⟨⟨v, (), rfl, rfl, pw_Wd_of ht hw.1⟩, hw.2.F ht⟩) hw.2.2.2 hdg hC.2.2.2.2.2.2.2
theorem pw_vret {σ2 : pw_St} (hC : pw_CX G own cc nL none p s m args meth c) (hw : pw_WH G σ s.heap H locs) (hf : some σ = some σ2) (hdg : decode cc pc = .ok (.return_, 1)) : W p l e R s m args below meth c H locs 0 0 (MQ below (pw_Qv G σ2) args s 0 0 (pw_gA G)) (F0 m pc ls []) := by
  cases hf
  exact W.vret hC.1 hC.2.1 hC.2.2.2.2.2.2.1 (fun t ht hW => ⟨⟨(), rfl, trivial, pw_Wd_of ht hw.1⟩, hw.2.F ht⟩) hw.2.2.2 hdg hC.2.2.2.2.2.2.2
theorem pw_aret {σ2 : pw_St} {a : Nat} {C : String} (hC : pw_CX G own cc nL (some (.object C)) p s m args meth c) (hw : pw_WH G σ s.heap H locs) (hf : some σ = some σ2) (hdg : decode cc pc = .ok (.areturn, 1)) : W p l e R s m args below meth c H locs 0 0 (MQ below (pw_Qr G a σ2) args s 0 0 (pw_gA G)) (F0 m pc ls [.ref a]) := by
  cases hf
  exact W.aret hC.1 hC.2.1 hC.2.2.2.2.2.2.1 (Or.inl ⟨_, rfl⟩) (Or.inr ⟨_, rfl⟩) (fun t ht hW => ⟨⟨(), a, rfl, trivial, rfl, pw_Wd_of ht hw.1⟩, hw.2.F ht⟩) hw.2.2.2 hdg hC.2.2.2.2.2.2.2
-- arrays
theorem pw_ild {k n : Nat} (hC : pw_CX G own cc nL ret p s m args meth c) (hw : pw_WH G σ s.heap H locs) (ca : k < 110 ∧ ∀ (f : Nat → Int32) (g : Nat → Int64), pw_cell G k f g = .inl (pw_gI G, n, .inl f)) {i : Int32} (hin : vp_in i n) (hdg : decode cc pc = .ok (.iaload, 1))
    (kk : W p l e R s m args below meth c H locs cells slots Q (F0 m (pc + 1) ls (.int (σ.1 k i.toNatClampNeg) :: rest))) : W p l e R s m args below meth c H locs cells slots Q (F0 m pc ls (.int i :: .ref (pw_ad G k) :: rest)) :=
  va_iald (f := σ.1 k) (n := n) hC.1 hC.2.1 hC.2.2.2.2.2.1.1 hw.1.1 k 0 ((pw_at ca.1).trans (by rw [ca.2])) rfl hin hdg kk
theorem pw_zld {k n : Nat} (hC : pw_CX G own cc nL ret p s m args meth c) (hw : pw_WH G σ s.heap H locs) (ca : k < 110 ∧ ∀ (f : Nat → Int32) (g : Nat → Int64), pw_cell G k f g = .inl (pw_gZ G, n, .inl f)) {i : Int32} (hin : vp_in i n) (hdg : decode cc pc = .ok (.baload, 1))
    (kk : W p l e R s m args below meth c H locs cells slots Q (F0 m (pc + 1) ls (.int (σ.1 k i.toNatClampNeg) :: rest))) : W p l e R s m args below meth c H locs cells slots Q (F0 m pc ls (.int i :: .ref (pw_ad G k) :: rest)) :=
  va_zald (f := σ.1 k) (n := n) hC.1 hC.2.1 hC.2.2.2.2.2.1.1 hw.1.1 k 2 ((pw_at ca.1).trans (by rw [ca.2])) rfl hin hdg kk
theorem pw_lld {k n : Nat} (hC : pw_CX G own cc nL ret p s m args meth c) (hw : pw_WH G σ s.heap H locs) (ca : k < 110 ∧ ∀ (f : Nat → Int32) (g : Nat → Int64), pw_cell G k f g = .inl (pw_gJ G, n, .inr (.inl g))) {i : Int32} (hin : vp_in i n) (hdg : decode cc pc = .ok (.laload, 1))
    (kk : W p l e R s m args below meth c H locs cells slots Q (F0 m (pc + 1) ls (.long (σ.2 k i.toNatClampNeg) :: rest))) : W p l e R s m args below meth c H locs cells slots Q (F0 m pc ls (.int i :: .ref (pw_ad G k) :: rest)) :=
  va_lald (f := σ.2 k) (n := n) hC.1 hC.2.1 hC.2.2.2.2.2.1.1 hw.1.1 k 1 ((pw_at ca.1).trans (by rw [ca.2])) rfl hin hdg kk
theorem pw_ist {k n : Nat} (hC : pw_CX G own cc nL ret p s m args meth c) (hw : pw_WH G σ s.heap H locs) (ca : k < 110 ∧ ∀ (f : Nat → Int32) (g : Nat → Int64), pw_cell G k f g = .inl (pw_gI G, n, .inl f)) {i x : Int32} (hin : vp_in i n) (hdg : decode cc pc = .ok (.iastore, 1))
    (kk : ∀ (H1 : Heap) (locs1 : List Loc), pw_WH G (pw_sM σ k i.toNatClampNeg x) s.heap H1 locs1 → W p l e R s m args below meth c H1 locs1 cells slots Q (F0 m (pc + 1) ls rest)) : W p l e R s m args below meth c H locs cells slots Q (F0 m pc ls (.int x :: .int i :: .ref (pw_ad G k) :: rest)) := by
  refine va_iast (f := σ.1 k) (n := n) hC.1 hC.2.1 hC.2.2.2.2.2.1.1 hw.1.1 hw.1.2 hw.2 k 0 ((pw_at ca.1).trans (by rw [ca.2])) rfl hin hdg (fun H1 locs1 h1 h2 h3 => ?_)
  rw [← ca.2 _ (σ.2 k), pw_setM ca.1] at h1 h2
  exact kk H1 locs1 ⟨⟨h1, h2⟩, h3⟩
theorem pw_zst {k n : Nat} (hC : pw_CX G own cc nL ret p s m args meth c) (hw : pw_WH G σ s.heap H locs) (ca : k < 110 ∧ ∀ (f : Nat → Int32) (g : Nat → Int64), pw_cell G k f g = .inl (pw_gZ G, n, .inl f)) {i x : Int32} (hin : vp_in i n) (hdg : decode cc pc = .ok (.bastore, 1))
    (kk : ∀ (H1 : Heap) (locs1 : List Loc), pw_WH G (pw_sM σ k i.toNatClampNeg (vp_nar .boolean x)) s.heap H1 locs1 → W p l e R s m args below meth c H1 locs1 cells slots Q (F0 m (pc + 1) ls rest)) : W p l e R s m args below meth c H locs cells slots Q (F0 m pc ls (.int x :: .int i :: .ref (pw_ad G k) :: rest)) := by
  refine va_zast (f := σ.1 k) (n := n) hC.1 hC.2.1 hC.2.2.2.2.2.1.1 hw.1.1 hw.1.2 hw.2 k 2 ((pw_at ca.1).trans (by rw [ca.2])) rfl hin hdg (fun H1 locs1 h1 h2 h3 => ?_)
  rw [← ca.2 _ (σ.2 k), pw_setM ca.1] at h1 h2
  exact kk H1 locs1 ⟨⟨h1, h2⟩, h3⟩
theorem pw_lst {k n : Nat} (hC : pw_CX G own cc nL ret p s m args meth c) (hw : pw_WH G σ s.heap H locs) (ca : k < 110 ∧ ∀ (f : Nat → Int32) (g : Nat → Int64), pw_cell G k f g = .inl (pw_gJ G, n, .inr (.inl g))) {i : Int32} {x : Int64} (hin : vp_in i n) (hdg : decode cc pc = .ok (.lastore, 1))
    (kk : ∀ (H1 : Heap) (locs1 : List Loc), pw_WH G (pw_sL σ k i.toNatClampNeg x) s.heap H1 locs1 → W p l e R s m args below meth c H1 locs1 cells slots Q (F0 m (pc + 1) ls rest)) : W p l e R s m args below meth c H locs cells slots Q (F0 m pc ls (.long x :: .int i :: .ref (pw_ad G k) :: rest)) := by
  refine va_last (f := σ.2 k) (n := n) hC.1 hC.2.1 hC.2.2.2.2.2.1.1 hw.1.1 hw.1.2 hw.2 k 1 ((pw_at ca.1).trans (by rw [ca.2])) rfl hin hdg (fun H1 locs1 h1 h2 h3 => ?_)
  rw [← ca.2 (σ.1 k) _, pw_setL ca.1] at h1 h2
  exact kk H1 locs1 ⟨⟨h1, h2⟩, h3⟩
theorem pw_fld {k n d : Nat} (hC : pw_CX G own cc nL ret p s m args meth c) (hw : pw_WH G σ s.heap H locs) (ca : k < 110 ∧ ∀ (f : Nat → Int32) (g : Nat → Int64), pw_cell G k f g = .inl (pw_gF G, n, .inr (.inr (.inr (.inr (fun i => some (pw_ad G (4 * (i + d) + 54)))))))) {i : Int32} (hin : vp_in i n) (hdg : decode cc pc = .ok (.aaload, 1))
    (kk : W p l e R s m args below meth c H locs cells slots Q (F0 m (pc + 1) ls (.ref (pw_ad G (4 * (i.toNatClampNeg + d) + 54)) :: rest))) : W p l e R s m args below meth c H locs cells slots Q (F0 m pc ls (.int i :: .ref (pw_ad G k) :: rest)) :=
  va_aldq (C := RX1) (n := n) (f := fun i => some (pw_ad G (4 * (i + d) + 54))) hC.1 hC.2.1 hC.2.2.2.2.2.1.1 hw.1.1 k 3 ((pw_at ca.1).trans (by rw [ca.2])) rfl hin hdg kk
theorem pw_alenI {k n : Nat} (hC : pw_CX G own cc nL ret p s m args meth c) (hw : pw_WH G σ s.heap H locs) (ca : k < 110 ∧ ∀ (f : Nat → Int32) (g : Nat → Int64), pw_cell G k f g = .inl (pw_gI G, n, .inl f)) (hdg : decode cc pc = .ok (.arraylength, 1))
    (kk : W p l e R s m args below meth c H locs cells slots Q (F0 m (pc + 1) ls (.int (Int32.ofNat n) :: rest))) : W p l e R s m args below meth c H locs cells slots Q (F0 m pc ls (.ref (pw_ad G k) :: rest)) :=
  va_alen (x := (n, .inl (σ.1 k))) hC.1 hC.2.1 hC.2.2.2.2.2.1.1 hw.1.1 k 0 ((pw_at ca.1).trans (by rw [ca.2])) (ty := .int) rfl rfl hdg kk
theorem pw_wget {idx : Nat} (hC : pw_CX G own cc nL ret p s m args meth c) (hw : pw_WH G σ s.heap H locs) (hn : va_Nw (.fieldLinkNest own idx "PerhapsWas" "WEIGHTS" "[I" "PerhapsWas") s) (hdg : decode cc pc = .ok (.getstatic idx, 3))
    (kk : W p l e R s m args below meth c H locs cells slots Q (F0 m (pc + 3) ls (.ref (pw_gw G) :: rest))) : W p l e R s m args below meth c H locs cells slots Q (F0 m pc ls rest) :=
  va_getsN hC.1 hC.2.1 hC.2.2.2.2.2.1.2.1 hw.2 hC.2.2.2.1 (va_Nw.use rfl hn) (fun _ h => h) hdg kk
theorem pw_wld (hC : pw_CX G own cc nL ret p s m args meth c) (hw : pw_WH G σ s.heap H locs) {i : Int32} (hin : vp_in i 4) (hdg : decode cc pc = .ok (.iaload, 1))
    (kk : W p l e R s m args below meth c H locs cells slots Q (F0 m (pc + 1) ls (.int (pw_wt i.toNatClampNeg) :: rest))) : W p l e R s m args below meth c H locs cells slots Q (F0 m pc ls (.int i :: .ref (pw_gw G) :: rest)) :=
  va_ti hC.1 hC.2.1 hC.2.2.2.2.2.1.2.2.1 hw.2 hin rfl hdg kk
-- calls
theorem pw_runV {y : MethodName} {bytes : ByteArray} {maxL index k ci n : Nat} {rt : Option FieldType} {rm : Room} {Qc : Array Value → State → Outcome → State → Prop} {As st0 : List Value} {fs : List Value} {tt : u_T} {nn : Nat}
    (hC : pw_CX G own cc nL ret p s m args meth c) (hw : pw_WH G σ s.heap H locs) (hM : Met l y (.code y bytes maxL rt :: pw_BW) rm (pw_Pc G (.ref (pw_ad G k) :: As) σ) Qc 0 0 (pw_gA G))
    (hl : Cond.methodLink own index y ∈ pw_BW) (hy : Cond.instanceMethod y ∈ pw_BW ∧ Cond.selects y.cls y y ∈ pw_BW ∧ Cond.initialized y.cls ∈ pw_BW ∧ Cond.code y bytes maxL rt ∈ pw_BW ∧ (y.cls ≠ "java/lang/invoke/MethodHandle" ∧ y.cls ≠ "java/lang/invoke/VarHandle" ∧ (parseMethodDescriptor y.desc).map (fun d => d.parameters.length) = some n))
    (hcs : cells + 0 ≤ R.cells ∧ slots + 0 ≤ R.slots) (hR : rm.cells = 0 ∧ rm.slots = 0 ∧ rm.frames + 1 ≤ R.frames ∧ 8 + (maxL + 11) + rm.locals ≤ R.locals) (hk : k < 110) (hc : pw_cell G k (σ.1 k) (σ.2 k) = .inr (ci, fs)) (hcl : vwCl[ci]? = some (y.cls, tt, nn))
    (hn : As.length = n) (hls : ls.size = nL) (hst : st0 = As.reverse ++ .ref (pw_ad G k) :: rest) (hcat : (rest.map fun v => v.category).sum ≤ 8) (hdg : decode cc pc = .ok (.invokevirtual index, 3)) :
    va_Run p l e R s m args below meth c H locs cells slots 0 0 (F0 m pc ls st0) rest (Qc (Value.ref (pw_ad G k) :: As).toArray) (pw_gA G) := by
  obtain ⟨h1, h2, h3, h4, hb, hb5⟩ := id hC
  obtain ⟨y1, y2, y3, y4, y5⟩ := hy
  have hG : GoodIn pw_BW (.code y bytes maxL rt :: pw_BW) := pw_goodC y4
  have cb : CallB R s args own index y bytes maxL rt (.code y bytes maxL rt :: pw_BW) rm 0 0 n := callB_of n hb hG rfl hR.1 hR.2.1 (hb _ y3) (hb _ hl) y5 ⟨hR.2.2.1, hR.2.2.2⟩
  exact va_runV (As := As) (rest := rest) (b := pw_ad G k) (C := y.cls) ⟨h1, h2, h3, h4, hb⟩ hM ⟨cb, hb _ y1, hb _ y2⟩ ⟨pw_blind, va_recv hb5.1.1 hw.1.1 hcl ((pw_at hk).trans (by rw [hc])), fun U hU hW => ⟨rfl, by rw [hU]; exact hw.1, hb5.1.go hw.2 hU hW⟩⟩ rfl hn hls hst (by show 2 * 0 + _ ≤ 8; omega) hdg hcs
theorem pw_runS {y : MethodName} {bytes : ByteArray} {maxL index n : Nat} {rt : Option FieldType} {rm : Room} {Qc : Array Value → State → Outcome → State → Prop} {As st0 : List Value}
    (hC : pw_CX G own cc nL ret p s m args meth c) (hw : pw_WH G σ s.heap H locs) (hM : Met l y (.code y bytes maxL rt :: pw_BW) rm (pw_Pc G As σ) Qc 0 0 (pw_gA G))
    (hl : Cond.methodLink own index y ∈ pw_BW) (hy : Cond.static y ∈ pw_BW ∧ Cond.initialized y.cls ∈ pw_BW ∧ Cond.code y bytes maxL rt ∈ pw_BW ∧ (y.cls ≠ "java/lang/invoke/MethodHandle" ∧ y.cls ≠ "java/lang/invoke/VarHandle" ∧ (parseMethodDescriptor y.desc).map (fun d => d.parameters.length) = some n))
    (hcs : cells + 0 ≤ R.cells ∧ slots + 0 ≤ R.slots) (hR : rm.cells = 0 ∧ rm.slots = 0 ∧ rm.frames + 1 ≤ R.frames ∧ 8 + (maxL + 11) + rm.locals ≤ R.locals)
    (hn : As.length = n) (hls : ls.size = nL) (hst : st0 = As.reverse ++ rest) (hcat : (rest.map fun v => v.category).sum ≤ 8) (hdg : decode cc pc = .ok (.invokestatic index, 3)) :
    va_Run p l e R s m args below meth c H locs cells slots 0 0 (F0 m pc ls st0) rest (Qc As.toArray) (pw_gA G) := by
  obtain ⟨h1, h2, h3, h4, hb, hb5⟩ := id hC
  obtain ⟨y1, y3, y4, y5⟩ := hy
  have hG : GoodIn pw_BW (.code y bytes maxL rt :: pw_BW) := pw_goodC y4
  have cb : CallB R s args own index y bytes maxL rt (.code y bytes maxL rt :: pw_BW) rm 0 0 n := callB_of n hb hG rfl hR.1 hR.2.1 (hb _ y3) (hb _ hl) y5 ⟨hR.2.2.1, hR.2.2.2⟩
  exact va_runS (As := As) (rest := rest) ⟨h1, h2, h3, h4, hb⟩ hM ⟨cb, hb _ y1⟩ ⟨pw_blind, fun U hU hW => ⟨rfl, by rw [hU]; exact hw.1, hb5.1.go hw.2 hU hW⟩⟩ rfl hn hls hst (by show 2 * 0 + _ ≤ 8; omega) hdg hcs
theorem pw_ci {r : Int32} {σ2 : pw_St} {a : Array Value} {st0 : List Value} (hw : pw_WH G σ s.heap H locs) (hr : va_Run p l e R s m args below meth c H locs cells slots 0 0 (F0 m pc ls st0) rest (pw_Qi G r σ2 a) (pw_gA G))
    (kk : ∀ (H1 : Heap) (locs1 : List Loc), pw_WH G σ2 s.heap H1 locs1 → W p l e R s m args below meth c H1 locs1 cells slots Q (F0 m (pc + 3) ls (.int r :: rest))) : W p l e R s m args below meth c H locs cells slots Q (F0 m pc ls st0) :=
  va_calli hr hw.2 (fun _ _ h => h) (fun _ h => h) (fun r2 u t H1 locs1 ht _ hp hB _ _ hS => by subst hp; exact kk H1 locs1 ⟨by rw [← ht]; exact hB, hS⟩)
theorem pw_cl {r : Int64} {σ2 : pw_St} {a : Array Value} {st0 : List Value} (hw : pw_WH G σ s.heap H locs) (hr : va_Run p l e R s m args below meth c H locs cells slots 0 0 (F0 m pc ls st0) rest (pw_Ql G r σ2 a) (pw_gA G))
    (kk : ∀ (H1 : Heap) (locs1 : List Loc), pw_WH G σ2 s.heap H1 locs1 → W p l e R s m args below meth c H1 locs1 cells slots Q (F0 m (pc + 3) ls (.long r :: rest))) : W p l e R s m args below meth c H locs cells slots Q (F0 m pc ls st0) :=
  va_calll hr hw.2 (fun _ _ h => h) (fun _ h => h) (fun r2 u t H1 locs1 ht _ hp hB _ _ hS => by subst hp; exact kk H1 locs1 ⟨by rw [← ht]; exact hB, hS⟩)
theorem pw_cv {σ2 : pw_St} {a : Array Value} {st0 : List Value} (hw : pw_WH G σ s.heap H locs) (hr : va_Run p l e R s m args below meth c H locs cells slots 0 0 (F0 m pc ls st0) rest (pw_Qv G σ2 a) (pw_gA G))
    (kk : ∀ (H1 : Heap) (locs1 : List Loc), pw_WH G σ2 s.heap H1 locs1 → W p l e R s m args below meth c H1 locs1 cells slots Q (F0 m (pc + 3) ls rest)) : W p l e R s m args below meth c H locs cells slots Q (F0 m pc ls st0) :=
  va_callv hr hw.2 (fun _ _ h => h) (fun _ h => h) (fun u t H1 locs1 ht _ hp hB _ _ hS => kk H1 locs1 ⟨by rw [← ht]; exact hB, hS⟩)
theorem pw_cr {σ2 : pw_St} {b : Nat} {a : Array Value} {st0 : List Value} (hw : pw_WH G σ s.heap H locs) (hr : va_Run p l e R s m args below meth c H locs cells slots 0 0 (F0 m pc ls st0) rest (pw_Qr G b σ2 a) (pw_gA G))
    (kk : ∀ (H1 : Heap) (locs1 : List Loc), pw_WH G σ2 s.heap H1 locs1 → W p l e R s m args below meth c H1 locs1 cells slots Q (F0 m (pc + 3) ls (.ref b :: rest))) : W p l e R s m args below meth c H locs cells slots Q (F0 m pc ls st0) := by
  exact va_callr hr hw.2 (fun _ _ h => h) (fun _ h => h) (fun u ra t H1 locs1 ht _ hp hB _ _ hS => by obtain ⟨rfl, hB⟩ := hB; exact kk H1 locs1 ⟨by rw [← ht]; exact hB, hS⟩)
end PW
