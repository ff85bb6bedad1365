theorem mwc_48 : Cond.classLink RL 7 RX10 ∈ pw_BW := pw_bw (List.mem_of_getElem? (i := 48) (by decide +kernel)) rfl
theorem mwc_49 : Cond.instantiable RX10 9 ∈ pw_BW := pw_bw (List.mem_of_getElem? (i := 49) (by decide +kernel)) rfl
theorem mwc_53 : Cond.methodLink RX10 1 objectInit ∈ pw_BW := pw_bw (List.mem_of_getElem? (i := 53) (by decide +kernel)) rfl
theorem mwc_56 : Cond.classLink RX10 7 RX2 ∈ pw_BW := pw_bw (List.mem_of_getElem? (i := 56) (by decide +kernel)) rfl
theorem mwc_57 : Cond.instantiable RX2 11 ∈ pw_BW := pw_bw (List.mem_of_getElem? (i := 57) (by decide +kernel)) rfl
theorem mwc_61 : Cond.methodLink RX2 3 objectInit ∈ pw_BW := pw_bw (List.mem_of_getElem? (i := 61) (by decide +kernel)) rfl
theorem mwc_62 : Cond.classLink RX2 9 RX3 ∈ pw_BW := pw_bw (List.mem_of_getElem? (i := 62) (by decide +kernel)) rfl
theorem mwc_63 : Cond.instantiable RX3 5 ∈ pw_BW := pw_bw (List.mem_of_getElem? (i := 63) (by decide +kernel)) rfl
theorem mwc_67 : Cond.methodLink RX3 3 objectInit ∈ pw_BW := pw_bw (List.mem_of_getElem? (i := 67) (by decide +kernel)) rfl
theorem mwc_99 : Cond.arrayClass .int ∈ pw_BW := pw_bw (List.mem_of_getElem? (i := 99) (by decide +kernel)) rfl
theorem mwc_145 : Cond.classLink RX10 16 RX6 ∈ pw_BW := pw_bw (List.mem_of_getElem? (i := 145) (by decide +kernel)) rfl
theorem mwc_146 : Cond.instantiable RX6 8 ∈ pw_BW := pw_bw (List.mem_of_getElem? (i := 146) (by decide +kernel)) rfl
theorem mwc_150 : Cond.methodLink RX6 3 objectInit ∈ pw_BW := pw_bw (List.mem_of_getElem? (i := 150) (by decide +kernel)) rfl
theorem mwc_184 : Cond.arrayClass .boolean ∈ pw_BW := pw_bw (List.mem_of_getElem? (i := 184) (by decide +kernel)) rfl
theorem mwc_185 : Cond.classLink RX10 25 RX7 ∈ pw_BW := pw_bw (List.mem_of_getElem? (i := 185) (by decide +kernel)) rfl
theorem mwc_186 : Cond.instantiable RX7 2 ∈ pw_BW := pw_bw (List.mem_of_getElem? (i := 186) (by decide +kernel)) rfl
theorem mwc_190 : Cond.methodLink RX7 3 objectInit ∈ pw_BW := pw_bw (List.mem_of_getElem? (i := 190) (by decide +kernel)) rfl
theorem mwc_191 : Cond.classLink RX7 9 RX1 ∈ pw_BW := pw_bw (List.mem_of_getElem? (i := 191) (by decide +kernel)) rfl
theorem mwc_193 : Cond.instantiable RX1 4 ∈ pw_BW := pw_bw (List.mem_of_getElem? (i := 193) (by decide +kernel)) rfl
theorem mwc_197 : Cond.methodLink RX1 3 objectInit ∈ pw_BW := pw_bw (List.mem_of_getElem? (i := 197) (by decide +kernel)) rfl
theorem mwc_226 : Cond.classLink RX10 32 RX0 ∈ pw_BW := pw_bw (List.mem_of_getElem? (i := 226) (by decide +kernel)) rfl
theorem mwc_227 : Cond.instantiable RX0 2 ∈ pw_BW := pw_bw (List.mem_of_getElem? (i := 227) (by decide +kernel)) rfl
theorem mwc_231 : Cond.methodLink RX0 3 objectInit ∈ pw_BW := pw_bw (List.mem_of_getElem? (i := 231) (by decide +kernel)) rfl
theorem mwc_232 : Cond.classLink RX0 9 RX1 ∈ pw_BW := pw_bw (List.mem_of_getElem? (i := 232) (by decide +kernel)) rfl
theorem mwc_243 : Cond.classLink RX10 39 RX5 ∈ pw_BW := pw_bw (List.mem_of_getElem? (i := 243) (by decide +kernel)) rfl
theorem mwc_244 : Cond.instantiable RX5 3 ∈ pw_BW := pw_bw (List.mem_of_getElem? (i := 244) (by decide +kernel)) rfl
theorem mwc_248 : Cond.methodLink RX5 3 objectInit ∈ pw_BW := pw_bw (List.mem_of_getElem? (i := 248) (by decide +kernel)) rfl
theorem mwc_259 : Cond.classLink RX10 46 RX4 ∈ pw_BW := pw_bw (List.mem_of_getElem? (i := 259) (by decide +kernel)) rfl
theorem mwc_260 : Cond.instantiable RX4 3 ∈ pw_BW := pw_bw (List.mem_of_getElem? (i := 260) (by decide +kernel)) rfl
theorem mwc_264 : Cond.methodLink RX4 3 objectInit ∈ pw_BW := pw_bw (List.mem_of_getElem? (i := 264) (by decide +kernel)) rfl
theorem mwc_276 : Cond.classLink RX10 55 RX9 ∈ pw_BW := pw_bw (List.mem_of_getElem? (i := 276) (by decide +kernel)) rfl
theorem mwc_277 : Cond.instantiable RX9 1 ∈ pw_BW := pw_bw (List.mem_of_getElem? (i := 277) (by decide +kernel)) rfl
theorem mwc_281 : Cond.methodLink RX9 3 objectInit ∈ pw_BW := pw_bw (List.mem_of_getElem? (i := 281) (by decide +kernel)) rfl
theorem mwc_286 : Cond.arrayClass .long ∈ pw_BW := pw_bw (List.mem_of_getElem? (i := 286) (by decide +kernel)) rfl
theorem mwc_287 : Cond.classLink RX10 62 RX8 ∈ pw_BW := pw_bw (List.mem_of_getElem? (i := 287) (by decide +kernel)) rfl
theorem mwc_288 : Cond.instantiable RX8 2 ∈ pw_BW := pw_bw (List.mem_of_getElem? (i := 288) (by decide +kernel)) rfl
theorem mwc_292 : Cond.methodLink RX8 3 objectInit ∈ pw_BW := pw_bw (List.mem_of_getElem? (i := 292) (by decide +kernel)) rfl
theorem mwc_744 : Cond.classLink RL 10 RX11 ∈ pw_BW := pw_bw (List.mem_of_getElem? (i := 744) (by decide +kernel)) rfl
theorem mwc_745 : Cond.instantiable RX11 28 ∈ pw_BW := pw_bw (List.mem_of_getElem? (i := 745) (by decide +kernel)) rfl
theorem mwc_749 : Cond.methodLink RX11 1 objectInit ∈ pw_BW := pw_bw (List.mem_of_getElem? (i := 749) (by decide +kernel)) rfl
theorem mwc_54 : Cond.instanceMethod objectInit ∈ pw_BW := pw_bw (List.mem_of_getElem? (i := 54) (by decide +kernel)) rfl
set_option maxRecDepth 40000 in
theorem mwc_55 : Cond.code objectInit ⟨#[0xb1]⟩ 1 none ∈ pw_BW := pw_bw (List.mem_of_getElem? (i := 55) (by rfl)) rfl
def pw_Kc (G : pw_Gh) (U : State) : Prop := va_K (pw_gD G) vwCl (pw_tys G) U ∧ va_AO RX1 U ∧ va_Nw (.methodLinkNest RX10 9 yX2_init "PerhapsWas") U ∧ va_Nw (.methodLinkNest RX10 57 yX9_init "PerhapsWas") U ∧ va_Nw (.methodLinkNest RX10 64 yX8_init "PerhapsWas") U ∧ va_Nw (.methodLinkNest RX0 17 yX1_init "PerhapsWas") U ∧ va_Nw (.methodLinkNest RX2 11 yX3_init "PerhapsWas") U ∧ va_Nw (.methodLinkNest RX7 17 yX1_init "PerhapsWas") U
theorem pw_Kc.blind {G : pw_Gh} {U : State} {g : JFrame} {mk : MethodId} {a : Array Value} (h : pw_Kc G U) : pw_Kc G (U.calling g mk a) := by
  obtain ⟨h1, h2, n0, n1, n2, n3, n4, n5⟩ := h
  exact ⟨va_K.moved (u := U) (U := U.calling g mk a) (Vm.Alike.refl U.vm) h1, va_AO.moved (u := U) (U := U.calling g mk a) (Vm.Alike.refl U.vm) h2, va_Nw.same rfl rfl n0, va_Nw.same rfl rfl n1, va_Nw.same rfl rfl n2, va_Nw.same rfl rfl n3, va_Nw.same rfl rfl n4, va_Nw.same rfl rfl n5⟩
theorem pw_Kc.go {G : pw_Gh} {s U : State} (h : pw_Kc G s) (hW : s.WarmedH U.vm) : pw_Kc G U := by
  obtain ⟨h1, h2, n0, n1, n2, n3, n4, n5⟩ := h
  exact ⟨va_K.moved hW.alike h1, va_AO.moved hW.alike h2, va_Nw.warmM hW n0, va_Nw.warmM hW n1, va_Nw.warmM hW n2, va_Nw.warmM hW n3, va_Nw.warmM hW n4, va_Nw.warmM hW n5⟩
def pw_Pn (G : pw_Gh) (av : List Value) (q0 : Nat × va_E) (sz : Nat) : Array Value → State → Prop := va_Pc av (fun U => U.heap.size = sz ∧ va_P (pw_gD G) vwCl [q0] U.heap ∧ pw_Kc G U ∧ va_D (fun _ => True) [q0])
def pw_Qn (Qb : (Nat → Prop) → Heap → Prop) (A : Nat → Prop) : Array Value → State → Outcome → State → Prop := va_Qv (fun (_ : Unit) => True) (fun _ t => Qb A t.heap) A
theorem pw_blindN {G : pw_Gh} {av : List Value} {q0 : Nat × va_E} {sz : Nat} : FrameBlind (pw_Pn G av q0 sz) := fun a U g mk h => ⟨h.1, h.2.1, h.2.2.1, h.2.2.2.1.blind, h.2.2.2.2⟩
def pw_CN (G : pw_Gh) (own : String) (cc : ByteArray) (nL : Nat) (p : Program) (s : State) (m : MethodId) (args : Array Value) (meth : Method) (c : Code) : Prop :=
  p.tables.exec = Jvm.exec ∧ c.code = cc ∧ c.maxLocals = nL ∧ s.vm.findClass own = some m.cls ∧ (∀ w ∈ pw_BW, w.before args s = true) ∧ pw_Kc G s ∧ meth.sig.returnType = none ∧ meth.locks = false ∧ meth.name = "<init>"
section PWN
variable {p : Program} {l : Launch} {e : Env} {R : Room} {s : State} {m : MethodId} {args : Array Value} {below : List Frame} {meth : Method} {c : Code} {H : Heap} {locs : List Loc} {cells slots : Nat} {Q : State → Prop}
variable {G : pw_Gh} {own : String} {cc : ByteArray} {nL pc idx : Nat} {ls : Array Slot} {rest : List Value} {ws : va_W} {A : Nat → Prop}
theorem pw_metN {y : MethodName} {rm : Room} {av : List Value} {q0 : Nat × va_E} {mc ms : Nat} {Qb : (Nat → Prop) → Heap → Prop} (hy : plainName y.cls = true) (hn : (lg_sl av).length ≤ nL) (hyn : y.name = "<init>")
    (body : ∀ (p : Program) (e : Env) (s : State) (m : MethodId) (args : Array Value) (below : List Frame) (meth : Method) (c : Code) (ls : Array Slot) (A : Nat → Prop), pw_CN G y.cls cc nL p s m args meth c → (∀ q : Nat, s.heap.size ≤ q → A q) → va_P (pw_gD G) vwCl [q0] s.heap → va_D A [q0] → va_S A s.heap s.heap [] → lv_has ls nL (lv_args 0 av) → W p l e rm s m args below meth c s.heap [] 0 0 (MQ below (pw_Qn Qb A) args s mc ms A) (F0 m 0 ls [])) (sz : Nat) :
    Met l y (.code y cc nL none :: pw_BW) rm (pw_Pn G av q0 sz) (pw_Qn Qb (va_A [q0] sz)) mc ms (va_A [q0] sz) := by
  refine Met.ofW (cc := cc) (maxL := nL) (ret := none) hy rfl ?_
  intro p e s m args below meth c s₁ B hml hv
  obtain ⟨rfl, hsz, hP, hK, hD0⟩ := hv
  subst hsz
  have hl := lv_entry av (n := nL) hn
  rw [lg_entry_eq]
  generalize (lg_sl av ++ List.replicate (nL - (lg_sl av).length) Slot.unset).toArray = ls at hl ⊢
  have hts := atoms_spec (ws := .code y cc nL none :: pw_BW) B.pre
  exact body p e s m _ below meth c ls _ ⟨B.exec, B.bytes, hml, findClass_of_methodNamed B.named, fun w h => hts w (List.mem_cons_of_mem _ h), hK, B.returns, B.notSynchronized, ((name_of_methodNamed B.named B.method).1).trans hyn⟩ (fun q h => Or.inr h) hP (hD0.self (sz := s.heap.size)) va_S.rf hl
theorem pw_nret {Qb : (Nat → Prop) → Heap → Prop} (hC : pw_CN G own cc nL p s m args meth c) (hS : va_S A s.heap H locs) (hq : Qb A H) (hdg : decode cc pc = .ok (.return_, 1)) : W p l e R s m args below meth c H locs cells slots (MQ below (pw_Qn Qb A) args s cells slots A) (F0 m pc ls []) :=
  W.vret hC.1 hC.2.1 hC.2.2.2.2.2.2.1 (fun t ht hW => ⟨⟨(), rfl, trivial, (by rw [ht]; exact hq : Qb A t.heap)⟩, hS.F ht⟩) hS.2.2 hdg hC.2.2.2.2.2.2.2.1
theorem pw_noi {a : Nat} (hC : pw_CN G own cc nL p s m args meth c) (hlk : Cond.methodLink own idx objectInit ∈ pw_BW) (hls : ls.size = nL) (hdg : decode cc pc = .ok (.invokespecial idx, 3)) (hfr : 1 ≤ R.frames) (hlo : (rest.map fun v => v.category).sum + 12 ≤ R.locals)
    (kk : W p l e R s m args below meth c H locs cells slots Q (F0 m (pc + 3) ls rest)) : W p l e R s m args below meth c H locs cells slots Q (F0 m pc ls (.ref a :: rest)) :=
  W.objInit (g := F0 m pc ls (.ref a :: rest)) hC.1 hC.2.1 hC.2.2.2.1 (hC.2.2.2.2.1 _ hlk) (hC.2.2.2.2.1 _ mwc_54) (hC.2.2.2.2.1 _ mwc_55) rfl (hls.trans hC.2.2.1.symm) rfl hdg hfr (by show 2 * 0 + _ + 12 ≤ _; omega) (W.eq (g2 := F0 m (pc + 3) ls rest) rfl kk)
theorem pw_nI {N : Nat} {n : Int32} (hC : pw_CN G own cc nL p s m args meth c) (hP : va_P (pw_gD G) vwCl ws H) (hD : va_D A ws) (hS : va_S A s.heap H locs) (hA : ∀ q : Nat, s.heap.size ≤ q → A q) (hn : ¬ n < 0) (hN : n.toNatClampNeg = N) (hbytes : N * componentBytes .int ≤ 536870912) (hcells : cells + 1 ≤ R.cells) (hslots : slots + N ≤ R.slots) (hdg : decode cc pc = .ok (.newarray .int, 2))
    (kk : ∀ (q : Nat) (H1 : Heap), va_P (pw_gD G) vwCl (ws ++ [(q, .inl (pw_gI G, N, .inl (fun _ => 0)))]) H1 → va_D A (ws ++ [(q, .inl (pw_gI G, N, .inl (fun _ => 0)))]) → va_S A s.heap H1 locs → W p l e R s m args below meth c H1 locs (cells + 1) (slots + N) Q (F0 m (pc + 2) ls (.ref q :: rest))) : W p l e R s m args below meth c H locs cells slots Q (F0 m pc ls (.int n :: rest)) := by
  refine va_newa (atype := .int) (a0 := (N, .inl (fun _ => 0))) (ty := .int) hC.1 hC.2.1 (hC.2.2.2.2.1 _ mwc_99) rfl hC.2.2.2.2.2.1.1 hP hD hS hA (fun _ => rfl) hn hN hbytes hcells hslots hdg (fun q cA H1 hK h1 h2 h3 => ?_)
  have e1 : cA = pw_gI G := Option.some.inj ((hK.2 4 (cA, .int) rfl).2.symm.trans (hC.2.2.2.2.2.1.1.2 0 (pw_gI G, .int) rfl).2)
  subst e1
  exact kk q H1 h1 h2 h3
theorem pw_nZ {N : Nat} {n : Int32} (hC : pw_CN G own cc nL p s m args meth c) (hP : va_P (pw_gD G) vwCl ws H) (hD : va_D A ws) (hS : va_S A s.heap H locs) (hA : ∀ q : Nat, s.heap.size ≤ q → A q) (hn : ¬ n < 0) (hN : n.toNatClampNeg = N) (hbytes : N * componentBytes .boolean ≤ 536870912) (hcells : cells + 1 ≤ R.cells) (hslots : slots + N ≤ R.slots) (hdg : decode cc pc = .ok (.newarray .boolean, 2))
    (kk : ∀ (q : Nat) (H1 : Heap), va_P (pw_gD G) vwCl (ws ++ [(q, .inl (pw_gZ G, N, .inl (fun _ => 0)))]) H1 → va_D A (ws ++ [(q, .inl (pw_gZ G, N, .inl (fun _ => 0)))]) → va_S A s.heap H1 locs → W p l e R s m args below meth c H1 locs (cells + 1) (slots + N) Q (F0 m (pc + 2) ls (.ref q :: rest))) : W p l e R s m args below meth c H locs cells slots Q (F0 m pc ls (.int n :: rest)) := by
  refine va_newa (atype := .boolean) (a0 := (N, .inl (fun _ => 0))) (ty := .boolean) hC.1 hC.2.1 (hC.2.2.2.2.1 _ mwc_184) rfl hC.2.2.2.2.2.1.1 hP hD hS hA (fun _ => rfl) hn hN hbytes hcells hslots hdg (fun q cA H1 hK h1 h2 h3 => ?_)
  have e1 : cA = pw_gZ G := Option.some.inj ((hK.2 4 (cA, .boolean) rfl).2.symm.trans (hC.2.2.2.2.2.1.1.2 2 (pw_gZ G, .boolean) rfl).2)
  subst e1
  exact kk q H1 h1 h2 h3
theorem pw_nJ {N : Nat} {n : Int32} (hC : pw_CN G own cc nL p s m args meth c) (hP : va_P (pw_gD G) vwCl ws H) (hD : va_D A ws) (hS : va_S A s.heap H locs) (hA : ∀ q : Nat, s.heap.size ≤ q → A q) (hn : ¬ n < 0) (hN : n.toNatClampNeg = N) (hbytes : N * componentBytes .long ≤ 536870912) (hcells : cells + 1 ≤ R.cells) (hslots : slots + N ≤ R.slots) (hdg : decode cc pc = .ok (.newarray .long, 2))
    (kk : ∀ (q : Nat) (H1 : Heap), va_P (pw_gD G) vwCl (ws ++ [(q, .inl (pw_gJ G, N, .inr (.inl (fun _ => 0))))]) H1 → va_D A (ws ++ [(q, .inl (pw_gJ G, N, .inr (.inl (fun _ => 0))))]) → va_S A s.heap H1 locs → W p l e R s m args below meth c H1 locs (cells + 1) (slots + N) Q (F0 m (pc + 2) ls (.ref q :: rest))) : W p l e R s m args below meth c H locs cells slots Q (F0 m pc ls (.int n :: rest)) := by
  refine va_newa (atype := .long) (a0 := (N, .inr (.inl (fun _ => 0)))) (ty := .long) hC.1 hC.2.1 (hC.2.2.2.2.1 _ mwc_286) rfl hC.2.2.2.2.2.1.1 hP hD hS hA (fun _ => rfl) hn hN hbytes hcells hslots hdg (fun q cA H1 hK h1 h2 h3 => ?_)
  have e1 : cA = pw_gJ G := Option.some.inj ((hK.2 4 (cA, .long) rfl).2.symm.trans (hC.2.2.2.2.2.1.1.2 1 (pw_gJ G, .long) rfl).2)
  subst e1
  exact kk q H1 h1 h2 h3
theorem pw_nF {N : Nat} {n : Int32} (hC : pw_CN G own cc nL p s m args meth c) (hlk : Cond.classLink own idx RX1 ∈ pw_BW) (hP : va_P (pw_gD G) vwCl ws H) (hD : va_D A ws) (hS : va_S A s.heap H locs) (hA : ∀ q : Nat, s.heap.size ≤ q → A q) (hn : ¬ n < 0) (hN : n.toNatClampNeg = N) (hbytes : N * 4 ≤ 536870912) (hcells : cells + 1 ≤ R.cells) (hslots : slots + N ≤ R.slots) (hdg : decode cc pc = .ok (.anewarray idx, 3))
    (kk : ∀ (q : Nat) (H1 : Heap), va_P (pw_gD G) vwCl (ws ++ [(q, .inl (pw_gF G, N, .inr (.inr (.inr (.inr (fun _ => none))))))]) H1 → va_D A (ws ++ [(q, .inl (pw_gF G, N, .inr (.inr (.inr (.inr (fun _ => none))))))]) → va_S A s.heap H1 locs → W p l e R s m args below meth c H1 locs (cells + 1) (slots + N) Q (F0 m (pc + 3) ls (.ref q :: rest))) : W p l e R s m args below meth c H locs cells slots Q (F0 m pc ls (.int n :: rest)) := by
  refine va_newq (C := RX1) hC.1 hC.2.1 hC.2.2.2.1 (hC.2.2.2.2.1 _ hlk) hC.2.2.2.2.2.1.2.1 hC.2.2.2.2.2.1.1 hP hD hS hA hn hN hbytes hcells hslots hdg (fun q cA H1 hK h1 h2 h3 => ?_)
  obtain ⟨k1, c1, -, -, -, f1⟩ := (hK.2 4 (cA, .object RX1) rfl).2
  obtain ⟨k2, c2, -, -, -, f2⟩ := (hC.2.2.2.2.2.1.1.2 3 (pw_gF G, .object RX1) rfl).2
  have e1 : cA = pw_gF G := Option.some.inj (f1.symm.trans f2)
  subst e1
  exact kk q H1 h1 h2 h3
/-- behind a constructor's call: the caller's other cells, and the new ones -/
theorem pw_nj {X L : va_W} {q : Nat × va_E} {H H1 : Heap} (hP : va_P (pw_gD G) vwCl (X ++ [q]) H) (hD : va_D A (X ++ [q])) (hk : ∀ a : Nat, a < H.size → ¬ va_A [q] H.size a → H1[a]? = H[a]?) (hF : ∀ a, va_A [q] H.size a → A a) (hP1 : va_P (pw_gD G) vwCl L H1) (hD1 : va_D (va_A [q] H.size) L) : va_P (pw_gD G) vwCl (X ++ L) H1 ∧ va_D A (X ++ L) := by
  have apart : ∀ (k : Nat) (z : Nat × va_E), X[k]? = some z → (X ++ [q])[k]? = some z ∧ z.1 < H.size ∧ ¬ va_A [q] H.size z.1 := by
    intro k z hz
    have hlt : k < X.length := (List.getElem?_eq_some_iff.mp hz).1
    have h1 : (X ++ [q])[k]? = some z := by rw [List.getElem?_append_left hlt]; exact hz
    have hl := (hP k z h1).lt
    refine ⟨h1, hl, fun h => ?_⟩
    rcases h with ⟨k2, e2, h⟩ | h
    · have h2 : (X ++ [q])[X.length + k2]? = some (z.1, e2) := by rw [List.getElem?_append_right (by omega)]; simpa using h
      have := hD.1 k (X.length + k2) z (z.1, e2) h1 h2 rfl
      omega
    · omega
  refine ⟨va_P.app (fun k z hz => ?_) hP1, va_D.app ⟨fun i j a b ha hb hab => hD.1 i j a b (apart i a ha).1 (apart j b hb).1 hab, fun k z hz => hD.2 k z (apart k z hz).1⟩ (hD1.weaken (fun k z _ h => hF z.1 h)) (fun i j x y hx hy hxy => ?_)⟩
  · obtain ⟨g0, g1, g2⟩ := apart k z hz
    exact (hP k z g0).kept (hk z.1 g1 g2)
  · exact (apart i x hx).2.2 (by rw [hxy]; exact hD1.2 j y hy)
theorem pw_nfree {X : va_W} {q : Nat × va_E} (hD : va_D A (X ++ [q])) (hS : va_S A s.heap H locs) (hA : ∀ q : Nat, s.heap.size ≤ q → A q) : ∀ a, va_A [q] H.size a → A a := by
  intro a h
  rcases h with ⟨k, e2, h⟩ | h
  · have h2 : (X ++ [q])[X.length + k]? = some (a, e2) := by rw [List.getElem?_append_right (by omega)]; simpa using h
    exact hD.2 _ _ h2
  · exact hA a (Nat.le_trans hS.1 h)
theorem pw_nlast {X : va_W} {q : Nat × va_E} (hP : va_P (pw_gD G) vwCl (X ++ [q]) H) : va_P (pw_gD G) vwCl [q] H := by
  intro k z hz
  have hk : k = 0 := by
    have := (List.getElem?_eq_some_iff.mp hz).1
    simp at this; exact this
  subst hk
  exact hP X.length z (by rw [List.getElem?_append_right (by omega)]; simpa using hz)
theorem pw_nl {X L : va_W} {q : Nat × va_E} : (X ++ (q :: L))[X.length]? = some q := by
  rw [List.getElem?_append_right (Nat.le_refl _)]; simp
theorem pw_one {q : Nat × va_E} {B : Nat → Prop} (h : B q.1) : va_D B [q] := ⟨fun i j a b ha hb _ => by
    have h1 := (List.getElem?_eq_some_iff.mp ha).1
    have h2 := (List.getElem?_eq_some_iff.mp hb).1
    simp at h1 h2; omega, fun k z hz => by
    have h1 := (List.getElem?_eq_some_iff.mp hz).1
    simp at h1; subst h1; simp at hz; rw [← hz]; exact h⟩
/-- a constructor's call -/
theorem pw_ncall {y : MethodName} {bytes : ByteArray} {maxL n : Nat} {rm : Room} {mc ms : Nat} {As st0 : List Value} {X : va_W} {b : Nat} {en : va_E} {Qb : (Nat → Prop) → Heap → Prop} {own0 : String} (hx : p.tables.exec = Jvm.exec) (hcb : c.code = cc) (hml : c.maxLocals = nL) (hown : s.vm.findClass own0 = some m.cls) (hts : ∀ w ∈ pw_BW, w.before args s = true) (hKc : pw_Kc G s)
    (hP : va_P (pw_gD G) vwCl (X ++ [(b, en)]) H) (hD : va_D A (X ++ [(b, en)])) (hS : va_S A s.heap H locs) (hA : ∀ q : Nat, s.heap.size ≤ q → A q)
    (hM : ∀ sz : Nat, Met l y (.code y bytes maxL none :: pw_BW) rm (pw_Pn G (.ref b :: As) (b, en) sz) (pw_Qn Qb (va_A [(b, en)] sz)) mc ms (va_A [(b, en)] sz))
    (hlk : Cond.methodLink own0 idx y ∈ pw_BW ∨ ∃ host : String, va_Nw (.methodLinkNest own0 idx y host) s)
    (hy : Cond.instanceMethod y ∈ pw_BW ∧ Cond.initialized y.cls ∈ pw_BW ∧ Cond.code y bytes maxL none ∈ pw_BW ∧ y.name = "<init>" ∧ (y.cls ≠ "java/lang/invoke/MethodHandle" ∧ y.cls ≠ "java/lang/invoke/VarHandle" ∧ (parseMethodDescriptor y.desc).map (fun d => d.parameters.length) = some n))
    (hR : rm.cells = mc ∧ rm.slots = ms ∧ rm.frames + 1 ≤ R.frames ∧ 8 + (maxL + 11) + rm.locals ≤ R.locals) (hn : As.length = n) (hls : ls.size = nL) (hst : st0 = As.reverse ++ .ref b :: rest) (hcat : (rest.map fun v => v.category).sum ≤ 8) (hcs : cells + mc ≤ R.cells ∧ slots + ms ≤ R.slots) (hdg : decode cc pc = .ok (.invokespecial idx, 3))
    (kk : ∀ (H1 : Heap) (locs1 : List Loc), (∀ B : Nat → Prop, (∀ L : va_W, va_P (pw_gD G) vwCl L H1 → va_D (va_A [(b, en)] H.size) L → va_P (pw_gD G) vwCl (X ++ L) H1 ∧ va_D A (X ++ L)) ∧ Qb (va_A [(b, en)] H.size) H1) → va_S A s.heap H1 locs1 → W p l e R s m args below meth c H1 locs1 (cells + mc) (slots + ms) Q (F0 m (pc + 3) ls rest)) : W p l e R s m args below meth c H locs cells slots Q (F0 m pc ls st0) := by
  obtain ⟨y1, y2, y3, y4, y5⟩ := hy
  have hG : GoodIn pw_BW (.code y bytes maxL none :: pw_BW) := pw_goodC y3
  have hF := pw_nfree hD hS hA
  have hpre : PreS s H (pw_Pn G (.ref b :: As) (b, en) H.size) (.ref b :: As) := ⟨pw_blindN, fun U hU hW => ⟨rfl, by rw [hU], by rw [hU]; exact pw_nlast hP, hKc.go hW, pw_one trivial⟩⟩
  have run : va_Run p l e R s m args below meth c H locs cells slots mc ms (F0 m pc ls st0) rest (pw_Qn Qb (va_A [(b, en)] H.size) (Value.ref b :: As).toArray) (va_A [(b, en)] H.size) := by
    rcases hlk with hlk | ⟨host, hlk⟩
    · exact va_runI (As := As) (rest := rest) ⟨hx, hcb, hml, hown, hts⟩ (hM H.size) ⟨callB_of n hts hG rfl hR.1 hR.2.1 (hts _ y2) (hts _ hlk) y5 ⟨hR.2.2.1, hR.2.2.2⟩, y4, hts _ y1⟩ hpre rfl hn hls hst (by show 2 * 0 + _ ≤ 8; omega) hdg hcs
    · exact va_runIN (As := As) (rest := rest) ⟨hx, hcb, hml, hown, hts⟩ (hM H.size) ⟨va_cnB n hts hG rfl hR.1 hR.2.1 hlk (hts _ y2) y5 ⟨hR.2.2.1, hR.2.2.2⟩, y4, hts _ y1⟩ hpre rfl hn hls hst (by show 2 * 0 + _ ≤ 8; omega) hdg hcs
  refine va_callv run hS (fun q _ h => hF q h) hF (fun u t H1 locs1 ht _ _ hB _ hk hS1 => ?_)
  rw [ht] at hB
  exact kk H1 locs1 (fun _ => ⟨fun L h1 h2 => pw_nj hP hD hk hF h1 h2, hB⟩) hS1
end PWN
theorem wn_X0_init : Cond.instanceMethod yX0_init ∈ pw_BW ∧ Cond.initialized yX0_init.cls ∈ pw_BW ∧ Cond.code yX0_init cX0_init 2 none ∈ pw_BW ∧ yX0_init.name = "<init>" ∧ (yX0_init.cls ≠ "java/lang/invoke/MethodHandle" ∧ yX0_init.cls ≠ "java/lang/invoke/VarHandle" ∧ (parseMethodDescriptor yX0_init.desc).map (fun d => d.parameters.length) = some 0) := ⟨mw_229, mw_40, mw_230, rfl, by decide +kernel⟩
theorem wn_X1_init : Cond.instanceMethod yX1_init ∈ pw_BW ∧ Cond.initialized yX1_init.cls ∈ pw_BW ∧ Cond.code yX1_init cX1_init 1 none ∈ pw_BW ∧ yX1_init.name = "<init>" ∧ (yX1_init.cls ≠ "java/lang/invoke/MethodHandle" ∧ yX1_init.cls ≠ "java/lang/invoke/VarHandle" ∧ (parseMethodDescriptor yX1_init.desc).map (fun d => d.parameters.length) = some 0) := ⟨mw_195, mw_39, mw_196, rfl, by decide +kernel⟩
theorem wn_X2_init : Cond.instanceMethod yX2_init ∈ pw_BW ∧ Cond.initialized yX2_init.cls ∈ pw_BW ∧ Cond.code yX2_init cX2_init 1 none ∈ pw_BW ∧ yX2_init.name = "<init>" ∧ (yX2_init.cls ≠ "java/lang/invoke/MethodHandle" ∧ yX2_init.cls ≠ "java/lang/invoke/VarHandle" ∧ (parseMethodDescriptor yX2_init.desc).map (fun d => d.parameters.length) = some 0) := ⟨mw_59, mw_35, mw_60, rfl, by decide +kernel⟩
theorem wn_X3_init : Cond.instanceMethod yX3_init ∈ pw_BW ∧ Cond.initialized yX3_init.cls ∈ pw_BW ∧ Cond.code yX3_init cX3_init 1 none ∈ pw_BW ∧ yX3_init.name = "<init>" ∧ (yX3_init.cls ≠ "java/lang/invoke/MethodHandle" ∧ yX3_init.cls ≠ "java/lang/invoke/VarHandle" ∧ (parseMethodDescriptor yX3_init.desc).map (fun d => d.parameters.length) = some 0) := ⟨mw_65, mw_36, mw_66, rfl, by decide +kernel⟩
theorem wn_X4_init : Cond.instanceMethod yX4_init ∈ pw_BW ∧ Cond.initialized yX4_init.cls ∈ pw_BW ∧ Cond.code yX4_init cX4_init 2 none ∈ pw_BW ∧ yX4_init.name = "<init>" ∧ (yX4_init.cls ≠ "java/lang/invoke/MethodHandle" ∧ yX4_init.cls ≠ "java/lang/invoke/VarHandle" ∧ (parseMethodDescriptor yX4_init.desc).map (fun d => d.parameters.length) = some 1) := ⟨mw_262, mw_42, mw_263, rfl, by decide +kernel⟩
theorem wn_X5_init : Cond.instanceMethod yX5_init ∈ pw_BW ∧ Cond.initialized yX5_init.cls ∈ pw_BW ∧ Cond.code yX5_init cX5_init 2 none ∈ pw_BW ∧ yX5_init.name = "<init>" ∧ (yX5_init.cls ≠ "java/lang/invoke/MethodHandle" ∧ yX5_init.cls ≠ "java/lang/invoke/VarHandle" ∧ (parseMethodDescriptor yX5_init.desc).map (fun d => d.parameters.length) = some 1) := ⟨mw_246, mw_41, mw_247, rfl, by decide +kernel⟩
theorem wn_X6_init : Cond.instanceMethod yX6_init ∈ pw_BW ∧ Cond.initialized yX6_init.cls ∈ pw_BW ∧ Cond.code yX6_init cX6_init 2 none ∈ pw_BW ∧ yX6_init.name = "<init>" ∧ (yX6_init.cls ≠ "java/lang/invoke/MethodHandle" ∧ yX6_init.cls ≠ "java/lang/invoke/VarHandle" ∧ (parseMethodDescriptor yX6_init.desc).map (fun d => d.parameters.length) = some 1) := ⟨mw_148, mw_37, mw_149, rfl, by decide +kernel⟩
theorem wn_X7_init : Cond.instanceMethod yX7_init ∈ pw_BW ∧ Cond.initialized yX7_init.cls ∈ pw_BW ∧ Cond.code yX7_init cX7_init 2 none ∈ pw_BW ∧ yX7_init.name = "<init>" ∧ (yX7_init.cls ≠ "java/lang/invoke/MethodHandle" ∧ yX7_init.cls ≠ "java/lang/invoke/VarHandle" ∧ (parseMethodDescriptor yX7_init.desc).map (fun d => d.parameters.length) = some 0) := ⟨mw_188, mw_38, mw_189, rfl, by decide +kernel⟩
theorem wn_X8_init : Cond.instanceMethod yX8_init ∈ pw_BW ∧ Cond.initialized yX8_init.cls ∈ pw_BW ∧ Cond.code yX8_init cX8_init 1 none ∈ pw_BW ∧ yX8_init.name = "<init>" ∧ (yX8_init.cls ≠ "java/lang/invoke/MethodHandle" ∧ yX8_init.cls ≠ "java/lang/invoke/VarHandle" ∧ (parseMethodDescriptor yX8_init.desc).map (fun d => d.parameters.length) = some 0) := ⟨mw_290, mw_44, mw_291, rfl, by decide +kernel⟩
theorem wn_X9_init : Cond.instanceMethod yX9_init ∈ pw_BW ∧ Cond.initialized yX9_init.cls ∈ pw_BW ∧ Cond.code yX9_init cX9_init 1 none ∈ pw_BW ∧ yX9_init.name = "<init>" ∧ (yX9_init.cls ≠ "java/lang/invoke/MethodHandle" ∧ yX9_init.cls ≠ "java/lang/invoke/VarHandle" ∧ (parseMethodDescriptor yX9_init.desc).map (fun d => d.parameters.length) = some 0) := ⟨mw_279, mw_43, mw_280, rfl, by decide +kernel⟩
theorem wn_X10_init : Cond.instanceMethod yX10_init ∈ pw_BW ∧ Cond.initialized yX10_init.cls ∈ pw_BW ∧ Cond.code yX10_init cX10_init 1 none ∈ pw_BW ∧ yX10_init.name = "<init>" ∧ (yX10_init.cls ≠ "java/lang/invoke/MethodHandle" ∧ yX10_init.cls ≠ "java/lang/invoke/VarHandle" ∧ (parseMethodDescriptor yX10_init.desc).map (fun d => d.parameters.length) = some 0) := ⟨mw_51, mw_34, mw_52, rfl, by decide +kernel⟩
theorem wn_X11_init : Cond.instanceMethod yX11_init ∈ pw_BW ∧ Cond.initialized yX11_init.cls ∈ pw_BW ∧ Cond.code yX11_init cX11_init 1 none ∈ pw_BW ∧ yX11_init.name = "<init>" ∧ (yX11_init.cls ≠ "java/lang/invoke/MethodHandle" ∧ yX11_init.cls ≠ "java/lang/invoke/VarHandle" ∧ (parseMethodDescriptor yX11_init.desc).map (fun d => d.parameters.length) = some 0) := ⟨mw_747, mw_45, mw_748, rfl, by decide +kernel⟩
