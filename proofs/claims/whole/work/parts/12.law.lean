section PM
variable {p : Program} {l : Launch} {e : Env} {s : State} {m : MethodId} {b : Nat} {below : List Frame} {meth : Method} {c : Code} {G : pw_Gh}
def b_L_law_18 (xs : Nat → Int32) (L : Nat) (k18 : Int32 → pw_St → Option Unit) (x3 : Int32) (σ : pw_St) : Option Unit := (if ((Int32.ofNat L) - (5 : Int32)) < x3 then (some ()) else (if pw_in x3 L = true then (if ((xs x3.toNatClampNeg) &&& (63 : Int32)) = 0 then (pw_bi (f_X10_process σ) fun r1 σ1 => (pw_bi (f_X11_process σ1) fun r2 σ2 => (if r1 = r2 then (k18 (x3 + (5 : Int32)) σ2) else none))) else (if ((xs x3.toNatClampNeg) &&& (63 : Int32)) = 1 then (if pw_in (x3 + (1 : Int32)) L = true then (if pw_in (x3 + (2 : Int32)) L = true then (if pw_in (x3 + (3 : Int32)) L = true then (if pw_in (x3 + (4 : Int32)) L = true then (pw_bi (f_X10_own (xs (x3 + (1 : Int32)).toNatClampNeg) (xs (x3 + (2 : Int32)).toNatClampNeg) (xs (x3 + (3 : Int32)).toNatClampNeg) (xs (x3 + (4 : Int32)).toNatClampNeg) σ) fun r3 σ3 => (if pw_in (x3 + (1 : Int32)) L = true then (if pw_in (x3 + (2 : Int32)) L = true then (if pw_in (x3 + (3 : Int32)) L = true then (if pw_in (x3 + (4 : Int32)) L = true then (pw_bi (f_X11_own (xs (x3 + (1 : Int32)).toNatClampNeg) (xs (x3 + (2 : Int32)).toNatClampNeg) (xs (x3 + (3 : Int32)).toNatClampNeg) (xs (x3 + (4 : Int32)).toNatClampNeg) σ3) fun r4 σ4 => (if r3 = r4 then (k18 (x3 + (5 : Int32)) σ4) else none)) else none) else none) else none) else none)) else none) else none) else none) else none) else (if ((xs x3.toNatClampNeg) &&& (63 : Int32)) = 2 then (if pw_in (x3 + (1 : Int32)) L = true then (if pw_in (x3 + (2 : Int32)) L = true then (pw_bi (f_X10_send (xs (x3 + (1 : Int32)).toNatClampNeg) (xs (x3 + (2 : Int32)).toNatClampNeg) σ) fun r5 σ5 => (if pw_in (x3 + (1 : Int32)) L = true then (if pw_in (x3 + (2 : Int32)) L = true then (pw_bi (f_X11_send (xs (x3 + (1 : Int32)).toNatClampNeg) (xs (x3 + (2 : Int32)).toNatClampNeg) σ5) fun r6 σ6 => (if r5 = r6 then (k18 (x3 + (5 : Int32)) σ6) else none)) else none) else none)) else none) else none) else (if ((xs x3.toNatClampNeg) &&& (63 : Int32)) = 3 then (if pw_in (x3 + (1 : Int32)) L = true then (pw_bi (f_X10_take (xs (x3 + (1 : Int32)).toNatClampNeg) σ) fun r7 σ7 => (if pw_in (x3 + (1 : Int32)) L = true then (pw_bi (f_X11_take (xs (x3 + (1 : Int32)).toNatClampNeg) σ7) fun r8 σ8 => (if r7 = r8 then (k18 (x3 + (5 : Int32)) σ8) else none)) else none)) else none) else (if ((xs x3.toNatClampNeg) &&& (63 : Int32)) = 4 then (if pw_in (x3 + (1 : Int32)) L = true then (if pw_in (x3 + (2 : Int32)) L = true then (pw_bi (f_X10_wait (xs (x3 + (1 : Int32)).toNatClampNeg) (xs (x3 + (2 : Int32)).toNatClampNeg) σ) fun r9 σ9 => (if pw_in (x3 + (1 : Int32)) L = true then (if pw_in (x3 + (2 : Int32)) L = true then (pw_bi (f_X11_wait (xs (x3 + (1 : Int32)).toNatClampNeg) (xs (x3 + (2 : Int32)).toNatClampNeg) σ9) fun r10 σ10 => (if r9 = r10 then (k18 (x3 + (5 : Int32)) σ10) else none)) else none) else none)) else none) else none) else (if ((xs x3.toNatClampNeg) &&& (63 : Int32)) = 5 then (pw_bi (f_X10_undo σ) fun r11 σ11 => (pw_bi (f_X11_undo σ11) fun r12 σ12 => (if r11 = r12 then (k18 (x3 + (5 : Int32)) σ12) else none))) else (if ((xs x3.toNatClampNeg) &&& (63 : Int32)) = 6 then (if pw_in (x3 + (1 : Int32)) L = true then (if pw_in (x3 + (2 : Int32)) L = true then (if pw_in (x3 + (3 : Int32)) L = true then (pw_bi (f_X10_event (xs (x3 + (1 : Int32)).toNatClampNeg) (xs (x3 + (2 : Int32)).toNatClampNeg) (xs (x3 + (3 : Int32)).toNatClampNeg) σ) fun r13 σ13 => (if pw_in (x3 + (1 : Int32)) L = true then (if pw_in (x3 + (2 : Int32)) L = true then (if pw_in (x3 + (3 : Int32)) L = true then (pw_bi (f_X11_event (xs (x3 + (1 : Int32)).toNatClampNeg) (xs (x3 + (2 : Int32)).toNatClampNeg) (xs (x3 + (3 : Int32)).toNatClampNeg) σ13) fun r14 σ14 => (if r13 = r14 then (k18 (x3 + (5 : Int32)) σ14) else none)) else none) else none) else none)) else none) else none) else none) else (if ((xs x3.toNatClampNeg) &&& (63 : Int32)) = 7 then (if pw_in (x3 + (1 : Int32)) L = true then (if pw_in (x3 + (2 : Int32)) L = true then (pw_bi (f_X10_letter (xs (x3 + (1 : Int32)).toNatClampNeg) (xs (x3 + (2 : Int32)).toNatClampNeg) σ) fun r15 σ15 => (if pw_in (x3 + (1 : Int32)) L = true then (if pw_in (x3 + (2 : Int32)) L = true then (pw_bi (f_X11_letter (xs (x3 + (1 : Int32)).toNatClampNeg) (xs (x3 + (2 : Int32)).toNatClampNeg) σ15) fun r16 σ16 => (if r15 = r16 then (k18 (x3 + (5 : Int32)) σ16) else none)) else none) else none)) else none) else none) else (if ((xs x3.toNatClampNeg) &&& (63 : Int32)) = 8 then (if pw_in (x3 + (1 : Int32)) L = true then (if pw_in (x3 + (2 : Int32)) L = true then (if pw_in (x3 + (3 : Int32)) L = true then (if pw_in (x3 + (4 : Int32)) L = true then (pw_bi (f_X10_ahead (xs (x3 + (1 : Int32)).toNatClampNeg) (xs (x3 + (2 : Int32)).toNatClampNeg) (xs (x3 + (3 : Int32)).toNatClampNeg) (xs (x3 + (4 : Int32)).toNatClampNeg) σ) fun r17 σ17 => (if pw_in (x3 + (1 : Int32)) L = true then (if pw_in (x3 + (2 : Int32)) L = true then (if pw_in (x3 + (3 : Int32)) L = true then (if pw_in (x3 + (4 : Int32)) L = true then (pw_bi (f_X11_ahead (xs (x3 + (1 : Int32)).toNatClampNeg) (xs (x3 + (2 : Int32)).toNatClampNeg) (xs (x3 + (3 : Int32)).toNatClampNeg) (xs (x3 + (4 : Int32)).toNatClampNeg) σ17) fun r18 σ18 => (if r17 = r18 then (k18 (x3 + (5 : Int32)) σ18) else none)) else none) else none) else none) else none)) else none) else none) else none) else none) else (if ((xs x3.toNatClampNeg) &&& (63 : Int32)) = 9 then (if pw_in (x3 + (1 : Int32)) L = true then (if pw_in (x3 + (2 : Int32)) L = true then (if pw_in (x3 + (3 : Int32)) L = true then (pw_bi (f_X10_clock (xs (x3 + (1 : Int32)).toNatClampNeg) (xs (x3 + (2 : Int32)).toNatClampNeg) (xs (x3 + (3 : Int32)).toNatClampNeg) σ) fun r19 σ19 => (if pw_in (x3 + (1 : Int32)) L = true then (if pw_in (x3 + (2 : Int32)) L = true then (if pw_in (x3 + (3 : Int32)) L = true then (pw_bi (f_X11_clock (xs (x3 + (1 : Int32)).toNatClampNeg) (xs (x3 + (2 : Int32)).toNatClampNeg) (xs (x3 + (3 : Int32)).toNatClampNeg) σ19) fun r20 σ20 => (if r19 = r20 then (k18 (x3 + (5 : Int32)) σ20) else none)) else none) else none) else none)) else none) else none) else none) else (if ((xs x3.toNatClampNeg) &&& (63 : Int32)) = 10 then (if pw_in (x3 + (1 : Int32)) L = true then (pw_bi (f_X10_possible (xs (x3 + (1 : Int32)).toNatClampNeg) σ) fun r21 σ21 => (if pw_in (x3 + (1 : Int32)) L = true then (pw_bi (f_X11_possible (xs (x3 + (1 : Int32)).toNatClampNeg) σ21) fun r22 σ22 => (if r21 = r22 then (k18 (x3 + (5 : Int32)) σ22) else none)) else none)) else none) else (if ((xs x3.toNatClampNeg) &&& (63 : Int32)) = 11 then (if pw_in (x3 + (1 : Int32)) L = true then (pw_bi (f_X10_cuts (xs (x3 + (1 : Int32)).toNatClampNeg) σ) fun r23 σ23 => (if pw_in (x3 + (1 : Int32)) L = true then (pw_bi (f_X11_cuts (xs (x3 + (1 : Int32)).toNatClampNeg) σ23) fun r24 σ24 => (if r23 = r24 then (k18 (x3 + (5 : Int32)) σ24) else none)) else none)) else none) else (if ((xs x3.toNatClampNeg) &&& (63 : Int32)) = 12 then (if pw_in (x3 + (1 : Int32)) L = true then (pw_bi (f_X10_next (xs (x3 + (1 : Int32)).toNatClampNeg) σ) fun r25 σ25 => (if pw_in (x3 + (1 : Int32)) L = true then (pw_bi (f_X11_next (xs (x3 + (1 : Int32)).toNatClampNeg) σ25) fun r26 σ26 => (if r25 = r26 then (k18 (x3 + (5 : Int32)) σ26) else none)) else none)) else none) else (if ((xs x3.toNatClampNeg) &&& (63 : Int32)) = 13 then (if pw_in (x3 + (1 : Int32)) L = true then (if pw_in (x3 + (2 : Int32)) L = true then (if pw_in (x3 + (3 : Int32)) L = true then (pw_bi (f_X10_join (xs (x3 + (1 : Int32)).toNatClampNeg) (xs (x3 + (2 : Int32)).toNatClampNeg) (xs (x3 + (3 : Int32)).toNatClampNeg) σ) fun r27 σ27 => (if pw_in (x3 + (1 : Int32)) L = true then (if pw_in (x3 + (2 : Int32)) L = true then (if pw_in (x3 + (3 : Int32)) L = true then (pw_bi (f_X11_join (xs (x3 + (1 : Int32)).toNatClampNeg) (xs (x3 + (2 : Int32)).toNatClampNeg) (xs (x3 + (3 : Int32)).toNatClampNeg) σ27) fun r28 σ28 => (if r27 = r28 then (k18 (x3 + (5 : Int32)) σ28) else none)) else none) else none) else none)) else none) else none) else none) else (if ((xs x3.toNatClampNeg) &&& (63 : Int32)) = 14 then (if pw_in (x3 + (1 : Int32)) L = true then (if pw_in (x3 + (2 : Int32)) L = true then (pw_bi (f_X10_least (xs (x3 + (1 : Int32)).toNatClampNeg) (xs (x3 + (2 : Int32)).toNatClampNeg) σ) fun r29 σ29 => (if pw_in (x3 + (1 : Int32)) L = true then (if pw_in (x3 + (2 : Int32)) L = true then (pw_bi (f_X11_least (xs (x3 + (1 : Int32)).toNatClampNeg) (xs (x3 + (2 : Int32)).toNatClampNeg) σ29) fun r30 σ30 => (if r29 = r30 then (k18 (x3 + (5 : Int32)) σ30) else none)) else none) else none)) else none) else none) else (if ((xs x3.toNatClampNeg) &&& (63 : Int32)) = 15 then (pw_bl (f_X10_orders σ) fun r31 σ31 => (pw_bl (f_X11_orders σ31) fun r32 σ32 => (if (lg_cmp r31 r32) = 0 then (k18 (x3 + (5 : Int32)) σ32) else none))) else (if ((xs x3.toNatClampNeg) &&& (63 : Int32)) = 16 then (if pw_in (x3 + (1 : Int32)) L = true then (if pw_in (x3 + (2 : Int32)) L = true then (if pw_in (x3 + (3 : Int32)) L = true then (pw_bi (f_X10_order (((xs (x3 + (1 : Int32)).toNatClampNeg).toInt64 <<< ((32 : Int32).toInt64 &&& 63)) ||| ((xs (x3 + (2 : Int32)).toNatClampNeg).toInt64 &&& (4294967295 : Int64))) (xs (x3 + (3 : Int32)).toNatClampNeg) σ) fun r33 σ33 => (if pw_in (x3 + (1 : Int32)) L = true then (if pw_in (x3 + (2 : Int32)) L = true then (if pw_in (x3 + (3 : Int32)) L = true then (pw_bi (f_X11_order (((xs (x3 + (1 : Int32)).toNatClampNeg).toInt64 <<< ((32 : Int32).toInt64 &&& 63)) ||| ((xs (x3 + (2 : Int32)).toNatClampNeg).toInt64 &&& (4294967295 : Int64))) (xs (x3 + (3 : Int32)).toNatClampNeg) σ33) fun r34 σ34 => (if r33 = r34 then (k18 (x3 + (5 : Int32)) σ34) else none)) else none) else none) else none)) else none) else none) else none) else (if ((xs x3.toNatClampNeg) &&& (63 : Int32)) = 17 then (if pw_in (x3 + (1 : Int32)) L = true then (pw_bi (f_X10_number (xs (x3 + (1 : Int32)).toNatClampNeg) σ) fun r35 σ35 => (if pw_in (x3 + (1 : Int32)) L = true then (pw_bi (f_X11_number (xs (x3 + (1 : Int32)).toNatClampNeg) σ35) fun r36 σ36 => (if r35 = r36 then (k18 (x3 + (5 : Int32)) σ36) else none)) else none)) else none) else (if ((xs x3.toNatClampNeg) &&& (63 : Int32)) = 18 then (if pw_in (x3 + (1 : Int32)) L = true then (if pw_in (x3 + (2 : Int32)) L = true then (if pw_in (x3 + (3 : Int32)) L = true then (pw_bi (f_X10_part (xs (x3 + (1 : Int32)).toNatClampNeg) (xs (x3 + (2 : Int32)).toNatClampNeg) (xs (x3 + (3 : Int32)).toNatClampNeg) σ) fun r37 σ37 => (if pw_in (x3 + (1 : Int32)) L = true then (if pw_in (x3 + (2 : Int32)) L = true then (if pw_in (x3 + (3 : Int32)) L = true then (pw_bi (f_X11_part_ (xs (x3 + (1 : Int32)).toNatClampNeg) (xs (x3 + (2 : Int32)).toNatClampNeg) (xs (x3 + (3 : Int32)).toNatClampNeg) σ37) fun r38 σ38 => (if r37 = r38 then (k18 (x3 + (5 : Int32)) σ38) else none)) else none) else none) else none)) else none) else none) else none) else (if ((xs x3.toNatClampNeg) &&& (63 : Int32)) = 19 then (if pw_in (x3 + (1 : Int32)) L = true then (pw_bi (f_X10_op (xs (x3 + (1 : Int32)).toNatClampNeg) σ) fun r39 σ39 => (if pw_in (x3 + (1 : Int32)) L = true then (pw_bi (f_X11_op (xs (x3 + (1 : Int32)).toNatClampNeg) σ39) fun r40 σ40 => (if r39 = r40 then (k18 (x3 + (5 : Int32)) σ40) else none)) else none)) else none) else (if ((xs x3.toNatClampNeg) &&& (63 : Int32)) = 20 then (pw_bi (f_X10_condition σ) fun r41 σ41 => (pw_bi (f_X11_condition σ41) fun r42 σ42 => (if r41 = r42 then (k18 (x3 + (5 : Int32)) σ42) else none))) else (if ((xs x3.toNatClampNeg) &&& (63 : Int32)) = 21 then (if pw_in (x3 + (1 : Int32)) L = true then (pw_bi (f_X10_clear (xs (x3 + (1 : Int32)).toNatClampNeg) σ) fun r43 σ43 => (if pw_in (x3 + (1 : Int32)) L = true then (pw_bi (f_X11_clear (xs (x3 + (1 : Int32)).toNatClampNeg) σ43) fun r44 σ44 => (if r43 = r44 then (k18 (x3 + (5 : Int32)) σ44) else none)) else none)) else none) else (if ((xs x3.toNatClampNeg) &&& (63 : Int32)) = 22 then (if pw_in (x3 + (1 : Int32)) L = true then (if pw_in (x3 + (2 : Int32)) L = true then (pw_bi (f_X10_value (xs (x3 + (1 : Int32)).toNatClampNeg) (xs (x3 + (2 : Int32)).toNatClampNeg) σ) fun r45 σ45 => (if pw_in (x3 + (1 : Int32)) L = true then (if pw_in (x3 + (2 : Int32)) L = true then (pw_bi (f_X11_value (xs (x3 + (1 : Int32)).toNatClampNeg) (xs (x3 + (2 : Int32)).toNatClampNeg) σ45) fun r46 σ46 => (if r45 = r46 then (k18 (x3 + (5 : Int32)) σ46) else none)) else none) else none)) else none) else none) else (if ((xs x3.toNatClampNeg) &&& (63 : Int32)) = 23 then (pw_bi (f_X10_status σ) fun r47 σ47 => (pw_bi (f_X11_status σ47) fun r48 σ48 => (if r47 = r48 then (k18 (x3 + (5 : Int32)) σ48) else none))) else (if ((xs x3.toNatClampNeg) &&& (63 : Int32)) = 24 then (if pw_in (x3 + (1 : Int32)) L = true then (pw_bi (f_X10_may (xs (x3 + (1 : Int32)).toNatClampNeg) σ) fun r49 σ49 => (if pw_in (x3 + (1 : Int32)) L = true then (pw_bi (f_X11_may (xs (x3 + (1 : Int32)).toNatClampNeg) σ49) fun r50 σ50 => (if r49 = r50 then (k18 (x3 + (5 : Int32)) σ50) else none)) else none)) else none) else (if ((xs x3.toNatClampNeg) &&& (63 : Int32)) = 25 then (if pw_in (x3 + (1 : Int32)) L = true then (pw_bi (f_X10_last (xs (x3 + (1 : Int32)).toNatClampNeg) σ) fun r51 σ51 => (if pw_in (x3 + (1 : Int32)) L = true then (pw_bi (f_X11_last (xs (x3 + (1 : Int32)).toNatClampNeg) σ51) fun r52 σ52 => (if r51 = r52 then (k18 (x3 + (5 : Int32)) σ52) else none)) else none)) else none) else (if ((xs x3.toNatClampNeg) &&& (63 : Int32)) = 26 then (if pw_in (x3 + (1 : Int32)) L = true then (pw_bi (f_X10_many (xs (x3 + (1 : Int32)).toNatClampNeg) σ) fun r53 σ53 => (if pw_in (x3 + (1 : Int32)) L = true then (pw_bi (f_X11_many (xs (x3 + (1 : Int32)).toNatClampNeg) σ53) fun r54 σ54 => (if r53 = r54 then (k18 (x3 + (5 : Int32)) σ54) else none)) else none)) else none) else (if ((xs x3.toNatClampNeg) &&& (63 : Int32)) = 27 then (if pw_in (x3 + (1 : Int32)) L = true then (pw_bi (f_X10_sure (xs (x3 + (1 : Int32)).toNatClampNeg) σ) fun r55 σ55 => (if pw_in (x3 + (1 : Int32)) L = true then (pw_bi (f_X11_sure (xs (x3 + (1 : Int32)).toNatClampNeg) σ55) fun r56 σ56 => (if r55 = r56 then (k18 (x3 + (5 : Int32)) σ56) else none)) else none)) else none) else (if ((xs x3.toNatClampNeg) &&& (63 : Int32)) = 28 then (if pw_in (x3 + (1 : Int32)) L = true then (if pw_in (x3 + (2 : Int32)) L = true then (pw_bi (f_X10_avoid (xs (x3 + (1 : Int32)).toNatClampNeg) (xs (x3 + (2 : Int32)).toNatClampNeg) σ) fun r57 σ57 => (if pw_in (x3 + (1 : Int32)) L = true then (if pw_in (x3 + (2 : Int32)) L = true then (pw_bi (f_X11_avoid (xs (x3 + (1 : Int32)).toNatClampNeg) (xs (x3 + (2 : Int32)).toNatClampNeg) σ57) fun r58 σ58 => (if r57 = r58 then (k18 (x3 + (5 : Int32)) σ58) else none)) else none) else none)) else none) else none) else (if ((xs x3.toNatClampNeg) &&& (63 : Int32)) = 29 then (if pw_in (x3 + (1 : Int32)) L = true then (pw_bl (f_X10_avoids (xs (x3 + (1 : Int32)).toNatClampNeg) σ) fun r59 σ59 => (if pw_in (x3 + (1 : Int32)) L = true then (pw_bl (f_X11_avoids (xs (x3 + (1 : Int32)).toNatClampNeg) σ59) fun r60 σ60 => (if (lg_cmp r59 r60) = 0 then (k18 (x3 + (5 : Int32)) σ60) else none)) else none)) else none) else (if ((xs x3.toNatClampNeg) &&& (63 : Int32)) = 30 then (if pw_in (x3 + (1 : Int32)) L = true then (if pw_in (x3 + (2 : Int32)) L = true then (pw_bi (f_X10_is (xs (x3 + (1 : Int32)).toNatClampNeg) (xs (x3 + (2 : Int32)).toNatClampNeg) σ) fun r61 σ61 => (if pw_in (x3 + (1 : Int32)) L = true then (if pw_in (x3 + (2 : Int32)) L = true then (pw_bi (f_X11_is (xs (x3 + (1 : Int32)).toNatClampNeg) (xs (x3 + (2 : Int32)).toNatClampNeg) σ61) fun r62 σ62 => (if r61 = r62 then (k18 (x3 + (5 : Int32)) σ62) else none)) else none) else none)) else none) else none) else (if ((xs x3.toNatClampNeg) &&& (63 : Int32)) = 31 then (if pw_in (x3 + (1 : Int32)) L = true then (if pw_in (x3 + (2 : Int32)) L = true then (pw_bi (f_X10_before (xs (x3 + (1 : Int32)).toNatClampNeg) (xs (x3 + (2 : Int32)).toNatClampNeg) σ) fun r63 σ63 => (if pw_in (x3 + (1 : Int32)) L = true then (if pw_in (x3 + (2 : Int32)) L = true then (pw_bi (f_X11_before (xs (x3 + (1 : Int32)).toNatClampNeg) (xs (x3 + (2 : Int32)).toNatClampNeg) σ63) fun r64 σ64 => (if r63 = r64 then (k18 (x3 + (5 : Int32)) σ64) else none)) else none) else none)) else none) else none) else (if ((xs x3.toNatClampNeg) &&& (63 : Int32)) = 32 then (if pw_in (x3 + (1 : Int32)) L = true then (pw_bi (f_X10_say (xs (x3 + (1 : Int32)).toNatClampNeg) σ) fun r65 σ65 => (if pw_in (x3 + (1 : Int32)) L = true then (pw_bi (f_X11_say (xs (x3 + (1 : Int32)).toNatClampNeg) σ65) fun r66 σ66 => (if r65 = r66 then (k18 (x3 + (5 : Int32)) σ66) else none)) else none)) else none) else (if ((xs x3.toNatClampNeg) &&& (63 : Int32)) = 33 then (pw_bi (f_X10_check σ) fun r67 σ67 => (pw_bi (f_X11_check σ67) fun r68 σ68 => (if r67 = r68 then (k18 (x3 + (5 : Int32)) σ68) else none))) else (if ((xs x3.toNatClampNeg) &&& (63 : Int32)) = 34 then (if pw_in (x3 + (1 : Int32)) L = true then (pw_bi (f_X10_passes (xs (x3 + (1 : Int32)).toNatClampNeg) σ) fun r69 σ69 => (if pw_in (x3 + (1 : Int32)) L = true then (pw_bi (f_X11_passes (xs (x3 + (1 : Int32)).toNatClampNeg) σ69) fun r70 σ70 => (if r69 = r70 then (k18 (x3 + (5 : Int32)) σ70) else none)) else none)) else none) else (if ((xs x3.toNatClampNeg) &&& (63 : Int32)) = 35 then (if pw_in (x3 + (1 : Int32)) L = true then (pw_bi (f_X10_count (xs (x3 + (1 : Int32)).toNatClampNeg) σ) fun r71 σ71 => (if pw_in (x3 + (1 : Int32)) L = true then (pw_bi (f_X11_count_ (xs (x3 + (1 : Int32)).toNatClampNeg) σ71) fun r72 σ72 => (if r71 = r72 then (k18 (x3 + (5 : Int32)) σ72) else none)) else none)) else none) else (k18 (x3 + (5 : Int32)) σ))))))))))))))))))))))))))))))))))))) else none))
def l_L_law_18 (xs : Nat → Int32) (L : Nat) : Nat → Int32 → pw_St → Option Unit
  | 0 => fun _ _ => none
  | n + 1 => fun x3 σ => b_L_law_18 xs L  (l_L_law_18 xs L  n) x3 σ
def f_L_law (xs : Nat → Int32) (L : Nat) (σ : pw_St) : Option Unit := (l_L_law_18 xs L  pw_FU (0 : Int32) σ)
set_option maxHeartbeats 4000000 in
set_option maxRecDepth 100000 in
theorem t_L_law_18 (hC : pw_CX G RL cL_law 4 ret p s m #[Value.ref b] meth c) {xs : Nat → Int32} {L : Nat} (hX : va_X b L xs s s.heap) (hbl : b < s.heap.size) (hbA : ¬ pw_gA G b) (hAg : ∀ q, pw_gA G q → s.heap.size ≤ q) {k18 : Int32 → pw_St → Option Unit}  (hk18 : ∀ (x3 : Int32), ∀ (σ : pw_St) (H : Heap) (locs : List Loc) (ls : Array Slot), pw_WH G σ s.heap H locs → lv_has ls 4 [(0, .ref b), (1, .ref (pw_ad G 0)), (2, .ref (pw_ad G 10)), (3, .int x3)] → k18 x3 σ = some () → W p l e room_1 s m #[Value.ref b] below meth c H locs 600000 7302250 (lw_Z below #[Value.ref b] s) (F0 m 18 ls [])) {x3 : Int32} {σ : pw_St} {H : Heap} {locs : List Loc} {ls : Array Slot} (hw : pw_WH G σ s.heap H locs) (hl : lv_has ls 4 [(0, .ref b), (1, .ref (pw_ad G 0)), (2, .ref (pw_ad G 10)), (3, .int x3)]) (hf : b_L_law_18 xs L k18 x3 σ = some ()) : W p l e room_1 s m #[Value.ref b] below meth c H locs 600000 7302250 (lw_Z below #[Value.ref b] s) (F0 m 18 ls []) := by
  have hx := hC.1
  have hb := hC.2.1
  unfold b_L_law_18 at hf
  refine lv_iload_n hx hb dL_law_18 rfl (lv_at hl 3 rfl) ?_
  refine lv_aload_n hx hb dL_law_19 rfl (lv_at hl 0 rfl) ?_
  refine va_slen hx hb hX hbl hbA hw.2 dL_law_20 ?_
  refine lv_iconst (v := 5) hx hb dL_law_21 (by decide) ?_
  refine lv_isub hx hb dL_law_22 ?_
  refine lv_icmp_gt (tgt := 1228) hx hb dL_law_23 (by decide) (fun hc => ?_) (fun hc => ?_)
  · replace hf := pw_ifp hc hf
    refine lv_iconst (v := 1) hx hb dL_law_1228 (by decide) ?_
    exact law_end hC hw hAg dL_law_1229
  · replace hf := pw_ifn hc hf
    refine lv_aload_n hx hb dL_law_26 rfl (lv_at hl 0 rfl) ?_
    refine lv_iload_n hx hb dL_law_27 rfl (lv_at hl 3 rfl) ?_
    obtain ⟨hin, hf⟩ := pw_gd hf
    refine va_sld hx hb hX hbl hbA hw.2 hin dL_law_28 ?_
    refine lv_bipush (v := 63) hx hb dL_law_29 (by decide) ?_
    refine lv_iand hx hb dL_law_31 ?_
    by_cases hc0 : ((xs x3.toNatClampNeg) &&& (63 : Int32)) = 0
    · replace hf := pw_ifp hc0 hf
      refine lv_tableIn (off := 160) (tgt := 192) hx hb dL_law_32 (by rw [hc0]; decide) (by rw [hc0]; decide) (by rw [hc0]; decide) (by decide) ?_
      refine lv_aload_n hx hb dL_law_192 rfl (lv_at hl 1 rfl) ?_
      obtain ⟨r1, σ1, h1, hf⟩ := pw_bi_some hf
      refine pw_ci hw (pw_runV (As := []) (rest := []) hC hw (c_X10_process  h1) mw_329 wm_X10_process ⟨Nat.le_refl _, Nat.le_refl _⟩ ⟨rfl, rfl, Nat.le_of_ble_eq_true rfl, Nat.le_of_ble_eq_true rfl⟩ (by decide) rfl rfl rfl hl.1 rfl (Nat.le_of_ble_eq_true rfl) dL_law_193) (fun H locs hw => ?_)
      refine lv_aload_n hx hb dL_law_196 rfl (lv_at hl 2 rfl) ?_
      obtain ⟨r2, σ2, h2, hf⟩ := pw_bi_some hf
      refine pw_ci hw (pw_runV (As := []) (rest := [.int r1]) hC hw (c_X11_process  h2) mw_834 wm_X11_process ⟨Nat.le_refl _, Nat.le_refl _⟩ ⟨rfl, rfl, Nat.le_of_ble_eq_true rfl, Nat.le_of_ble_eq_true rfl⟩ (by decide) rfl rfl rfl hl.1 rfl (Nat.le_of_ble_eq_true rfl) dL_law_197) (fun H locs hw => ?_)
      refine lv_icmp_eq (tgt := 1222) hx hb dL_law_200 (by decide) (fun hc => ?_) (fun hc => ?_)
      · replace hf := pw_ifp hc hf
        refine lv_iinc (v := (x3 + (5 : Int32))) (lv' := [(3, .int (x3 + (5 : Int32))), (0, .ref b), (1, .ref (pw_ad G 0)), (2, .ref (pw_ad G 10))]) hx hb dL_law_1222 hl (k := 3) rfl rfl (by decide) rfl (fun ls hl => ?_)
        refine lv_goto (tgt := 18) hx hb dL_law_1225 (by decide) ?_
        exact hk18 _ _ _ _ _ hw (lv_sub hl [1, 2, 3, 0] rfl) hf
      · replace hf := pw_ifn hc hf
        refine lv_iconst (v := 0) hx hb dL_law_203 (by decide) ?_
        cases hf
    replace hf := pw_ifn hc0 hf
    by_cases hc1 : ((xs x3.toNatClampNeg) &&& (63 : Int32)) = 1
    · replace hf := pw_ifp hc1 hf
      refine lv_tableIn (off := 173) (tgt := 205) hx hb dL_law_32 (by rw [hc1]; decide) (by rw [hc1]; decide) (by rw [hc1]; decide) (by decide) ?_
      refine lv_aload_n hx hb dL_law_205 rfl (lv_at hl 1 rfl) ?_
      refine lv_aload_n hx hb dL_law_206 rfl (lv_at hl 0 rfl) ?_
      refine lv_iload_n hx hb dL_law_207 rfl (lv_at hl 3 rfl) ?_
      refine lv_iconst (v := 1) hx hb dL_law_208 (by decide) ?_
      refine lv_iadd hx hb dL_law_209 ?_
      obtain ⟨hin, hf⟩ := pw_gd hf
      refine va_sld hx hb hX hbl hbA hw.2 hin dL_law_210 ?_
      refine lv_aload_n hx hb dL_law_211 rfl (lv_at hl 0 rfl) ?_
      refine lv_iload_n hx hb dL_law_212 rfl (lv_at hl 3 rfl) ?_
      refine lv_iconst (v := 2) hx hb dL_law_213 (by decide) ?_
      refine lv_iadd hx hb dL_law_214 ?_
      obtain ⟨hin, hf⟩ := pw_gd hf
      refine va_sld hx hb hX hbl hbA hw.2 hin dL_law_215 ?_
      refine lv_aload_n hx hb dL_law_216 rfl (lv_at hl 0 rfl) ?_
      refine lv_iload_n hx hb dL_law_217 rfl (lv_at hl 3 rfl) ?_
      refine lv_iconst (v := 3) hx hb dL_law_218 (by decide) ?_
      refine lv_iadd hx hb dL_law_219 ?_
      obtain ⟨hin, hf⟩ := pw_gd hf
      refine va_sld hx hb hX hbl hbA hw.2 hin dL_law_220 ?_
      refine lv_aload_n hx hb dL_law_221 rfl (lv_at hl 0 rfl) ?_
      refine lv_iload_n hx hb dL_law_222 rfl (lv_at hl 3 rfl) ?_
      refine lv_iconst (v := 4) hx hb dL_law_223 (by decide) ?_
      refine lv_iadd hx hb dL_law_224 ?_
      obtain ⟨hin, hf⟩ := pw_gd hf
      refine va_sld hx hb hX hbl hbA hw.2 hin dL_law_225 ?_
      obtain ⟨r3, σ3, h3, hf⟩ := pw_bi_some hf
      refine pw_ci hw (pw_runV (As := [.int (xs (x3 + (1 : Int32)).toNatClampNeg), .int (xs (x3 + (2 : Int32)).toNatClampNeg), .int (xs (x3 + (3 : Int32)).toNatClampNeg), .int (xs (x3 + (4 : Int32)).toNatClampNeg)]) (rest := []) hC hw (c_X10_own  h3) mw_333 wm_X10_own ⟨Nat.le_refl _, Nat.le_refl _⟩ ⟨rfl, rfl, Nat.le_of_ble_eq_true rfl, Nat.le_of_ble_eq_true rfl⟩ (by decide) rfl rfl rfl hl.1 rfl (Nat.le_of_ble_eq_true rfl) dL_law_226) (fun H locs hw => ?_)
      refine lv_aload_n hx hb dL_law_229 rfl (lv_at hl 2 rfl) ?_
      refine lv_aload_n hx hb dL_law_230 rfl (lv_at hl 0 rfl) ?_
      refine lv_iload_n hx hb dL_law_231 rfl (lv_at hl 3 rfl) ?_
      refine lv_iconst (v := 1) hx hb dL_law_232 (by decide) ?_
      refine lv_iadd hx hb dL_law_233 ?_
      obtain ⟨hin, hf⟩ := pw_gd hf
      refine va_sld hx hb hX hbl hbA hw.2 hin dL_law_234 ?_
      refine lv_aload_n hx hb dL_law_235 rfl (lv_at hl 0 rfl) ?_
      refine lv_iload_n hx hb dL_law_236 rfl (lv_at hl 3 rfl) ?_
      refine lv_iconst (v := 2) hx hb dL_law_237 (by decide) ?_
      refine lv_iadd hx hb dL_law_238 ?_
      obtain ⟨hin, hf⟩ := pw_gd hf
      refine va_sld hx hb hX hbl hbA hw.2 hin dL_law_239 ?_
      refine lv_aload_n hx hb dL_law_240 rfl (lv_at hl 0 rfl) ?_
      refine lv_iload_n hx hb dL_law_241 rfl (lv_at hl 3 rfl) ?_
      refine lv_iconst (v := 3) hx hb dL_law_242 (by decide) ?_
      refine lv_iadd hx hb dL_law_243 ?_
      obtain ⟨hin, hf⟩ := pw_gd hf
      refine va_sld hx hb hX hbl hbA hw.2 hin dL_law_244 ?_
      refine lv_aload_n hx hb dL_law_245 rfl (lv_at hl 0 rfl) ?_
      refine lv_iload_n hx hb dL_law_246 rfl (lv_at hl 3 rfl) ?_
      refine lv_iconst (v := 4) hx hb dL_law_247 (by decide) ?_
      refine lv_iadd hx hb dL_law_248 ?_
      obtain ⟨hin, hf⟩ := pw_gd hf
      refine va_sld hx hb hX hbl hbA hw.2 hin dL_law_249 ?_
      obtain ⟨r4, σ4, h4, hf⟩ := pw_bi_some hf
      refine pw_ci hw (pw_runV (As := [.int (xs (x3 + (1 : Int32)).toNatClampNeg), .int (xs (x3 + (2 : Int32)).toNatClampNeg), .int (xs (x3 + (3 : Int32)).toNatClampNeg), .int (xs (x3 + (4 : Int32)).toNatClampNeg)]) (rest := [.int r3]) hC hw (c_X11_own  h4) mw_838 wm_X11_own ⟨Nat.le_refl _, Nat.le_refl _⟩ ⟨rfl, rfl, Nat.le_of_ble_eq_true rfl, Nat.le_of_ble_eq_true rfl⟩ (by decide) rfl rfl rfl hl.1 rfl (Nat.le_of_ble_eq_true rfl) dL_law_250) (fun H locs hw => ?_)
      refine lv_icmp_eq (tgt := 1222) hx hb dL_law_253 (by decide) (fun hc => ?_) (fun hc => ?_)
      · replace hf := pw_ifp hc hf
        refine lv_iinc (v := (x3 + (5 : Int32))) (lv' := [(3, .int (x3 + (5 : Int32))), (0, .ref b), (1, .ref (pw_ad G 0)), (2, .ref (pw_ad G 10))]) hx hb dL_law_1222 hl (k := 3) rfl rfl (by decide) rfl (fun ls hl => ?_)
        refine lv_goto (tgt := 18) hx hb dL_law_1225 (by decide) ?_
        exact hk18 _ _ _ _ _ hw (lv_sub hl [1, 2, 3, 0] rfl) hf
      · replace hf := pw_ifn hc hf
        refine lv_iconst (v := 0) hx hb dL_law_256 (by decide) ?_
        cases hf
    replace hf := pw_ifn hc1 hf
    by_cases hc2 : ((xs x3.toNatClampNeg) &&& (63 : Int32)) = 2
    · replace hf := pw_ifp hc2 hf
      refine lv_tableIn (off := 226) (tgt := 258) hx hb dL_law_32 (by rw [hc2]; decide) (by rw [hc2]; decide) (by rw [hc2]; decide) (by decide) ?_
      refine lv_aload_n hx hb dL_law_258 rfl (lv_at hl 1 rfl) ?_
      refine lv_aload_n hx hb dL_law_259 rfl (lv_at hl 0 rfl) ?_
      refine lv_iload_n hx hb dL_law_260 rfl (lv_at hl 3 rfl) ?_
      refine lv_iconst (v := 1) hx hb dL_law_261 (by decide) ?_
      refine lv_iadd hx hb dL_law_262 ?_
      obtain ⟨hin, hf⟩ := pw_gd hf
      refine va_sld hx hb hX hbl hbA hw.2 hin dL_law_263 ?_
      refine lv_aload_n hx hb dL_law_264 rfl (lv_at hl 0 rfl) ?_
      refine lv_iload_n hx hb dL_law_265 rfl (lv_at hl 3 rfl) ?_
      refine lv_iconst (v := 2) hx hb dL_law_266 (by decide) ?_
      refine lv_iadd hx hb dL_law_267 ?_
      obtain ⟨hin, hf⟩ := pw_gd hf
      refine va_sld hx hb hX hbl hbA hw.2 hin dL_law_268 ?_
      obtain ⟨r5, σ5, h5, hf⟩ := pw_bi_some hf
      refine pw_ci hw (pw_runV (As := [.int (xs (x3 + (1 : Int32)).toNatClampNeg), .int (xs (x3 + (2 : Int32)).toNatClampNeg)]) (rest := []) hC hw (c_X10_send  h5) mw_363 wm_X10_send ⟨Nat.le_refl _, Nat.le_refl _⟩ ⟨rfl, rfl, Nat.le_of_ble_eq_true rfl, Nat.le_of_ble_eq_true rfl⟩ (by decide) rfl rfl rfl hl.1 rfl (Nat.le_of_ble_eq_true rfl) dL_law_269) (fun H locs hw => ?_)
      refine lv_aload_n hx hb dL_law_272 rfl (lv_at hl 2 rfl) ?_
      refine lv_aload_n hx hb dL_law_273 rfl (lv_at hl 0 rfl) ?_
      refine lv_iload_n hx hb dL_law_274 rfl (lv_at hl 3 rfl) ?_
      refine lv_iconst (v := 1) hx hb dL_law_275 (by decide) ?_
      refine lv_iadd hx hb dL_law_276 ?_
      obtain ⟨hin, hf⟩ := pw_gd hf
      refine va_sld hx hb hX hbl hbA hw.2 hin dL_law_277 ?_
      refine lv_aload_n hx hb dL_law_278 rfl (lv_at hl 0 rfl) ?_
      refine lv_iload_n hx hb dL_law_279 rfl (lv_at hl 3 rfl) ?_
      refine lv_iconst (v := 2) hx hb dL_law_280 (by decide) ?_
      refine lv_iadd hx hb dL_law_281 ?_
      obtain ⟨hin, hf⟩ := pw_gd hf
      refine va_sld hx hb hX hbl hbA hw.2 hin dL_law_282 ?_
      obtain ⟨r6, σ6, h6, hf⟩ := pw_bi_some hf
      refine pw_ci hw (pw_runV (As := [.int (xs (x3 + (1 : Int32)).toNatClampNeg), .int (xs (x3 + (2 : Int32)).toNatClampNeg)]) (rest := [.int r5]) hC hw (c_X11_send  h6) mw_853 wm_X11_send ⟨Nat.le_refl _, Nat.le_refl _⟩ ⟨rfl, rfl, Nat.le_of_ble_eq_true rfl, Nat.le_of_ble_eq_true rfl⟩ (by decide) rfl rfl rfl hl.1 rfl (Nat.le_of_ble_eq_true rfl) dL_law_283) (fun H locs hw => ?_)
      refine lv_icmp_eq (tgt := 1222) hx hb dL_law_286 (by decide) (fun hc => ?_) (fun hc => ?_)
      · replace hf := pw_ifp hc hf
        refine lv_iinc (v := (x3 + (5 : Int32))) (lv' := [(3, .int (x3 + (5 : Int32))), (0, .ref b), (1, .ref (pw_ad G 0)), (2, .ref (pw_ad G 10))]) hx hb dL_law_1222 hl (k := 3) rfl rfl (by decide) rfl (fun ls hl => ?_)
        refine lv_goto (tgt := 18) hx hb dL_law_1225 (by decide) ?_
        exact hk18 _ _ _ _ _ hw (lv_sub hl [1, 2, 3, 0] rfl) hf
      · replace hf := pw_ifn hc hf
        refine lv_iconst (v := 0) hx hb dL_law_289 (by decide) ?_
        cases hf
    replace hf := pw_ifn hc2 hf
    by_cases hc3 : ((xs x3.toNatClampNeg) &&& (63 : Int32)) = 3
    · replace hf := pw_ifp hc3 hf
      refine lv_tableIn (off := 259) (tgt := 291) hx hb dL_law_32 (by rw [hc3]; decide) (by rw [hc3]; decide) (by rw [hc3]; decide) (by decide) ?_
      refine lv_aload_n hx hb dL_law_291 rfl (lv_at hl 1 rfl) ?_
      refine lv_aload_n hx hb dL_law_292 rfl (lv_at hl 0 rfl) ?_
      refine lv_iload_n hx hb dL_law_293 rfl (lv_at hl 3 rfl) ?_
      refine lv_iconst (v := 1) hx hb dL_law_294 (by decide) ?_
      refine lv_iadd hx hb dL_law_295 ?_
      obtain ⟨hin, hf⟩ := pw_gd hf
      refine va_sld hx hb hX hbl hbA hw.2 hin dL_law_296 ?_
      obtain ⟨r7, σ7, h7, hf⟩ := pw_bi_some hf
      refine pw_ci hw (pw_runV (As := [.int (xs (x3 + (1 : Int32)).toNatClampNeg)]) (rest := []) hC hw (c_X10_take  h7) mw_379 wm_X10_take ⟨Nat.le_refl _, Nat.le_refl _⟩ ⟨rfl, rfl, Nat.le_of_ble_eq_true rfl, Nat.le_of_ble_eq_true rfl⟩ (by decide) rfl rfl rfl hl.1 rfl (Nat.le_of_ble_eq_true rfl) dL_law_297) (fun H locs hw => ?_)
      refine lv_aload_n hx hb dL_law_300 rfl (lv_at hl 2 rfl) ?_
      refine lv_aload_n hx hb dL_law_301 rfl (lv_at hl 0 rfl) ?_
      refine lv_iload_n hx hb dL_law_302 rfl (lv_at hl 3 rfl) ?_
      refine lv_iconst (v := 1) hx hb dL_law_303 (by decide) ?_
      refine lv_iadd hx hb dL_law_304 ?_
      obtain ⟨hin, hf⟩ := pw_gd hf
      refine va_sld hx hb hX hbl hbA hw.2 hin dL_law_305 ?_
      obtain ⟨r8, σ8, h8, hf⟩ := pw_bi_some hf
      refine pw_ci hw (pw_runV (As := [.int (xs (x3 + (1 : Int32)).toNatClampNeg)]) (rest := [.int r7]) hC hw (c_X11_take  h8) mw_857 wm_X11_take ⟨Nat.le_refl _, Nat.le_refl _⟩ ⟨rfl, rfl, Nat.le_of_ble_eq_true rfl, Nat.le_of_ble_eq_true rfl⟩ (by decide) rfl rfl rfl hl.1 rfl (Nat.le_of_ble_eq_true rfl) dL_law_306) (fun H locs hw => ?_)
      refine lv_icmp_eq (tgt := 1222) hx hb dL_law_309 (by decide) (fun hc => ?_) (fun hc => ?_)
      · replace hf := pw_ifp hc hf
        refine lv_iinc (v := (x3 + (5 : Int32))) (lv' := [(3, .int (x3 + (5 : Int32))), (0, .ref b), (1, .ref (pw_ad G 0)), (2, .ref (pw_ad G 10))]) hx hb dL_law_1222 hl (k := 3) rfl rfl (by decide) rfl (fun ls hl => ?_)
        refine lv_goto (tgt := 18) hx hb dL_law_1225 (by decide) ?_
        exact hk18 _ _ _ _ _ hw (lv_sub hl [1, 2, 3, 0] rfl) hf
      · replace hf := pw_ifn hc hf
        refine lv_iconst (v := 0) hx hb dL_law_312 (by decide) ?_
        cases hf
    replace hf := pw_ifn hc3 hf
    by_cases hc4 : ((xs x3.toNatClampNeg) &&& (63 : Int32)) = 4
    · replace hf := pw_ifp hc4 hf
      refine lv_tableIn (off := 282) (tgt := 314) hx hb dL_law_32 (by rw [hc4]; decide) (by rw [hc4]; decide) (by rw [hc4]; decide) (by decide) ?_
      refine lv_aload_n hx hb dL_law_314 rfl (lv_at hl 1 rfl) ?_
      refine lv_aload_n hx hb dL_law_315 rfl (lv_at hl 0 rfl) ?_
      refine lv_iload_n hx hb dL_law_316 rfl (lv_at hl 3 rfl) ?_
      refine lv_iconst (v := 1) hx hb dL_law_317 (by decide) ?_
      refine lv_iadd hx hb dL_law_318 ?_
      obtain ⟨hin, hf⟩ := pw_gd hf
      refine va_sld hx hb hX hbl hbA hw.2 hin dL_law_319 ?_
      refine lv_aload_n hx hb dL_law_320 rfl (lv_at hl 0 rfl) ?_
      refine lv_iload_n hx hb dL_law_321 rfl (lv_at hl 3 rfl) ?_
      refine lv_iconst (v := 2) hx hb dL_law_322 (by decide) ?_
      refine lv_iadd hx hb dL_law_323 ?_
      obtain ⟨hin, hf⟩ := pw_gd hf
      refine va_sld hx hb hX hbl hbA hw.2 hin dL_law_324 ?_
      obtain ⟨r9, σ9, h9, hf⟩ := pw_bi_some hf
      refine pw_ci hw (pw_runV (As := [.int (xs (x3 + (1 : Int32)).toNatClampNeg), .int (xs (x3 + (2 : Int32)).toNatClampNeg)]) (rest := []) hC hw (c_X10_wait  h9) mw_398 wm_X10_wait ⟨Nat.le_refl _, Nat.le_refl _⟩ ⟨rfl, rfl, Nat.le_of_ble_eq_true rfl, Nat.le_of_ble_eq_true rfl⟩ (by decide) rfl rfl rfl hl.1 rfl (Nat.le_of_ble_eq_true rfl) dL_law_325) (fun H locs hw => ?_)
      refine lv_aload_n hx hb dL_law_328 rfl (lv_at hl 2 rfl) ?_
      refine lv_aload_n hx hb dL_law_329 rfl (lv_at hl 0 rfl) ?_
      refine lv_iload_n hx hb dL_law_330 rfl (lv_at hl 3 rfl) ?_
      refine lv_iconst (v := 1) hx hb dL_law_331 (by decide) ?_
      refine lv_iadd hx hb dL_law_332 ?_
      obtain ⟨hin, hf⟩ := pw_gd hf
      refine va_sld hx hb hX hbl hbA hw.2 hin dL_law_333 ?_
      refine lv_aload_n hx hb dL_law_334 rfl (lv_at hl 0 rfl) ?_
      refine lv_iload_n hx hb dL_law_335 rfl (lv_at hl 3 rfl) ?_
      refine lv_iconst (v := 2) hx hb dL_law_336 (by decide) ?_
      refine lv_iadd hx hb dL_law_337 ?_
      obtain ⟨hin, hf⟩ := pw_gd hf
      refine va_sld hx hb hX hbl hbA hw.2 hin dL_law_338 ?_
      obtain ⟨r10, σ10, h10, hf⟩ := pw_bi_some hf
      refine pw_ci hw (pw_runV (As := [.int (xs (x3 + (1 : Int32)).toNatClampNeg), .int (xs (x3 + (2 : Int32)).toNatClampNeg)]) (rest := [.int r9]) hC hw (c_X11_wait  h10) mw_865 wm_X11_wait ⟨Nat.le_refl _, Nat.le_refl _⟩ ⟨rfl, rfl, Nat.le_of_ble_eq_true rfl, Nat.le_of_ble_eq_true rfl⟩ (by decide) rfl rfl rfl hl.1 rfl (Nat.le_of_ble_eq_true rfl) dL_law_339) (fun H locs hw => ?_)
      refine lv_icmp_eq (tgt := 1222) hx hb dL_law_342 (by decide) (fun hc => ?_) (fun hc => ?_)
      · replace hf := pw_ifp hc hf
        refine lv_iinc (v := (x3 + (5 : Int32))) (lv' := [(3, .int (x3 + (5 : Int32))), (0, .ref b), (1, .ref (pw_ad G 0)), (2, .ref (pw_ad G 10))]) hx hb dL_law_1222 hl (k := 3) rfl rfl (by decide) rfl (fun ls hl => ?_)
        refine lv_goto (tgt := 18) hx hb dL_law_1225 (by decide) ?_
        exact hk18 _ _ _ _ _ hw (lv_sub hl [1, 2, 3, 0] rfl) hf
      · replace hf := pw_ifn hc hf
        refine lv_iconst (v := 0) hx hb dL_law_345 (by decide) ?_
        cases hf
    replace hf := pw_ifn hc4 hf
    by_cases hc5 : ((xs x3.toNatClampNeg) &&& (63 : Int32)) = 5
    · replace hf := pw_ifp hc5 hf
      refine lv_tableIn (off := 315) (tgt := 347) hx hb dL_law_32 (by rw [hc5]; decide) (by rw [hc5]; decide) (by rw [hc5]; decide) (by decide) ?_
      refine lv_aload_n hx hb dL_law_347 rfl (lv_at hl 1 rfl) ?_
      obtain ⟨r11, σ11, h11, hf⟩ := pw_bi_some hf
      refine pw_ci hw (pw_runV (As := []) (rest := []) hC hw (c_X10_undo  h11) mw_406 wm_X10_undo ⟨Nat.le_refl _, Nat.le_refl _⟩ ⟨rfl, rfl, Nat.le_of_ble_eq_true rfl, Nat.le_of_ble_eq_true rfl⟩ (by decide) rfl rfl rfl hl.1 rfl (Nat.le_of_ble_eq_true rfl) dL_law_348) (fun H locs hw => ?_)
      refine lv_aload_n hx hb dL_law_351 rfl (lv_at hl 2 rfl) ?_
      obtain ⟨r12, σ12, h12, hf⟩ := pw_bi_some hf
      refine pw_ci hw (pw_runV (As := []) (rest := [.int r11]) hC hw (c_X11_undo  h12) mw_869 wm_X11_undo ⟨Nat.le_refl _, Nat.le_refl _⟩ ⟨rfl, rfl, Nat.le_of_ble_eq_true rfl, Nat.le_of_ble_eq_true rfl⟩ (by decide) rfl rfl rfl hl.1 rfl (Nat.le_of_ble_eq_true rfl) dL_law_352) (fun H locs hw => ?_)
      refine lv_icmp_eq (tgt := 1222) hx hb dL_law_355 (by decide) (fun hc => ?_) (fun hc => ?_)
      · replace hf := pw_ifp hc hf
        refine lv_iinc (v := (x3 + (5 : Int32))) (lv' := [(3, .int (x3 + (5 : Int32))), (0, .ref b), (1, .ref (pw_ad G 0)), (2, .ref (pw_ad G 10))]) hx hb dL_law_1222 hl (k := 3) rfl rfl (by decide) rfl (fun ls hl => ?_)
        refine lv_goto (tgt := 18) hx hb dL_law_1225 (by decide) ?_
        exact hk18 _ _ _ _ _ hw (lv_sub hl [1, 2, 3, 0] rfl) hf
      · replace hf := pw_ifn hc hf
        refine lv_iconst (v := 0) hx hb dL_law_358 (by decide) ?_
        cases hf
    replace hf := pw_ifn hc5 hf
    by_cases hc6 : ((xs x3.toNatClampNeg) &&& (63 : Int32)) = 6
    · replace hf := pw_ifp hc6 hf
      refine lv_tableIn (off := 328) (tgt := 360) hx hb dL_law_32 (by rw [hc6]; decide) (by rw [hc6]; decide) (by rw [hc6]; decide) (by decide) ?_
      refine lv_aload_n hx hb dL_law_360 rfl (lv_at hl 1 rfl) ?_
      refine lv_aload_n hx hb dL_law_361 rfl (lv_at hl 0 rfl) ?_
      refine lv_iload_n hx hb dL_law_362 rfl (lv_at hl 3 rfl) ?_
      refine lv_iconst (v := 1) hx hb dL_law_363 (by decide) ?_
      refine lv_iadd hx hb dL_law_364 ?_
      obtain ⟨hin, hf⟩ := pw_gd hf
      refine va_sld hx hb hX hbl hbA hw.2 hin dL_law_365 ?_
      refine lv_aload_n hx hb dL_law_366 rfl (lv_at hl 0 rfl) ?_
      refine lv_iload_n hx hb dL_law_367 rfl (lv_at hl 3 rfl) ?_
      refine lv_iconst (v := 2) hx hb dL_law_368 (by decide) ?_
      refine lv_iadd hx hb dL_law_369 ?_
      obtain ⟨hin, hf⟩ := pw_gd hf
      refine va_sld hx hb hX hbl hbA hw.2 hin dL_law_370 ?_
      refine lv_aload_n hx hb dL_law_371 rfl (lv_at hl 0 rfl) ?_
      refine lv_iload_n hx hb dL_law_372 rfl (lv_at hl 3 rfl) ?_
      refine lv_iconst (v := 3) hx hb dL_law_373 (by decide) ?_
      refine lv_iadd hx hb dL_law_374 ?_
      obtain ⟨hin, hf⟩ := pw_gd hf
      refine va_sld hx hb hX hbl hbA hw.2 hin dL_law_375 ?_
      obtain ⟨r13, σ13, h13, hf⟩ := pw_bi_some hf
      refine pw_ci hw (pw_runV (As := [.int (xs (x3 + (1 : Int32)).toNatClampNeg), .int (xs (x3 + (2 : Int32)).toNatClampNeg), .int (xs (x3 + (3 : Int32)).toNatClampNeg)]) (rest := []) hC hw (c_X10_event  h13) mw_414 wm_X10_event ⟨Nat.le_refl _, Nat.le_refl _⟩ ⟨rfl, rfl, Nat.le_of_ble_eq_true rfl, Nat.le_of_ble_eq_true rfl⟩ (by decide) rfl rfl rfl hl.1 rfl (Nat.le_of_ble_eq_true rfl) dL_law_376) (fun H locs hw => ?_)
      refine lv_aload_n hx hb dL_law_379 rfl (lv_at hl 2 rfl) ?_
      refine lv_aload_n hx hb dL_law_380 rfl (lv_at hl 0 rfl) ?_
      refine lv_iload_n hx hb dL_law_381 rfl (lv_at hl 3 rfl) ?_
      refine lv_iconst (v := 1) hx hb dL_law_382 (by decide) ?_
      refine lv_iadd hx hb dL_law_383 ?_
      obtain ⟨hin, hf⟩ := pw_gd hf
      refine va_sld hx hb hX hbl hbA hw.2 hin dL_law_384 ?_
      refine lv_aload_n hx hb dL_law_385 rfl (lv_at hl 0 rfl) ?_
      refine lv_iload_n hx hb dL_law_386 rfl (lv_at hl 3 rfl) ?_
      refine lv_iconst (v := 2) hx hb dL_law_387 (by decide) ?_
      refine lv_iadd hx hb dL_law_388 ?_
      obtain ⟨hin, hf⟩ := pw_gd hf
      refine va_sld hx hb hX hbl hbA hw.2 hin dL_law_389 ?_
      refine lv_aload_n hx hb dL_law_390 rfl (lv_at hl 0 rfl) ?_
      refine lv_iload_n hx hb dL_law_391 rfl (lv_at hl 3 rfl) ?_
      refine lv_iconst (v := 3) hx hb dL_law_392 (by decide) ?_
      refine lv_iadd hx hb dL_law_393 ?_
      obtain ⟨hin, hf⟩ := pw_gd hf
      refine va_sld hx hb hX hbl hbA hw.2 hin dL_law_394 ?_
      obtain ⟨r14, σ14, h14, hf⟩ := pw_bi_some hf
      refine pw_ci hw (pw_runV (As := [.int (xs (x3 + (1 : Int32)).toNatClampNeg), .int (xs (x3 + (2 : Int32)).toNatClampNeg), .int (xs (x3 + (3 : Int32)).toNatClampNeg)]) (rest := [.int r13]) hC hw (c_X11_event  h14) mw_873 wm_X11_event ⟨Nat.le_refl _, Nat.le_refl _⟩ ⟨rfl, rfl, Nat.le_of_ble_eq_true rfl, Nat.le_of_ble_eq_true rfl⟩ (by decide) rfl rfl rfl hl.1 rfl (Nat.le_of_ble_eq_true rfl) dL_law_395) (fun H locs hw => ?_)
      refine lv_icmp_eq (tgt := 1222) hx hb dL_law_398 (by decide) (fun hc => ?_) (fun hc => ?_)
      · replace hf := pw_ifp hc hf
        refine lv_iinc (v := (x3 + (5 : Int32))) (lv' := [(3, .int (x3 + (5 : Int32))), (0, .ref b), (1, .ref (pw_ad G 0)), (2, .ref (pw_ad G 10))]) hx hb dL_law_1222 hl (k := 3) rfl rfl (by decide) rfl (fun ls hl => ?_)
        refine lv_goto (tgt := 18) hx hb dL_law_1225 (by decide) ?_
        exact hk18 _ _ _ _ _ hw (lv_sub hl [1, 2, 3, 0] rfl) hf
      · replace hf := pw_ifn hc hf
        refine lv_iconst (v := 0) hx hb dL_law_401 (by decide) ?_
        cases hf
    replace hf := pw_ifn hc6 hf
    by_cases hc7 : ((xs x3.toNatClampNeg) &&& (63 : Int32)) = 7
    · replace hf := pw_ifp hc7 hf
      refine lv_tableIn (off := 371) (tgt := 403) hx hb dL_law_32 (by rw [hc7]; decide) (by rw [hc7]; decide) (by rw [hc7]; decide) (by decide) ?_
      refine lv_aload_n hx hb dL_law_403 rfl (lv_at hl 1 rfl) ?_
      refine lv_aload_n hx hb dL_law_404 rfl (lv_at hl 0 rfl) ?_
      refine lv_iload_n hx hb dL_law_405 rfl (lv_at hl 3 rfl) ?_
      refine lv_iconst (v := 1) hx hb dL_law_406 (by decide) ?_
      refine lv_iadd hx hb dL_law_407 ?_
      obtain ⟨hin, hf⟩ := pw_gd hf
      refine va_sld hx hb hX hbl hbA hw.2 hin dL_law_408 ?_
      refine lv_aload_n hx hb dL_law_409 rfl (lv_at hl 0 rfl) ?_
      refine lv_iload_n hx hb dL_law_410 rfl (lv_at hl 3 rfl) ?_
      refine lv_iconst (v := 2) hx hb dL_law_411 (by decide) ?_
      refine lv_iadd hx hb dL_law_412 ?_
      obtain ⟨hin, hf⟩ := pw_gd hf
      refine va_sld hx hb hX hbl hbA hw.2 hin dL_law_413 ?_
      obtain ⟨r15, σ15, h15, hf⟩ := pw_bi_some hf
      refine pw_ci hw (pw_runV (As := [.int (xs (x3 + (1 : Int32)).toNatClampNeg), .int (xs (x3 + (2 : Int32)).toNatClampNeg)]) (rest := []) hC hw (c_X10_letter  h15) mw_424 wm_X10_letter ⟨Nat.le_refl _, Nat.le_refl _⟩ ⟨rfl, rfl, Nat.le_of_ble_eq_true rfl, Nat.le_of_ble_eq_true rfl⟩ (by decide) rfl rfl rfl hl.1 rfl (Nat.le_of_ble_eq_true rfl) dL_law_414) (fun H locs hw => ?_)
      refine lv_aload_n hx hb dL_law_417 rfl (lv_at hl 2 rfl) ?_
      refine lv_aload_n hx hb dL_law_418 rfl (lv_at hl 0 rfl) ?_
      refine lv_iload_n hx hb dL_law_419 rfl (lv_at hl 3 rfl) ?_
      refine lv_iconst (v := 1) hx hb dL_law_420 (by decide) ?_
      refine lv_iadd hx hb dL_law_421 ?_
      obtain ⟨hin, hf⟩ := pw_gd hf
      refine va_sld hx hb hX hbl hbA hw.2 hin dL_law_422 ?_
      refine lv_aload_n hx hb dL_law_423 rfl (lv_at hl 0 rfl) ?_
      refine lv_iload_n hx hb dL_law_424 rfl (lv_at hl 3 rfl) ?_
      refine lv_iconst (v := 2) hx hb dL_law_425 (by decide) ?_
      refine lv_iadd hx hb dL_law_426 ?_
      obtain ⟨hin, hf⟩ := pw_gd hf
      refine va_sld hx hb hX hbl hbA hw.2 hin dL_law_427 ?_
      obtain ⟨r16, σ16, h16, hf⟩ := pw_bi_some hf
      refine pw_ci hw (pw_runV (As := [.int (xs (x3 + (1 : Int32)).toNatClampNeg), .int (xs (x3 + (2 : Int32)).toNatClampNeg)]) (rest := [.int r15]) hC hw (c_X11_letter  h16) mw_881 wm_X11_letter ⟨Nat.le_refl _, Nat.le_refl _⟩ ⟨rfl, rfl, Nat.le_of_ble_eq_true rfl, Nat.le_of_ble_eq_true rfl⟩ (by decide) rfl rfl rfl hl.1 rfl (Nat.le_of_ble_eq_true rfl) dL_law_428) (fun H locs hw => ?_)
      refine lv_icmp_eq (tgt := 1222) hx hb dL_law_431 (by decide) (fun hc => ?_) (fun hc => ?_)
      · replace hf := pw_ifp hc hf
        refine lv_iinc (v := (x3 + (5 : Int32))) (lv' := [(3, .int (x3 + (5 : Int32))), (0, .ref b), (1, .ref (pw_ad G 0)), (2, .ref (pw_ad G 10))]) hx hb dL_law_1222 hl (k := 3) rfl rfl (by decide) rfl (fun ls hl => ?_)
        refine lv_goto (tgt := 18) hx hb dL_law_1225 (by decide) ?_
        exact hk18 _ _ _ _ _ hw (lv_sub hl [1, 2, 3, 0] rfl) hf
      · replace hf := pw_ifn hc hf
        refine lv_iconst (v := 0) hx hb dL_law_434 (by decide) ?_
        cases hf
    replace hf := pw_ifn hc7 hf
    by_cases hc8 : ((xs x3.toNatClampNeg) &&& (63 : Int32)) = 8
    · replace hf := pw_ifp hc8 hf
      refine lv_tableIn (off := 404) (tgt := 436) hx hb dL_law_32 (by rw [hc8]; decide) (by rw [hc8]; decide) (by rw [hc8]; decide) (by decide) ?_
      refine lv_aload_n hx hb dL_law_436 rfl (lv_at hl 1 rfl) ?_
      refine lv_aload_n hx hb dL_law_437 rfl (lv_at hl 0 rfl) ?_
      refine lv_iload_n hx hb dL_law_438 rfl (lv_at hl 3 rfl) ?_
      refine lv_iconst (v := 1) hx hb dL_law_439 (by decide) ?_
      refine lv_iadd hx hb dL_law_440 ?_
      obtain ⟨hin, hf⟩ := pw_gd hf
      refine va_sld hx hb hX hbl hbA hw.2 hin dL_law_441 ?_
      refine lv_aload_n hx hb dL_law_442 rfl (lv_at hl 0 rfl) ?_
      refine lv_iload_n hx hb dL_law_443 rfl (lv_at hl 3 rfl) ?_
      refine lv_iconst (v := 2) hx hb dL_law_444 (by decide) ?_
      refine lv_iadd hx hb dL_law_445 ?_
      obtain ⟨hin, hf⟩ := pw_gd hf
      refine va_sld hx hb hX hbl hbA hw.2 hin dL_law_446 ?_
      refine lv_aload_n hx hb dL_law_447 rfl (lv_at hl 0 rfl) ?_
      refine lv_iload_n hx hb dL_law_448 rfl (lv_at hl 3 rfl) ?_
      refine lv_iconst (v := 3) hx hb dL_law_449 (by decide) ?_
      refine lv_iadd hx hb dL_law_450 ?_
      obtain ⟨hin, hf⟩ := pw_gd hf
      refine va_sld hx hb hX hbl hbA hw.2 hin dL_law_451 ?_
      refine lv_aload_n hx hb dL_law_452 rfl (lv_at hl 0 rfl) ?_
      refine lv_iload_n hx hb dL_law_453 rfl (lv_at hl 3 rfl) ?_
      refine lv_iconst (v := 4) hx hb dL_law_454 (by decide) ?_
      refine lv_iadd hx hb dL_law_455 ?_
      obtain ⟨hin, hf⟩ := pw_gd hf
      refine va_sld hx hb hX hbl hbA hw.2 hin dL_law_456 ?_
      obtain ⟨r17, σ17, h17, hf⟩ := pw_bi_some hf
      refine pw_ci hw (pw_runV (As := [.int (xs (x3 + (1 : Int32)).toNatClampNeg), .int (xs (x3 + (2 : Int32)).toNatClampNeg), .int (xs (x3 + (3 : Int32)).toNatClampNeg), .int (xs (x3 + (4 : Int32)).toNatClampNeg)]) (rest := []) hC hw (c_X10_ahead  h17) mw_428 wm_X10_ahead ⟨Nat.le_refl _, Nat.le_refl _⟩ ⟨rfl, rfl, Nat.le_of_ble_eq_true rfl, Nat.le_of_ble_eq_true rfl⟩ (by decide) rfl rfl rfl hl.1 rfl (Nat.le_of_ble_eq_true rfl) dL_law_457) (fun H locs hw => ?_)
      refine lv_aload_n hx hb dL_law_460 rfl (lv_at hl 2 rfl) ?_
      refine lv_aload_n hx hb dL_law_461 rfl (lv_at hl 0 rfl) ?_
      refine lv_iload_n hx hb dL_law_462 rfl (lv_at hl 3 rfl) ?_
      refine lv_iconst (v := 1) hx hb dL_law_463 (by decide) ?_
      refine lv_iadd hx hb dL_law_464 ?_
      obtain ⟨hin, hf⟩ := pw_gd hf
      refine va_sld hx hb hX hbl hbA hw.2 hin dL_law_465 ?_
      refine lv_aload_n hx hb dL_law_466 rfl (lv_at hl 0 rfl) ?_
      refine lv_iload_n hx hb dL_law_467 rfl (lv_at hl 3 rfl) ?_
      refine lv_iconst (v := 2) hx hb dL_law_468 (by decide) ?_
      refine lv_iadd hx hb dL_law_469 ?_
      obtain ⟨hin, hf⟩ := pw_gd hf
      refine va_sld hx hb hX hbl hbA hw.2 hin dL_law_470 ?_
      refine lv_aload_n hx hb dL_law_471 rfl (lv_at hl 0 rfl) ?_
      refine lv_iload_n hx hb dL_law_472 rfl (lv_at hl 3 rfl) ?_
      refine lv_iconst (v := 3) hx hb dL_law_473 (by decide) ?_
      refine lv_iadd hx hb dL_law_474 ?_
      obtain ⟨hin, hf⟩ := pw_gd hf
      refine va_sld hx hb hX hbl hbA hw.2 hin dL_law_475 ?_
      refine lv_aload_n hx hb dL_law_476 rfl (lv_at hl 0 rfl) ?_
      refine lv_iload_n hx hb dL_law_477 rfl (lv_at hl 3 rfl) ?_
      refine lv_iconst (v := 4) hx hb dL_law_478 (by decide) ?_
      refine lv_iadd hx hb dL_law_479 ?_
      obtain ⟨hin, hf⟩ := pw_gd hf
      refine va_sld hx hb hX hbl hbA hw.2 hin dL_law_480 ?_
      obtain ⟨r18, σ18, h18, hf⟩ := pw_bi_some hf
      refine pw_ci hw (pw_runV (As := [.int (xs (x3 + (1 : Int32)).toNatClampNeg), .int (xs (x3 + (2 : Int32)).toNatClampNeg), .int (xs (x3 + (3 : Int32)).toNatClampNeg), .int (xs (x3 + (4 : Int32)).toNatClampNeg)]) (rest := [.int r17]) hC hw (c_X11_ahead  h18) mw_885 wm_X11_ahead ⟨Nat.le_refl _, Nat.le_refl _⟩ ⟨rfl, rfl, Nat.le_of_ble_eq_true rfl, Nat.le_of_ble_eq_true rfl⟩ (by decide) rfl rfl rfl hl.1 rfl (Nat.le_of_ble_eq_true rfl) dL_law_481) (fun H locs hw => ?_)
      refine lv_icmp_eq (tgt := 1222) hx hb dL_law_484 (by decide) (fun hc => ?_) (fun hc => ?_)
      · replace hf := pw_ifp hc hf
        refine lv_iinc (v := (x3 + (5 : Int32))) (lv' := [(3, .int (x3 + (5 : Int32))), (0, .ref b), (1, .ref (pw_ad G 0)), (2, .ref (pw_ad G 10))]) hx hb dL_law_1222 hl (k := 3) rfl rfl (by decide) rfl (fun ls hl => ?_)
        refine lv_goto (tgt := 18) hx hb dL_law_1225 (by decide) ?_
        exact hk18 _ _ _ _ _ hw (lv_sub hl [1, 2, 3, 0] rfl) hf
      · replace hf := pw_ifn hc hf
        refine lv_iconst (v := 0) hx hb dL_law_487 (by decide) ?_
        cases hf
    replace hf := pw_ifn hc8 hf
    by_cases hc9 : ((xs x3.toNatClampNeg) &&& (63 : Int32)) = 9
    · replace hf := pw_ifp hc9 hf
      refine lv_tableIn (off := 457) (tgt := 489) hx hb dL_law_32 (by rw [hc9]; decide) (by rw [hc9]; decide) (by rw [hc9]; decide) (by decide) ?_
      refine lv_aload_n hx hb dL_law_489 rfl (lv_at hl 1 rfl) ?_
      refine lv_aload_n hx hb dL_law_490 rfl (lv_at hl 0 rfl) ?_
      refine lv_iload_n hx hb dL_law_491 rfl (lv_at hl 3 rfl) ?_
      refine lv_iconst (v := 1) hx hb dL_law_492 (by decide) ?_
      refine lv_iadd hx hb dL_law_493 ?_
      obtain ⟨hin, hf⟩ := pw_gd hf
      refine va_sld hx hb hX hbl hbA hw.2 hin dL_law_494 ?_
      refine lv_aload_n hx hb dL_law_495 rfl (lv_at hl 0 rfl) ?_
      refine lv_iload_n hx hb dL_law_496 rfl (lv_at hl 3 rfl) ?_
      refine lv_iconst (v := 2) hx hb dL_law_497 (by decide) ?_
      refine lv_iadd hx hb dL_law_498 ?_
      obtain ⟨hin, hf⟩ := pw_gd hf
      refine va_sld hx hb hX hbl hbA hw.2 hin dL_law_499 ?_
      refine lv_aload_n hx hb dL_law_500 rfl (lv_at hl 0 rfl) ?_
      refine lv_iload_n hx hb dL_law_501 rfl (lv_at hl 3 rfl) ?_
      refine lv_iconst (v := 3) hx hb dL_law_502 (by decide) ?_
      refine lv_iadd hx hb dL_law_503 ?_
      obtain ⟨hin, hf⟩ := pw_gd hf
      refine va_sld hx hb hX hbl hbA hw.2 hin dL_law_504 ?_
      obtain ⟨r19, σ19, h19, hf⟩ := pw_bi_some hf
      refine pw_ci hw (pw_runV (As := [.int (xs (x3 + (1 : Int32)).toNatClampNeg), .int (xs (x3 + (2 : Int32)).toNatClampNeg), .int (xs (x3 + (3 : Int32)).toNatClampNeg)]) (rest := []) hC hw (c_X10_clock  h19) mw_433 wm_X10_clock ⟨Nat.le_refl _, Nat.le_refl _⟩ ⟨rfl, rfl, Nat.le_of_ble_eq_true rfl, Nat.le_of_ble_eq_true rfl⟩ (by decide) rfl rfl rfl hl.1 rfl (Nat.le_of_ble_eq_true rfl) dL_law_505) (fun H locs hw => ?_)
      refine lv_aload_n hx hb dL_law_508 rfl (lv_at hl 2 rfl) ?_
      refine lv_aload_n hx hb dL_law_509 rfl (lv_at hl 0 rfl) ?_
      refine lv_iload_n hx hb dL_law_510 rfl (lv_at hl 3 rfl) ?_
      refine lv_iconst (v := 1) hx hb dL_law_511 (by decide) ?_
      refine lv_iadd hx hb dL_law_512 ?_
      obtain ⟨hin, hf⟩ := pw_gd hf
      refine va_sld hx hb hX hbl hbA hw.2 hin dL_law_513 ?_
      refine lv_aload_n hx hb dL_law_514 rfl (lv_at hl 0 rfl) ?_
      refine lv_iload_n hx hb dL_law_515 rfl (lv_at hl 3 rfl) ?_
      refine lv_iconst (v := 2) hx hb dL_law_516 (by decide) ?_
      refine lv_iadd hx hb dL_law_517 ?_
      obtain ⟨hin, hf⟩ := pw_gd hf
      refine va_sld hx hb hX hbl hbA hw.2 hin dL_law_518 ?_
      refine lv_aload_n hx hb dL_law_519 rfl (lv_at hl 0 rfl) ?_
      refine lv_iload_n hx hb dL_law_520 rfl (lv_at hl 3 rfl) ?_
      refine lv_iconst (v := 3) hx hb dL_law_521 (by decide) ?_
      refine lv_iadd hx hb dL_law_522 ?_
      obtain ⟨hin, hf⟩ := pw_gd hf
      refine va_sld hx hb hX hbl hbA hw.2 hin dL_law_523 ?_
      obtain ⟨r20, σ20, h20, hf⟩ := pw_bi_some hf
      refine pw_ci hw (pw_runV (As := [.int (xs (x3 + (1 : Int32)).toNatClampNeg), .int (xs (x3 + (2 : Int32)).toNatClampNeg), .int (xs (x3 + (3 : Int32)).toNatClampNeg)]) (rest := [.int r19]) hC hw (c_X11_clock  h20) mw_889 wm_X11_clock ⟨Nat.le_refl _, Nat.le_refl _⟩ ⟨rfl, rfl, Nat.le_of_ble_eq_true rfl, Nat.le_of_ble_eq_true rfl⟩ (by decide) rfl rfl rfl hl.1 rfl (Nat.le_of_ble_eq_true rfl) dL_law_524) (fun H locs hw => ?_)
      refine lv_icmp_eq (tgt := 1222) hx hb dL_law_527 (by decide) (fun hc => ?_) (fun hc => ?_)
      · replace hf := pw_ifp hc hf
        refine lv_iinc (v := (x3 + (5 : Int32))) (lv' := [(3, .int (x3 + (5 : Int32))), (0, .ref b), (1, .ref (pw_ad G 0)), (2, .ref (pw_ad G 10))]) hx hb dL_law_1222 hl (k := 3) rfl rfl (by decide) rfl (fun ls hl => ?_)
        refine lv_goto (tgt := 18) hx hb dL_law_1225 (by decide) ?_
        exact hk18 _ _ _ _ _ hw (lv_sub hl [1, 2, 3, 0] rfl) hf
      · replace hf := pw_ifn hc hf
        refine lv_iconst (v := 0) hx hb dL_law_530 (by decide) ?_
        cases hf
    replace hf := pw_ifn hc9 hf
    by_cases hc10 : ((xs x3.toNatClampNeg) &&& (63 : Int32)) = 10
    · replace hf := pw_ifp hc10 hf
      refine lv_tableIn (off := 500) (tgt := 532) hx hb dL_law_32 (by rw [hc10]; decide) (by rw [hc10]; decide) (by rw [hc10]; decide) (by decide) ?_
      refine lv_aload_n hx hb dL_law_532 rfl (lv_at hl 1 rfl) ?_
      refine lv_aload_n hx hb dL_law_533 rfl (lv_at hl 0 rfl) ?_
      refine lv_iload_n hx hb dL_law_534 rfl (lv_at hl 3 rfl) ?_
      refine lv_iconst (v := 1) hx hb dL_law_535 (by decide) ?_
      refine lv_iadd hx hb dL_law_536 ?_
      obtain ⟨hin, hf⟩ := pw_gd hf
      refine va_sld hx hb hX hbl hbA hw.2 hin dL_law_537 ?_
      obtain ⟨r21, σ21, h21, hf⟩ := pw_bi_some hf
      refine pw_ci hw (pw_runV (As := [.int (xs (x3 + (1 : Int32)).toNatClampNeg)]) (rest := []) hC hw (c_X10_possible  h21) mw_437 wm_X10_possible ⟨Nat.le_refl _, Nat.le_refl _⟩ ⟨rfl, rfl, Nat.le_of_ble_eq_true rfl, Nat.le_of_ble_eq_true rfl⟩ (by decide) rfl rfl rfl hl.1 rfl (Nat.le_of_ble_eq_true rfl) dL_law_538) (fun H locs hw => ?_)
      refine lv_aload_n hx hb dL_law_541 rfl (lv_at hl 2 rfl) ?_
      refine lv_aload_n hx hb dL_law_542 rfl (lv_at hl 0 rfl) ?_
      refine lv_iload_n hx hb dL_law_543 rfl (lv_at hl 3 rfl) ?_
      refine lv_iconst (v := 1) hx hb dL_law_544 (by decide) ?_
      refine lv_iadd hx hb dL_law_545 ?_
      obtain ⟨hin, hf⟩ := pw_gd hf
      refine va_sld hx hb hX hbl hbA hw.2 hin dL_law_546 ?_
      obtain ⟨r22, σ22, h22, hf⟩ := pw_bi_some hf
      refine pw_ci hw (pw_runV (As := [.int (xs (x3 + (1 : Int32)).toNatClampNeg)]) (rest := [.int r21]) hC hw (c_X11_possible  h22) mw_893 wm_X11_possible ⟨Nat.le_refl _, Nat.le_refl _⟩ ⟨rfl, rfl, Nat.le_of_ble_eq_true rfl, Nat.le_of_ble_eq_true rfl⟩ (by decide) rfl rfl rfl hl.1 rfl (Nat.le_of_ble_eq_true rfl) dL_law_547) (fun H locs hw => ?_)
      refine lv_icmp_eq (tgt := 1222) hx hb dL_law_550 (by decide) (fun hc => ?_) (fun hc => ?_)
      · replace hf := pw_ifp hc hf
        refine lv_iinc (v := (x3 + (5 : Int32))) (lv' := [(3, .int (x3 + (5 : Int32))), (0, .ref b), (1, .ref (pw_ad G 0)), (2, .ref (pw_ad G 10))]) hx hb dL_law_1222 hl (k := 3) rfl rfl (by decide) rfl (fun ls hl => ?_)
        refine lv_goto (tgt := 18) hx hb dL_law_1225 (by decide) ?_
        exact hk18 _ _ _ _ _ hw (lv_sub hl [1, 2, 3, 0] rfl) hf
      · replace hf := pw_ifn hc hf
        refine lv_iconst (v := 0) hx hb dL_law_553 (by decide) ?_
        cases hf
    replace hf := pw_ifn hc10 hf
    by_cases hc11 : ((xs x3.toNatClampNeg) &&& (63 : Int32)) = 11
    · replace hf := pw_ifp hc11 hf
      refine lv_tableIn (off := 523) (tgt := 555) hx hb dL_law_32 (by rw [hc11]; decide) (by rw [hc11]; decide) (by rw [hc11]; decide) (by decide) ?_
      refine lv_aload_n hx hb dL_law_555 rfl (lv_at hl 1 rfl) ?_
      refine lv_aload_n hx hb dL_law_556 rfl (lv_at hl 0 rfl) ?_
      refine lv_iload_n hx hb dL_law_557 rfl (lv_at hl 3 rfl) ?_
      refine lv_iconst (v := 1) hx hb dL_law_558 (by decide) ?_
      refine lv_iadd hx hb dL_law_559 ?_
      obtain ⟨hin, hf⟩ := pw_gd hf
      refine va_sld hx hb hX hbl hbA hw.2 hin dL_law_560 ?_
      obtain ⟨r23, σ23, h23, hf⟩ := pw_bi_some hf
      refine pw_ci hw (pw_runV (As := [.int (xs (x3 + (1 : Int32)).toNatClampNeg)]) (rest := []) hC hw (c_X10_cuts  h23) mw_471 wm_X10_cuts ⟨Nat.le_refl _, Nat.le_refl _⟩ ⟨rfl, rfl, Nat.le_of_ble_eq_true rfl, Nat.le_of_ble_eq_true rfl⟩ (by decide) rfl rfl rfl hl.1 rfl (Nat.le_of_ble_eq_true rfl) dL_law_561) (fun H locs hw => ?_)
      refine lv_aload_n hx hb dL_law_564 rfl (lv_at hl 2 rfl) ?_
      refine lv_aload_n hx hb dL_law_565 rfl (lv_at hl 0 rfl) ?_
      refine lv_iload_n hx hb dL_law_566 rfl (lv_at hl 3 rfl) ?_
      refine lv_iconst (v := 1) hx hb dL_law_567 (by decide) ?_
      refine lv_iadd hx hb dL_law_568 ?_
      obtain ⟨hin, hf⟩ := pw_gd hf
      refine va_sld hx hb hX hbl hbA hw.2 hin dL_law_569 ?_
      obtain ⟨r24, σ24, h24, hf⟩ := pw_bi_some hf
      refine pw_ci hw (pw_runV (As := [.int (xs (x3 + (1 : Int32)).toNatClampNeg)]) (rest := [.int r23]) hC hw (c_X11_cuts  h24) mw_911 wm_X11_cuts ⟨Nat.le_refl _, Nat.le_refl _⟩ ⟨rfl, rfl, Nat.le_of_ble_eq_true rfl, Nat.le_of_ble_eq_true rfl⟩ (by decide) rfl rfl rfl hl.1 rfl (Nat.le_of_ble_eq_true rfl) dL_law_570) (fun H locs hw => ?_)
      refine lv_icmp_eq (tgt := 1222) hx hb dL_law_573 (by decide) (fun hc => ?_) (fun hc => ?_)
      · replace hf := pw_ifp hc hf
        refine lv_iinc (v := (x3 + (5 : Int32))) (lv' := [(3, .int (x3 + (5 : Int32))), (0, .ref b), (1, .ref (pw_ad G 0)), (2, .ref (pw_ad G 10))]) hx hb dL_law_1222 hl (k := 3) rfl rfl (by decide) rfl (fun ls hl => ?_)
        refine lv_goto (tgt := 18) hx hb dL_law_1225 (by decide) ?_
        exact hk18 _ _ _ _ _ hw (lv_sub hl [1, 2, 3, 0] rfl) hf
      · replace hf := pw_ifn hc hf
        refine lv_iconst (v := 0) hx hb dL_law_576 (by decide) ?_
        cases hf
    replace hf := pw_ifn hc11 hf
    by_cases hc12 : ((xs x3.toNatClampNeg) &&& (63 : Int32)) = 12
    · replace hf := pw_ifp hc12 hf
      refine lv_tableIn (off := 546) (tgt := 578) hx hb dL_law_32 (by rw [hc12]; decide) (by rw [hc12]; decide) (by rw [hc12]; decide) (by decide) ?_
      refine lv_aload_n hx hb dL_law_578 rfl (lv_at hl 1 rfl) ?_
      refine lv_aload_n hx hb dL_law_579 rfl (lv_at hl 0 rfl) ?_
      refine lv_iload_n hx hb dL_law_580 rfl (lv_at hl 3 rfl) ?_
      refine lv_iconst (v := 1) hx hb dL_law_581 (by decide) ?_
      refine lv_iadd hx hb dL_law_582 ?_
      obtain ⟨hin, hf⟩ := pw_gd hf
      refine va_sld hx hb hX hbl hbA hw.2 hin dL_law_583 ?_
      obtain ⟨r25, σ25, h25, hf⟩ := pw_bi_some hf
      refine pw_ci hw (pw_runV (As := [.int (xs (x3 + (1 : Int32)).toNatClampNeg)]) (rest := []) hC hw (c_X10_next  h25) mw_479 wm_X10_next ⟨Nat.le_refl _, Nat.le_refl _⟩ ⟨rfl, rfl, Nat.le_of_ble_eq_true rfl, Nat.le_of_ble_eq_true rfl⟩ (by decide) rfl rfl rfl hl.1 rfl (Nat.le_of_ble_eq_true rfl) dL_law_584) (fun H locs hw => ?_)
      refine lv_aload_n hx hb dL_law_587 rfl (lv_at hl 2 rfl) ?_
      refine lv_aload_n hx hb dL_law_588 rfl (lv_at hl 0 rfl) ?_
      refine lv_iload_n hx hb dL_law_589 rfl (lv_at hl 3 rfl) ?_
      refine lv_iconst (v := 1) hx hb dL_law_590 (by decide) ?_
      refine lv_iadd hx hb dL_law_591 ?_
      obtain ⟨hin, hf⟩ := pw_gd hf
      refine va_sld hx hb hX hbl hbA hw.2 hin dL_law_592 ?_
      obtain ⟨r26, σ26, h26, hf⟩ := pw_bi_some hf
      refine pw_ci hw (pw_runV (As := [.int (xs (x3 + (1 : Int32)).toNatClampNeg)]) (rest := [.int r25]) hC hw (c_X11_next  h26) mw_918 wm_X11_next ⟨Nat.le_refl _, Nat.le_refl _⟩ ⟨rfl, rfl, Nat.le_of_ble_eq_true rfl, Nat.le_of_ble_eq_true rfl⟩ (by decide) rfl rfl rfl hl.1 rfl (Nat.le_of_ble_eq_true rfl) dL_law_593) (fun H locs hw => ?_)
      refine lv_icmp_eq (tgt := 1222) hx hb dL_law_596 (by decide) (fun hc => ?_) (fun hc => ?_)
      · replace hf := pw_ifp hc hf
        refine lv_iinc (v := (x3 + (5 : Int32))) (lv' := [(3, .int (x3 + (5 : Int32))), (0, .ref b), (1, .ref (pw_ad G 0)), (2, .ref (pw_ad G 10))]) hx hb dL_law_1222 hl (k := 3) rfl rfl (by decide) rfl (fun ls hl => ?_)
        refine lv_goto (tgt := 18) hx hb dL_law_1225 (by decide) ?_
        exact hk18 _ _ _ _ _ hw (lv_sub hl [1, 2, 3, 0] rfl) hf
      · replace hf := pw_ifn hc hf
        refine lv_iconst (v := 0) hx hb dL_law_599 (by decide) ?_
        cases hf
    replace hf := pw_ifn hc12 hf
    by_cases hc13 : ((xs x3.toNatClampNeg) &&& (63 : Int32)) = 13
    · replace hf := pw_ifp hc13 hf
      refine lv_tableIn (off := 569) (tgt := 601) hx hb dL_law_32 (by rw [hc13]; decide) (by rw [hc13]; decide) (by rw [hc13]; decide) (by decide) ?_
      refine lv_aload_n hx hb dL_law_601 rfl (lv_at hl 1 rfl) ?_
      refine lv_aload_n hx hb dL_law_602 rfl (lv_at hl 0 rfl) ?_
      refine lv_iload_n hx hb dL_law_603 rfl (lv_at hl 3 rfl) ?_
      refine lv_iconst (v := 1) hx hb dL_law_604 (by decide) ?_
      refine lv_iadd hx hb dL_law_605 ?_
      obtain ⟨hin, hf⟩ := pw_gd hf
      refine va_sld hx hb hX hbl hbA hw.2 hin dL_law_606 ?_
      refine lv_aload_n hx hb dL_law_607 rfl (lv_at hl 0 rfl) ?_
      refine lv_iload_n hx hb dL_law_608 rfl (lv_at hl 3 rfl) ?_
      refine lv_iconst (v := 2) hx hb dL_law_609 (by decide) ?_
      refine lv_iadd hx hb dL_law_610 ?_
      obtain ⟨hin, hf⟩ := pw_gd hf
      refine va_sld hx hb hX hbl hbA hw.2 hin dL_law_611 ?_
      refine lv_aload_n hx hb dL_law_612 rfl (lv_at hl 0 rfl) ?_
      refine lv_iload_n hx hb dL_law_613 rfl (lv_at hl 3 rfl) ?_
      refine lv_iconst (v := 3) hx hb dL_law_614 (by decide) ?_
      refine lv_iadd hx hb dL_law_615 ?_
      obtain ⟨hin, hf⟩ := pw_gd hf
      refine va_sld hx hb hX hbl hbA hw.2 hin dL_law_616 ?_
      obtain ⟨r27, σ27, h27, hf⟩ := pw_bi_some hf
      refine pw_ci hw (pw_runV (As := [.int (xs (x3 + (1 : Int32)).toNatClampNeg), .int (xs (x3 + (2 : Int32)).toNatClampNeg), .int (xs (x3 + (3 : Int32)).toNatClampNeg)]) (rest := []) hC hw (c_X10_join  h27) mw_487 wm_X10_join ⟨Nat.le_refl _, Nat.le_refl _⟩ ⟨rfl, rfl, Nat.le_of_ble_eq_true rfl, Nat.le_of_ble_eq_true rfl⟩ (by decide) rfl rfl rfl hl.1 rfl (Nat.le_of_ble_eq_true rfl) dL_law_617) (fun H locs hw => ?_)
      refine lv_aload_n hx hb dL_law_620 rfl (lv_at hl 2 rfl) ?_
      refine lv_aload_n hx hb dL_law_621 rfl (lv_at hl 0 rfl) ?_
      refine lv_iload_n hx hb dL_law_622 rfl (lv_at hl 3 rfl) ?_
      refine lv_iconst (v := 1) hx hb dL_law_623 (by decide) ?_
      refine lv_iadd hx hb dL_law_624 ?_
      obtain ⟨hin, hf⟩ := pw_gd hf
      refine va_sld hx hb hX hbl hbA hw.2 hin dL_law_625 ?_
      refine lv_aload_n hx hb dL_law_626 rfl (lv_at hl 0 rfl) ?_
      refine lv_iload_n hx hb dL_law_627 rfl (lv_at hl 3 rfl) ?_
      refine lv_iconst (v := 2) hx hb dL_law_628 (by decide) ?_
      refine lv_iadd hx hb dL_law_629 ?_
      obtain ⟨hin, hf⟩ := pw_gd hf
      refine va_sld hx hb hX hbl hbA hw.2 hin dL_law_630 ?_
      refine lv_aload_n hx hb dL_law_631 rfl (lv_at hl 0 rfl) ?_
      refine lv_iload_n hx hb dL_law_632 rfl (lv_at hl 3 rfl) ?_
      refine lv_iconst (v := 3) hx hb dL_law_633 (by decide) ?_
      refine lv_iadd hx hb dL_law_634 ?_
      obtain ⟨hin, hf⟩ := pw_gd hf
      refine va_sld hx hb hX hbl hbA hw.2 hin dL_law_635 ?_
      obtain ⟨r28, σ28, h28, hf⟩ := pw_bi_some hf
      refine pw_ci hw (pw_runV (As := [.int (xs (x3 + (1 : Int32)).toNatClampNeg), .int (xs (x3 + (2 : Int32)).toNatClampNeg), .int (xs (x3 + (3 : Int32)).toNatClampNeg)]) (rest := [.int r27]) hC hw (c_X11_join  h28) mw_922 wm_X11_join ⟨Nat.le_refl _, Nat.le_refl _⟩ ⟨rfl, rfl, Nat.le_of_ble_eq_true rfl, Nat.le_of_ble_eq_true rfl⟩ (by decide) rfl rfl rfl hl.1 rfl (Nat.le_of_ble_eq_true rfl) dL_law_636) (fun H locs hw => ?_)
      refine lv_icmp_eq (tgt := 1222) hx hb dL_law_639 (by decide) (fun hc => ?_) (fun hc => ?_)
      · replace hf := pw_ifp hc hf
        refine lv_iinc (v := (x3 + (5 : Int32))) (lv' := [(3, .int (x3 + (5 : Int32))), (0, .ref b), (1, .ref (pw_ad G 0)), (2, .ref (pw_ad G 10))]) hx hb dL_law_1222 hl (k := 3) rfl rfl (by decide) rfl (fun ls hl => ?_)
        refine lv_goto (tgt := 18) hx hb dL_law_1225 (by decide) ?_
        exact hk18 _ _ _ _ _ hw (lv_sub hl [1, 2, 3, 0] rfl) hf
      · replace hf := pw_ifn hc hf
        refine lv_iconst (v := 0) hx hb dL_law_642 (by decide) ?_
        cases hf
    replace hf := pw_ifn hc13 hf
    by_cases hc14 : ((xs x3.toNatClampNeg) &&& (63 : Int32)) = 14
    · replace hf := pw_ifp hc14 hf
      refine lv_tableIn (off := 612) (tgt := 644) hx hb dL_law_32 (by rw [hc14]; decide) (by rw [hc14]; decide) (by rw [hc14]; decide) (by decide) ?_
      refine lv_aload_n hx hb dL_law_644 rfl (lv_at hl 1 rfl) ?_
      refine lv_aload_n hx hb dL_law_645 rfl (lv_at hl 0 rfl) ?_
      refine lv_iload_n hx hb dL_law_646 rfl (lv_at hl 3 rfl) ?_
      refine lv_iconst (v := 1) hx hb dL_law_647 (by decide) ?_
      refine lv_iadd hx hb dL_law_648 ?_
      obtain ⟨hin, hf⟩ := pw_gd hf
      refine va_sld hx hb hX hbl hbA hw.2 hin dL_law_649 ?_
      refine lv_aload_n hx hb dL_law_650 rfl (lv_at hl 0 rfl) ?_
      refine lv_iload_n hx hb dL_law_651 rfl (lv_at hl 3 rfl) ?_
      refine lv_iconst (v := 2) hx hb dL_law_652 (by decide) ?_
      refine lv_iadd hx hb dL_law_653 ?_
      obtain ⟨hin, hf⟩ := pw_gd hf
      refine va_sld hx hb hX hbl hbA hw.2 hin dL_law_654 ?_
      obtain ⟨r29, σ29, h29, hf⟩ := pw_bi_some hf
      refine pw_ci hw (pw_runV (As := [.int (xs (x3 + (1 : Int32)).toNatClampNeg), .int (xs (x3 + (2 : Int32)).toNatClampNeg)]) (rest := []) hC hw (c_X10_least  h29) mw_501 wm_X10_least ⟨Nat.le_refl _, Nat.le_refl _⟩ ⟨rfl, rfl, Nat.le_of_ble_eq_true rfl, Nat.le_of_ble_eq_true rfl⟩ (by decide) rfl rfl rfl hl.1 rfl (Nat.le_of_ble_eq_true rfl) dL_law_655) (fun H locs hw => ?_)
      refine lv_aload_n hx hb dL_law_658 rfl (lv_at hl 2 rfl) ?_
      refine lv_aload_n hx hb dL_law_659 rfl (lv_at hl 0 rfl) ?_
      refine lv_iload_n hx hb dL_law_660 rfl (lv_at hl 3 rfl) ?_
      refine lv_iconst (v := 1) hx hb dL_law_661 (by decide) ?_
      refine lv_iadd hx hb dL_law_662 ?_
      obtain ⟨hin, hf⟩ := pw_gd hf
      refine va_sld hx hb hX hbl hbA hw.2 hin dL_law_663 ?_
      refine lv_aload_n hx hb dL_law_664 rfl (lv_at hl 0 rfl) ?_
      refine lv_iload_n hx hb dL_law_665 rfl (lv_at hl 3 rfl) ?_
      refine lv_iconst (v := 2) hx hb dL_law_666 (by decide) ?_
      refine lv_iadd hx hb dL_law_667 ?_
      obtain ⟨hin, hf⟩ := pw_gd hf
      refine va_sld hx hb hX hbl hbA hw.2 hin dL_law_668 ?_
      obtain ⟨r30, σ30, h30, hf⟩ := pw_bi_some hf
      refine pw_ci hw (pw_runV (As := [.int (xs (x3 + (1 : Int32)).toNatClampNeg), .int (xs (x3 + (2 : Int32)).toNatClampNeg)]) (rest := [.int r29]) hC hw (c_X11_least  h30) mw_929 wm_X11_least ⟨Nat.le_refl _, Nat.le_refl _⟩ ⟨rfl, rfl, Nat.le_of_ble_eq_true rfl, Nat.le_of_ble_eq_true rfl⟩ (by decide) rfl rfl rfl hl.1 rfl (Nat.le_of_ble_eq_true rfl) dL_law_669) (fun H locs hw => ?_)
      refine lv_icmp_eq (tgt := 1222) hx hb dL_law_672 (by decide) (fun hc => ?_) (fun hc => ?_)
      · replace hf := pw_ifp hc hf
        refine lv_iinc (v := (x3 + (5 : Int32))) (lv' := [(3, .int (x3 + (5 : Int32))), (0, .ref b), (1, .ref (pw_ad G 0)), (2, .ref (pw_ad G 10))]) hx hb dL_law_1222 hl (k := 3) rfl rfl (by decide) rfl (fun ls hl => ?_)
        refine lv_goto (tgt := 18) hx hb dL_law_1225 (by decide) ?_
        exact hk18 _ _ _ _ _ hw (lv_sub hl [1, 2, 3, 0] rfl) hf
      · replace hf := pw_ifn hc hf
        refine lv_iconst (v := 0) hx hb dL_law_675 (by decide) ?_
        cases hf
    replace hf := pw_ifn hc14 hf
    by_cases hc15 : ((xs x3.toNatClampNeg) &&& (63 : Int32)) = 15
    · replace hf := pw_ifp hc15 hf
      refine lv_tableIn (off := 645) (tgt := 677) hx hb dL_law_32 (by rw [hc15]; decide) (by rw [hc15]; decide) (by rw [hc15]; decide) (by decide) ?_
      refine lv_aload_n hx hb dL_law_677 rfl (lv_at hl 1 rfl) ?_
      obtain ⟨r31, σ31, h31, hf⟩ := pw_bl_some hf
      refine pw_cl hw (pw_runV (As := []) (rest := []) hC hw (c_X10_orders  h31) mw_510 wm_X10_orders ⟨Nat.le_refl _, Nat.le_refl _⟩ ⟨rfl, rfl, Nat.le_of_ble_eq_true rfl, Nat.le_of_ble_eq_true rfl⟩ (by decide) rfl rfl rfl hl.1 rfl (Nat.le_of_ble_eq_true rfl) dL_law_678) (fun H locs hw => ?_)
      refine lv_aload_n hx hb dL_law_681 rfl (lv_at hl 2 rfl) ?_
      obtain ⟨r32, σ32, h32, hf⟩ := pw_bl_some hf
      refine pw_cl hw (pw_runV (As := []) (rest := [.long r31]) hC hw (c_X11_orders  h32) mw_933 wm_X11_orders ⟨Nat.le_refl _, Nat.le_refl _⟩ ⟨rfl, rfl, Nat.le_of_ble_eq_true rfl, Nat.le_of_ble_eq_true rfl⟩ (by decide) rfl rfl rfl hl.1 rfl (Nat.le_of_ble_eq_true rfl) dL_law_682) (fun H locs hw => ?_)
      refine W.lcmp hx hb dL_law_685 ?_
      refine lv_if_eq (tgt := 1222) hx hb dL_law_686 (by decide) (fun hc => ?_) (fun hc => ?_)
      · replace hf := pw_ifp hc hf
        refine lv_iinc (v := (x3 + (5 : Int32))) (lv' := [(3, .int (x3 + (5 : Int32))), (0, .ref b), (1, .ref (pw_ad G 0)), (2, .ref (pw_ad G 10))]) hx hb dL_law_1222 hl (k := 3) rfl rfl (by decide) rfl (fun ls hl => ?_)
        refine lv_goto (tgt := 18) hx hb dL_law_1225 (by decide) ?_
        exact hk18 _ _ _ _ _ hw (lv_sub hl [1, 2, 3, 0] rfl) hf
      · replace hf := pw_ifn hc hf
        refine lv_iconst (v := 0) hx hb dL_law_689 (by decide) ?_
        cases hf
    replace hf := pw_ifn hc15 hf
    by_cases hc16 : ((xs x3.toNatClampNeg) &&& (63 : Int32)) = 16
    · replace hf := pw_ifp hc16 hf
      refine lv_tableIn (off := 659) (tgt := 691) hx hb dL_law_32 (by rw [hc16]; decide) (by rw [hc16]; decide) (by rw [hc16]; decide) (by decide) ?_
      refine lv_aload_n hx hb dL_law_691 rfl (lv_at hl 1 rfl) ?_
      refine lv_aload_n hx hb dL_law_692 rfl (lv_at hl 0 rfl) ?_
      refine lv_iload_n hx hb dL_law_693 rfl (lv_at hl 3 rfl) ?_
      refine lv_iconst (v := 1) hx hb dL_law_694 (by decide) ?_
      refine lv_iadd hx hb dL_law_695 ?_
      obtain ⟨hin, hf⟩ := pw_gd hf
      refine va_sld hx hb hX hbl hbA hw.2 hin dL_law_696 ?_
      refine lv_i2l hx hb dL_law_697 rfl ?_
      refine lv_bipush (v := 32) hx hb dL_law_698 (by decide) ?_
      refine lv_lshl hx hb dL_law_700 rfl ?_
      refine lv_aload_n hx hb dL_law_701 rfl (lv_at hl 0 rfl) ?_
      refine lv_iload_n hx hb dL_law_702 rfl (lv_at hl 3 rfl) ?_
      refine lv_iconst (v := 2) hx hb dL_law_703 (by decide) ?_
      refine lv_iadd hx hb dL_law_704 ?_
      obtain ⟨hin, hf⟩ := pw_gd hf
      refine va_sld hx hb hX hbl hbA hw.2 hin dL_law_705 ?_
      refine lv_i2l hx hb dL_law_706 rfl ?_
      refine lv_ldc2 hx hb hC.2.2.2.1 (hC.2.2.2.2.1 _ mw_1082) dL_law_707 ?_
      refine lv_land hx hb dL_law_710 ?_
      refine lv_lor hx hb dL_law_711 ?_
      refine lv_aload_n hx hb dL_law_712 rfl (lv_at hl 0 rfl) ?_
      refine lv_iload_n hx hb dL_law_713 rfl (lv_at hl 3 rfl) ?_
      refine lv_iconst (v := 3) hx hb dL_law_714 (by decide) ?_
      refine lv_iadd hx hb dL_law_715 ?_
      obtain ⟨hin, hf⟩ := pw_gd hf
      refine va_sld hx hb hX hbl hbA hw.2 hin dL_law_716 ?_
      obtain ⟨r33, σ33, h33, hf⟩ := pw_bi_some hf
      refine pw_ci hw (pw_runV (As := [.long (((xs (x3 + (1 : Int32)).toNatClampNeg).toInt64 <<< ((32 : Int32).toInt64 &&& 63)) ||| ((xs (x3 + (2 : Int32)).toNatClampNeg).toInt64 &&& (4294967295 : Int64))), .int (xs (x3 + (3 : Int32)).toNatClampNeg)]) (rest := []) hC hw (c_X10_order  h33) mw_534 wm_X10_order ⟨Nat.le_refl _, Nat.le_refl _⟩ ⟨rfl, rfl, Nat.le_of_ble_eq_true rfl, Nat.le_of_ble_eq_true rfl⟩ (by decide) rfl rfl rfl hl.1 rfl (Nat.le_of_ble_eq_true rfl) dL_law_717) (fun H locs hw => ?_)
      refine lv_aload_n hx hb dL_law_720 rfl (lv_at hl 2 rfl) ?_
      refine lv_aload_n hx hb dL_law_721 rfl (lv_at hl 0 rfl) ?_
      refine lv_iload_n hx hb dL_law_722 rfl (lv_at hl 3 rfl) ?_
      refine lv_iconst (v := 1) hx hb dL_law_723 (by decide) ?_
      refine lv_iadd hx hb dL_law_724 ?_
      obtain ⟨hin, hf⟩ := pw_gd hf
      refine va_sld hx hb hX hbl hbA hw.2 hin dL_law_725 ?_
      refine lv_i2l hx hb dL_law_726 rfl ?_
      refine lv_bipush (v := 32) hx hb dL_law_727 (by decide) ?_
      refine lv_lshl hx hb dL_law_729 rfl ?_
      refine lv_aload_n hx hb dL_law_730 rfl (lv_at hl 0 rfl) ?_
      refine lv_iload_n hx hb dL_law_731 rfl (lv_at hl 3 rfl) ?_
      refine lv_iconst (v := 2) hx hb dL_law_732 (by decide) ?_
      refine lv_iadd hx hb dL_law_733 ?_
      obtain ⟨hin, hf⟩ := pw_gd hf
      refine va_sld hx hb hX hbl hbA hw.2 hin dL_law_734 ?_
      refine lv_i2l hx hb dL_law_735 rfl ?_
      refine lv_ldc2 hx hb hC.2.2.2.1 (hC.2.2.2.2.1 _ mw_1082) dL_law_736 ?_
      refine lv_land hx hb dL_law_739 ?_
      refine lv_lor hx hb dL_law_740 ?_
      refine lv_aload_n hx hb dL_law_741 rfl (lv_at hl 0 rfl) ?_
      refine lv_iload_n hx hb dL_law_742 rfl (lv_at hl 3 rfl) ?_
      refine lv_iconst (v := 3) hx hb dL_law_743 (by decide) ?_
      refine lv_iadd hx hb dL_law_744 ?_
      obtain ⟨hin, hf⟩ := pw_gd hf
      refine va_sld hx hb hX hbl hbA hw.2 hin dL_law_745 ?_
      obtain ⟨r34, σ34, h34, hf⟩ := pw_bi_some hf
      refine pw_ci hw (pw_runV (As := [.long (((xs (x3 + (1 : Int32)).toNatClampNeg).toInt64 <<< ((32 : Int32).toInt64 &&& 63)) ||| ((xs (x3 + (2 : Int32)).toNatClampNeg).toInt64 &&& (4294967295 : Int64))), .int (xs (x3 + (3 : Int32)).toNatClampNeg)]) (rest := [.int r33]) hC hw (c_X11_order  h34) mw_950 wm_X11_order ⟨Nat.le_refl _, Nat.le_refl _⟩ ⟨rfl, rfl, Nat.le_of_ble_eq_true rfl, Nat.le_of_ble_eq_true rfl⟩ (by decide) rfl rfl rfl hl.1 rfl (Nat.le_of_ble_eq_true rfl) dL_law_746) (fun H locs hw => ?_)
      refine lv_icmp_eq (tgt := 1222) hx hb dL_law_749 (by decide) (fun hc => ?_) (fun hc => ?_)
      · replace hf := pw_ifp hc hf
        refine lv_iinc (v := (x3 + (5 : Int32))) (lv' := [(3, .int (x3 + (5 : Int32))), (0, .ref b), (1, .ref (pw_ad G 0)), (2, .ref (pw_ad G 10))]) hx hb dL_law_1222 hl (k := 3) rfl rfl (by decide) rfl (fun ls hl => ?_)
        refine lv_goto (tgt := 18) hx hb dL_law_1225 (by decide) ?_
        exact hk18 _ _ _ _ _ hw (lv_sub hl [1, 2, 3, 0] rfl) hf
      · replace hf := pw_ifn hc hf
        refine lv_iconst (v := 0) hx hb dL_law_752 (by decide) ?_
        cases hf
    replace hf := pw_ifn hc16 hf
    by_cases hc17 : ((xs x3.toNatClampNeg) &&& (63 : Int32)) = 17
    · replace hf := pw_ifp hc17 hf
      refine lv_tableIn (off := 722) (tgt := 754) hx hb dL_law_32 (by rw [hc17]; decide) (by rw [hc17]; decide) (by rw [hc17]; decide) (by decide) ?_
      refine lv_aload_n hx hb dL_law_754 rfl (lv_at hl 1 rfl) ?_
      refine lv_aload_n hx hb dL_law_755 rfl (lv_at hl 0 rfl) ?_
      refine lv_iload_n hx hb dL_law_756 rfl (lv_at hl 3 rfl) ?_
      refine lv_iconst (v := 1) hx hb dL_law_757 (by decide) ?_
      refine lv_iadd hx hb dL_law_758 ?_
      obtain ⟨hin, hf⟩ := pw_gd hf
      refine va_sld hx hb hX hbl hbA hw.2 hin dL_law_759 ?_
      obtain ⟨r35, σ35, h35, hf⟩ := pw_bi_some hf
      refine pw_ci hw (pw_runV (As := [.int (xs (x3 + (1 : Int32)).toNatClampNeg)]) (rest := []) hC hw (c_X10_number  h35) mw_544 wm_X10_number ⟨Nat.le_refl _, Nat.le_refl _⟩ ⟨rfl, rfl, Nat.le_of_ble_eq_true rfl, Nat.le_of_ble_eq_true rfl⟩ (by decide) rfl rfl rfl hl.1 rfl (Nat.le_of_ble_eq_true rfl) dL_law_760) (fun H locs hw => ?_)
      refine lv_aload_n hx hb dL_law_763 rfl (lv_at hl 2 rfl) ?_
      refine lv_aload_n hx hb dL_law_764 rfl (lv_at hl 0 rfl) ?_
      refine lv_iload_n hx hb dL_law_765 rfl (lv_at hl 3 rfl) ?_
      refine lv_iconst (v := 1) hx hb dL_law_766 (by decide) ?_
      refine lv_iadd hx hb dL_law_767 ?_
      obtain ⟨hin, hf⟩ := pw_gd hf
      refine va_sld hx hb hX hbl hbA hw.2 hin dL_law_768 ?_
      obtain ⟨r36, σ36, h36, hf⟩ := pw_bi_some hf
      refine pw_ci hw (pw_runV (As := [.int (xs (x3 + (1 : Int32)).toNatClampNeg)]) (rest := [.int r35]) hC hw (c_X11_number  h36) mw_958 wm_X11_number ⟨Nat.le_refl _, Nat.le_refl _⟩ ⟨rfl, rfl, Nat.le_of_ble_eq_true rfl, Nat.le_of_ble_eq_true rfl⟩ (by decide) rfl rfl rfl hl.1 rfl (Nat.le_of_ble_eq_true rfl) dL_law_769) (fun H locs hw => ?_)
      refine lv_icmp_eq (tgt := 1222) hx hb dL_law_772 (by decide) (fun hc => ?_) (fun hc => ?_)
      · replace hf := pw_ifp hc hf
        refine lv_iinc (v := (x3 + (5 : Int32))) (lv' := [(3, .int (x3 + (5 : Int32))), (0, .ref b), (1, .ref (pw_ad G 0)), (2, .ref (pw_ad G 10))]) hx hb dL_law_1222 hl (k := 3) rfl rfl (by decide) rfl (fun ls hl => ?_)
        refine lv_goto (tgt := 18) hx hb dL_law_1225 (by decide) ?_
        exact hk18 _ _ _ _ _ hw (lv_sub hl [1, 2, 3, 0] rfl) hf
      · replace hf := pw_ifn hc hf
        refine lv_iconst (v := 0) hx hb dL_law_775 (by decide) ?_
        cases hf
    replace hf := pw_ifn hc17 hf
    by_cases hc18 : ((xs x3.toNatClampNeg) &&& (63 : Int32)) = 18
    · replace hf := pw_ifp hc18 hf
      refine lv_tableIn (off := 745) (tgt := 777) hx hb dL_law_32 (by rw [hc18]; decide) (by rw [hc18]; decide) (by rw [hc18]; decide) (by decide) ?_
      refine lv_aload_n hx hb dL_law_777 rfl (lv_at hl 1 rfl) ?_
      refine lv_aload_n hx hb dL_law_778 rfl (lv_at hl 0 rfl) ?_
      refine lv_iload_n hx hb dL_law_779 rfl (lv_at hl 3 rfl) ?_
      refine lv_iconst (v := 1) hx hb dL_law_780 (by decide) ?_
      refine lv_iadd hx hb dL_law_781 ?_
      obtain ⟨hin, hf⟩ := pw_gd hf
      refine va_sld hx hb hX hbl hbA hw.2 hin dL_law_782 ?_
      refine lv_aload_n hx hb dL_law_783 rfl (lv_at hl 0 rfl) ?_
      refine lv_iload_n hx hb dL_law_784 rfl (lv_at hl 3 rfl) ?_
      refine lv_iconst (v := 2) hx hb dL_law_785 (by decide) ?_
      refine lv_iadd hx hb dL_law_786 ?_
      obtain ⟨hin, hf⟩ := pw_gd hf
      refine va_sld hx hb hX hbl hbA hw.2 hin dL_law_787 ?_
      refine lv_aload_n hx hb dL_law_788 rfl (lv_at hl 0 rfl) ?_
      refine lv_iload_n hx hb dL_law_789 rfl (lv_at hl 3 rfl) ?_
      refine lv_iconst (v := 3) hx hb dL_law_790 (by decide) ?_
      refine lv_iadd hx hb dL_law_791 ?_
      obtain ⟨hin, hf⟩ := pw_gd hf
      refine va_sld hx hb hX hbl hbA hw.2 hin dL_law_792 ?_
      obtain ⟨r37, σ37, h37, hf⟩ := pw_bi_some hf
      refine pw_ci hw (pw_runV (As := [.int (xs (x3 + (1 : Int32)).toNatClampNeg), .int (xs (x3 + (2 : Int32)).toNatClampNeg), .int (xs (x3 + (3 : Int32)).toNatClampNeg)]) (rest := []) hC hw (c_X10_part  h37) mw_556 wm_X10_part ⟨Nat.le_refl _, Nat.le_refl _⟩ ⟨rfl, rfl, Nat.le_of_ble_eq_true rfl, Nat.le_of_ble_eq_true rfl⟩ (by decide) rfl rfl rfl hl.1 rfl (Nat.le_of_ble_eq_true rfl) dL_law_793) (fun H locs hw => ?_)
      refine lv_aload_n hx hb dL_law_796 rfl (lv_at hl 2 rfl) ?_
      refine lv_aload_n hx hb dL_law_797 rfl (lv_at hl 0 rfl) ?_
      refine lv_iload_n hx hb dL_law_798 rfl (lv_at hl 3 rfl) ?_
      refine lv_iconst (v := 1) hx hb dL_law_799 (by decide) ?_
      refine lv_iadd hx hb dL_law_800 ?_
      obtain ⟨hin, hf⟩ := pw_gd hf
      refine va_sld hx hb hX hbl hbA hw.2 hin dL_law_801 ?_
      refine lv_aload_n hx hb dL_law_802 rfl (lv_at hl 0 rfl) ?_
      refine lv_iload_n hx hb dL_law_803 rfl (lv_at hl 3 rfl) ?_
      refine lv_iconst (v := 2) hx hb dL_law_804 (by decide) ?_
      refine lv_iadd hx hb dL_law_805 ?_
      obtain ⟨hin, hf⟩ := pw_gd hf
      refine va_sld hx hb hX hbl hbA hw.2 hin dL_law_806 ?_
      refine lv_aload_n hx hb dL_law_807 rfl (lv_at hl 0 rfl) ?_
      refine lv_iload_n hx hb dL_law_808 rfl (lv_at hl 3 rfl) ?_
      refine lv_iconst (v := 3) hx hb dL_law_809 (by decide) ?_
      refine lv_iadd hx hb dL_law_810 ?_
      obtain ⟨hin, hf⟩ := pw_gd hf
      refine va_sld hx hb hX hbl hbA hw.2 hin dL_law_811 ?_
      obtain ⟨r38, σ38, h38, hf⟩ := pw_bi_some hf
      refine pw_ci hw (pw_runV (As := [.int (xs (x3 + (1 : Int32)).toNatClampNeg), .int (xs (x3 + (2 : Int32)).toNatClampNeg), .int (xs (x3 + (3 : Int32)).toNatClampNeg)]) (rest := [.int r37]) hC hw (c_X11_part_  h38) mw_966 wm_X11_part_ ⟨Nat.le_refl _, Nat.le_refl _⟩ ⟨rfl, rfl, Nat.le_of_ble_eq_true rfl, Nat.le_of_ble_eq_true rfl⟩ (by decide) rfl rfl rfl hl.1 rfl (Nat.le_of_ble_eq_true rfl) dL_law_812) (fun H locs hw => ?_)
      refine lv_icmp_eq (tgt := 1222) hx hb dL_law_815 (by decide) (fun hc => ?_) (fun hc => ?_)
      · replace hf := pw_ifp hc hf
        refine lv_iinc (v := (x3 + (5 : Int32))) (lv' := [(3, .int (x3 + (5 : Int32))), (0, .ref b), (1, .ref (pw_ad G 0)), (2, .ref (pw_ad G 10))]) hx hb dL_law_1222 hl (k := 3) rfl rfl (by decide) rfl (fun ls hl => ?_)
        refine lv_goto (tgt := 18) hx hb dL_law_1225 (by decide) ?_
        exact hk18 _ _ _ _ _ hw (lv_sub hl [1, 2, 3, 0] rfl) hf
      · replace hf := pw_ifn hc hf
        refine lv_iconst (v := 0) hx hb dL_law_818 (by decide) ?_
        cases hf
    replace hf := pw_ifn hc18 hf
    by_cases hc19 : ((xs x3.toNatClampNeg) &&& (63 : Int32)) = 19
    · replace hf := pw_ifp hc19 hf
      refine lv_tableIn (off := 788) (tgt := 820) hx hb dL_law_32 (by rw [hc19]; decide) (by rw [hc19]; decide) (by rw [hc19]; decide) (by decide) ?_
      refine lv_aload_n hx hb dL_law_820 rfl (lv_at hl 1 rfl) ?_
      refine lv_aload_n hx hb dL_law_821 rfl (lv_at hl 0 rfl) ?_
      refine lv_iload_n hx hb dL_law_822 rfl (lv_at hl 3 rfl) ?_
      refine lv_iconst (v := 1) hx hb dL_law_823 (by decide) ?_
      refine lv_iadd hx hb dL_law_824 ?_
      obtain ⟨hin, hf⟩ := pw_gd hf
      refine va_sld hx hb hX hbl hbA hw.2 hin dL_law_825 ?_
      obtain ⟨r39, σ39, h39, hf⟩ := pw_bi_some hf
      refine pw_ci hw (pw_runV (As := [.int (xs (x3 + (1 : Int32)).toNatClampNeg)]) (rest := []) hC hw (c_X10_op  h39) mw_563 wm_X10_op ⟨Nat.le_refl _, Nat.le_refl _⟩ ⟨rfl, rfl, Nat.le_of_ble_eq_true rfl, Nat.le_of_ble_eq_true rfl⟩ (by decide) rfl rfl rfl hl.1 rfl (Nat.le_of_ble_eq_true rfl) dL_law_826) (fun H locs hw => ?_)
      refine lv_aload_n hx hb dL_law_829 rfl (lv_at hl 2 rfl) ?_
      refine lv_aload_n hx hb dL_law_830 rfl (lv_at hl 0 rfl) ?_
      refine lv_iload_n hx hb dL_law_831 rfl (lv_at hl 3 rfl) ?_
      refine lv_iconst (v := 1) hx hb dL_law_832 (by decide) ?_
      refine lv_iadd hx hb dL_law_833 ?_
      obtain ⟨hin, hf⟩ := pw_gd hf
      refine va_sld hx hb hX hbl hbA hw.2 hin dL_law_834 ?_
      obtain ⟨r40, σ40, h40, hf⟩ := pw_bi_some hf
      refine pw_ci hw (pw_runV (As := [.int (xs (x3 + (1 : Int32)).toNatClampNeg)]) (rest := [.int r39]) hC hw (c_X11_op  h40) mw_970 wm_X11_op ⟨Nat.le_refl _, Nat.le_refl _⟩ ⟨rfl, rfl, Nat.le_of_ble_eq_true rfl, Nat.le_of_ble_eq_true rfl⟩ (by decide) rfl rfl rfl hl.1 rfl (Nat.le_of_ble_eq_true rfl) dL_law_835) (fun H locs hw => ?_)
      refine lv_icmp_eq (tgt := 1222) hx hb dL_law_838 (by decide) (fun hc => ?_) (fun hc => ?_)
      · replace hf := pw_ifp hc hf
        refine lv_iinc (v := (x3 + (5 : Int32))) (lv' := [(3, .int (x3 + (5 : Int32))), (0, .ref b), (1, .ref (pw_ad G 0)), (2, .ref (pw_ad G 10))]) hx hb dL_law_1222 hl (k := 3) rfl rfl (by decide) rfl (fun ls hl => ?_)
        refine lv_goto (tgt := 18) hx hb dL_law_1225 (by decide) ?_
        exact hk18 _ _ _ _ _ hw (lv_sub hl [1, 2, 3, 0] rfl) hf
      · replace hf := pw_ifn hc hf
        refine lv_iconst (v := 0) hx hb dL_law_841 (by decide) ?_
        cases hf
    replace hf := pw_ifn hc19 hf
    by_cases hc20 : ((xs x3.toNatClampNeg) &&& (63 : Int32)) = 20
    · replace hf := pw_ifp hc20 hf
      refine lv_tableIn (off := 811) (tgt := 843) hx hb dL_law_32 (by rw [hc20]; decide) (by rw [hc20]; decide) (by rw [hc20]; decide) (by decide) ?_
      refine lv_aload_n hx hb dL_law_843 rfl (lv_at hl 1 rfl) ?_
      obtain ⟨r41, σ41, h41, hf⟩ := pw_bi_some hf
      refine pw_ci hw (pw_runV (As := []) (rest := []) hC hw (c_X10_condition  h41) mw_584 wm_X10_condition ⟨Nat.le_refl _, Nat.le_refl _⟩ ⟨rfl, rfl, Nat.le_of_ble_eq_true rfl, Nat.le_of_ble_eq_true rfl⟩ (by decide) rfl rfl rfl hl.1 rfl (Nat.le_of_ble_eq_true rfl) dL_law_844) (fun H locs hw => ?_)
      refine lv_aload_n hx hb dL_law_847 rfl (lv_at hl 2 rfl) ?_
      obtain ⟨r42, σ42, h42, hf⟩ := pw_bi_some hf
      refine pw_ci hw (pw_runV (As := []) (rest := [.int r41]) hC hw (c_X11_condition  h42) mw_978 wm_X11_condition ⟨Nat.le_refl _, Nat.le_refl _⟩ ⟨rfl, rfl, Nat.le_of_ble_eq_true rfl, Nat.le_of_ble_eq_true rfl⟩ (by decide) rfl rfl rfl hl.1 rfl (Nat.le_of_ble_eq_true rfl) dL_law_848) (fun H locs hw => ?_)
      refine lv_icmp_eq (tgt := 1222) hx hb dL_law_851 (by decide) (fun hc => ?_) (fun hc => ?_)
      · replace hf := pw_ifp hc hf
        refine lv_iinc (v := (x3 + (5 : Int32))) (lv' := [(3, .int (x3 + (5 : Int32))), (0, .ref b), (1, .ref (pw_ad G 0)), (2, .ref (pw_ad G 10))]) hx hb dL_law_1222 hl (k := 3) rfl rfl (by decide) rfl (fun ls hl => ?_)
        refine lv_goto (tgt := 18) hx hb dL_law_1225 (by decide) ?_
        exact hk18 _ _ _ _ _ hw (lv_sub hl [1, 2, 3, 0] rfl) hf
      · replace hf := pw_ifn hc hf
        refine lv_iconst (v := 0) hx hb dL_law_854 (by decide) ?_
        cases hf
    replace hf := pw_ifn hc20 hf
    by_cases hc21 : ((xs x3.toNatClampNeg) &&& (63 : Int32)) = 21
    · replace hf := pw_ifp hc21 hf
      refine lv_tableIn (off := 824) (tgt := 856) hx hb dL_law_32 (by rw [hc21]; decide) (by rw [hc21]; decide) (by rw [hc21]; decide) (by decide) ?_
      refine lv_aload_n hx hb dL_law_856 rfl (lv_at hl 1 rfl) ?_
      refine lv_aload_n hx hb dL_law_857 rfl (lv_at hl 0 rfl) ?_
      refine lv_iload_n hx hb dL_law_858 rfl (lv_at hl 3 rfl) ?_
      refine lv_iconst (v := 1) hx hb dL_law_859 (by decide) ?_
      refine lv_iadd hx hb dL_law_860 ?_
      obtain ⟨hin, hf⟩ := pw_gd hf
      refine va_sld hx hb hX hbl hbA hw.2 hin dL_law_861 ?_
      obtain ⟨r43, σ43, h43, hf⟩ := pw_bi_some hf
      refine pw_ci hw (pw_runV (As := [.int (xs (x3 + (1 : Int32)).toNatClampNeg)]) (rest := []) hC hw (c_X10_clear  h43) mw_593 wm_X10_clear ⟨Nat.le_refl _, Nat.le_refl _⟩ ⟨rfl, rfl, Nat.le_of_ble_eq_true rfl, Nat.le_of_ble_eq_true rfl⟩ (by decide) rfl rfl rfl hl.1 rfl (Nat.le_of_ble_eq_true rfl) dL_law_862) (fun H locs hw => ?_)
      refine lv_aload_n hx hb dL_law_865 rfl (lv_at hl 2 rfl) ?_
      refine lv_aload_n hx hb dL_law_866 rfl (lv_at hl 0 rfl) ?_
      refine lv_iload_n hx hb dL_law_867 rfl (lv_at hl 3 rfl) ?_
      refine lv_iconst (v := 1) hx hb dL_law_868 (by decide) ?_
      refine lv_iadd hx hb dL_law_869 ?_
      obtain ⟨hin, hf⟩ := pw_gd hf
      refine va_sld hx hb hX hbl hbA hw.2 hin dL_law_870 ?_
      obtain ⟨r44, σ44, h44, hf⟩ := pw_bi_some hf
      refine pw_ci hw (pw_runV (As := [.int (xs (x3 + (1 : Int32)).toNatClampNeg)]) (rest := [.int r43]) hC hw (c_X11_clear  h44) mw_982 wm_X11_clear ⟨Nat.le_refl _, Nat.le_refl _⟩ ⟨rfl, rfl, Nat.le_of_ble_eq_true rfl, Nat.le_of_ble_eq_true rfl⟩ (by decide) rfl rfl rfl hl.1 rfl (Nat.le_of_ble_eq_true rfl) dL_law_871) (fun H locs hw => ?_)
      refine lv_icmp_eq (tgt := 1222) hx hb dL_law_874 (by decide) (fun hc => ?_) (fun hc => ?_)
      · replace hf := pw_ifp hc hf
        refine lv_iinc (v := (x3 + (5 : Int32))) (lv' := [(3, .int (x3 + (5 : Int32))), (0, .ref b), (1, .ref (pw_ad G 0)), (2, .ref (pw_ad G 10))]) hx hb dL_law_1222 hl (k := 3) rfl rfl (by decide) rfl (fun ls hl => ?_)
        refine lv_goto (tgt := 18) hx hb dL_law_1225 (by decide) ?_
        exact hk18 _ _ _ _ _ hw (lv_sub hl [1, 2, 3, 0] rfl) hf
      · replace hf := pw_ifn hc hf
        refine lv_iconst (v := 0) hx hb dL_law_877 (by decide) ?_
        cases hf
    replace hf := pw_ifn hc21 hf
    by_cases hc22 : ((xs x3.toNatClampNeg) &&& (63 : Int32)) = 22
    · replace hf := pw_ifp hc22 hf
      refine lv_tableIn (off := 847) (tgt := 879) hx hb dL_law_32 (by rw [hc22]; decide) (by rw [hc22]; decide) (by rw [hc22]; decide) (by decide) ?_
      refine lv_aload_n hx hb dL_law_879 rfl (lv_at hl 1 rfl) ?_
      refine lv_aload_n hx hb dL_law_880 rfl (lv_at hl 0 rfl) ?_
      refine lv_iload_n hx hb dL_law_881 rfl (lv_at hl 3 rfl) ?_
      refine lv_iconst (v := 1) hx hb dL_law_882 (by decide) ?_
      refine lv_iadd hx hb dL_law_883 ?_
      obtain ⟨hin, hf⟩ := pw_gd hf
      refine va_sld hx hb hX hbl hbA hw.2 hin dL_law_884 ?_
      refine lv_aload_n hx hb dL_law_885 rfl (lv_at hl 0 rfl) ?_
      refine lv_iload_n hx hb dL_law_886 rfl (lv_at hl 3 rfl) ?_
      refine lv_iconst (v := 2) hx hb dL_law_887 (by decide) ?_
      refine lv_iadd hx hb dL_law_888 ?_
      obtain ⟨hin, hf⟩ := pw_gd hf
      refine va_sld hx hb hX hbl hbA hw.2 hin dL_law_889 ?_
      obtain ⟨r45, σ45, h45, hf⟩ := pw_bi_some hf
      refine pw_ci hw (pw_runV (As := [.int (xs (x3 + (1 : Int32)).toNatClampNeg), .int (xs (x3 + (2 : Int32)).toNatClampNeg)]) (rest := []) hC hw (c_X10_value  h45) mw_597 wm_X10_value ⟨Nat.le_refl _, Nat.le_refl _⟩ ⟨rfl, rfl, Nat.le_of_ble_eq_true rfl, Nat.le_of_ble_eq_true rfl⟩ (by decide) rfl rfl rfl hl.1 rfl (Nat.le_of_ble_eq_true rfl) dL_law_890) (fun H locs hw => ?_)
      refine lv_aload_n hx hb dL_law_893 rfl (lv_at hl 2 rfl) ?_
      refine lv_aload_n hx hb dL_law_894 rfl (lv_at hl 0 rfl) ?_
      refine lv_iload_n hx hb dL_law_895 rfl (lv_at hl 3 rfl) ?_
      refine lv_iconst (v := 1) hx hb dL_law_896 (by decide) ?_
      refine lv_iadd hx hb dL_law_897 ?_
      obtain ⟨hin, hf⟩ := pw_gd hf
      refine va_sld hx hb hX hbl hbA hw.2 hin dL_law_898 ?_
      refine lv_aload_n hx hb dL_law_899 rfl (lv_at hl 0 rfl) ?_
      refine lv_iload_n hx hb dL_law_900 rfl (lv_at hl 3 rfl) ?_
      refine lv_iconst (v := 2) hx hb dL_law_901 (by decide) ?_
      refine lv_iadd hx hb dL_law_902 ?_
      obtain ⟨hin, hf⟩ := pw_gd hf
      refine va_sld hx hb hX hbl hbA hw.2 hin dL_law_903 ?_
      obtain ⟨r46, σ46, h46, hf⟩ := pw_bi_some hf
      refine pw_ci hw (pw_runV (As := [.int (xs (x3 + (1 : Int32)).toNatClampNeg), .int (xs (x3 + (2 : Int32)).toNatClampNeg)]) (rest := [.int r45]) hC hw (c_X11_value  h46) mw_986 wm_X11_value ⟨Nat.le_refl _, Nat.le_refl _⟩ ⟨rfl, rfl, Nat.le_of_ble_eq_true rfl, Nat.le_of_ble_eq_true rfl⟩ (by decide) rfl rfl rfl hl.1 rfl (Nat.le_of_ble_eq_true rfl) dL_law_904) (fun H locs hw => ?_)
      refine lv_icmp_eq (tgt := 1222) hx hb dL_law_907 (by decide) (fun hc => ?_) (fun hc => ?_)
      · replace hf := pw_ifp hc hf
        refine lv_iinc (v := (x3 + (5 : Int32))) (lv' := [(3, .int (x3 + (5 : Int32))), (0, .ref b), (1, .ref (pw_ad G 0)), (2, .ref (pw_ad G 10))]) hx hb dL_law_1222 hl (k := 3) rfl rfl (by decide) rfl (fun ls hl => ?_)
        refine lv_goto (tgt := 18) hx hb dL_law_1225 (by decide) ?_
        exact hk18 _ _ _ _ _ hw (lv_sub hl [1, 2, 3, 0] rfl) hf
      · replace hf := pw_ifn hc hf
        refine lv_iconst (v := 0) hx hb dL_law_910 (by decide) ?_
        cases hf
    replace hf := pw_ifn hc22 hf
    by_cases hc23 : ((xs x3.toNatClampNeg) &&& (63 : Int32)) = 23
    · replace hf := pw_ifp hc23 hf
      refine lv_tableIn (off := 880) (tgt := 912) hx hb dL_law_32 (by rw [hc23]; decide) (by rw [hc23]; decide) (by rw [hc23]; decide) (by decide) ?_
      refine lv_aload_n hx hb dL_law_912 rfl (lv_at hl 1 rfl) ?_
      obtain ⟨r47, σ47, h47, hf⟩ := pw_bi_some hf
      refine pw_ci hw (pw_runV (As := []) (rest := []) hC hw (c_X10_status  h47) mw_623 wm_X10_status ⟨Nat.le_refl _, Nat.le_refl _⟩ ⟨rfl, rfl, Nat.le_of_ble_eq_true rfl, Nat.le_of_ble_eq_true rfl⟩ (by decide) rfl rfl rfl hl.1 rfl (Nat.le_of_ble_eq_true rfl) dL_law_913) (fun H locs hw => ?_)
      refine lv_aload_n hx hb dL_law_916 rfl (lv_at hl 2 rfl) ?_
      obtain ⟨r48, σ48, h48, hf⟩ := pw_bi_some hf
      refine pw_ci hw (pw_runV (As := []) (rest := [.int r47]) hC hw (c_X11_status  h48) mw_1005 wm_X11_status ⟨Nat.le_refl _, Nat.le_refl _⟩ ⟨rfl, rfl, Nat.le_of_ble_eq_true rfl, Nat.le_of_ble_eq_true rfl⟩ (by decide) rfl rfl rfl hl.1 rfl (Nat.le_of_ble_eq_true rfl) dL_law_917) (fun H locs hw => ?_)
      refine lv_icmp_eq (tgt := 1222) hx hb dL_law_920 (by decide) (fun hc => ?_) (fun hc => ?_)
      · replace hf := pw_ifp hc hf
        refine lv_iinc (v := (x3 + (5 : Int32))) (lv' := [(3, .int (x3 + (5 : Int32))), (0, .ref b), (1, .ref (pw_ad G 0)), (2, .ref (pw_ad G 10))]) hx hb dL_law_1222 hl (k := 3) rfl rfl (by decide) rfl (fun ls hl => ?_)
        refine lv_goto (tgt := 18) hx hb dL_law_1225 (by decide) ?_
        exact hk18 _ _ _ _ _ hw (lv_sub hl [1, 2, 3, 0] rfl) hf
      · replace hf := pw_ifn hc hf
        refine lv_iconst (v := 0) hx hb dL_law_923 (by decide) ?_
        cases hf
    replace hf := pw_ifn hc23 hf
    by_cases hc24 : ((xs x3.toNatClampNeg) &&& (63 : Int32)) = 24
    · replace hf := pw_ifp hc24 hf
      refine lv_tableIn (off := 893) (tgt := 925) hx hb dL_law_32 (by rw [hc24]; decide) (by rw [hc24]; decide) (by rw [hc24]; decide) (by decide) ?_
      refine lv_aload_n hx hb dL_law_925 rfl (lv_at hl 1 rfl) ?_
      refine lv_aload_n hx hb dL_law_926 rfl (lv_at hl 0 rfl) ?_
      refine lv_iload_n hx hb dL_law_927 rfl (lv_at hl 3 rfl) ?_
      refine lv_iconst (v := 1) hx hb dL_law_928 (by decide) ?_
      refine lv_iadd hx hb dL_law_929 ?_
      obtain ⟨hin, hf⟩ := pw_gd hf
      refine va_sld hx hb hX hbl hbA hw.2 hin dL_law_930 ?_
      obtain ⟨r49, σ49, h49, hf⟩ := pw_bi_some hf
      refine pw_ci hw (pw_runV (As := [.int (xs (x3 + (1 : Int32)).toNatClampNeg)]) (rest := []) hC hw (c_X10_may  h49) mw_627 wm_X10_may ⟨Nat.le_refl _, Nat.le_refl _⟩ ⟨rfl, rfl, Nat.le_of_ble_eq_true rfl, Nat.le_of_ble_eq_true rfl⟩ (by decide) rfl rfl rfl hl.1 rfl (Nat.le_of_ble_eq_true rfl) dL_law_931) (fun H locs hw => ?_)
      refine lv_aload_n hx hb dL_law_934 rfl (lv_at hl 2 rfl) ?_
      refine lv_aload_n hx hb dL_law_935 rfl (lv_at hl 0 rfl) ?_
      refine lv_iload_n hx hb dL_law_936 rfl (lv_at hl 3 rfl) ?_
      refine lv_iconst (v := 1) hx hb dL_law_937 (by decide) ?_
      refine lv_iadd hx hb dL_law_938 ?_
      obtain ⟨hin, hf⟩ := pw_gd hf
      refine va_sld hx hb hX hbl hbA hw.2 hin dL_law_939 ?_
      obtain ⟨r50, σ50, h50, hf⟩ := pw_bi_some hf
      refine pw_ci hw (pw_runV (As := [.int (xs (x3 + (1 : Int32)).toNatClampNeg)]) (rest := [.int r49]) hC hw (c_X11_may  h50) mw_1009 wm_X11_may ⟨Nat.le_refl _, Nat.le_refl _⟩ ⟨rfl, rfl, Nat.le_of_ble_eq_true rfl, Nat.le_of_ble_eq_true rfl⟩ (by decide) rfl rfl rfl hl.1 rfl (Nat.le_of_ble_eq_true rfl) dL_law_940) (fun H locs hw => ?_)
      refine lv_icmp_eq (tgt := 1222) hx hb dL_law_943 (by decide) (fun hc => ?_) (fun hc => ?_)
      · replace hf := pw_ifp hc hf
        refine lv_iinc (v := (x3 + (5 : Int32))) (lv' := [(3, .int (x3 + (5 : Int32))), (0, .ref b), (1, .ref (pw_ad G 0)), (2, .ref (pw_ad G 10))]) hx hb dL_law_1222 hl (k := 3) rfl rfl (by decide) rfl (fun ls hl => ?_)
        refine lv_goto (tgt := 18) hx hb dL_law_1225 (by decide) ?_
        exact hk18 _ _ _ _ _ hw (lv_sub hl [1, 2, 3, 0] rfl) hf
      · replace hf := pw_ifn hc hf
        refine lv_iconst (v := 0) hx hb dL_law_946 (by decide) ?_
        cases hf
    replace hf := pw_ifn hc24 hf
    by_cases hc25 : ((xs x3.toNatClampNeg) &&& (63 : Int32)) = 25
    · replace hf := pw_ifp hc25 hf
      refine lv_tableIn (off := 916) (tgt := 948) hx hb dL_law_32 (by rw [hc25]; decide) (by rw [hc25]; decide) (by rw [hc25]; decide) (by decide) ?_
      refine lv_aload_n hx hb dL_law_948 rfl (lv_at hl 1 rfl) ?_
      refine lv_aload_n hx hb dL_law_949 rfl (lv_at hl 0 rfl) ?_
      refine lv_iload_n hx hb dL_law_950 rfl (lv_at hl 3 rfl) ?_
      refine lv_iconst (v := 1) hx hb dL_law_951 (by decide) ?_
      refine lv_iadd hx hb dL_law_952 ?_
      obtain ⟨hin, hf⟩ := pw_gd hf
      refine va_sld hx hb hX hbl hbA hw.2 hin dL_law_953 ?_
      obtain ⟨r51, σ51, h51, hf⟩ := pw_bi_some hf
      refine pw_ci hw (pw_runV (As := [.int (xs (x3 + (1 : Int32)).toNatClampNeg)]) (rest := []) hC hw (c_X10_last  h51) mw_644 wm_X10_last ⟨Nat.le_refl _, Nat.le_refl _⟩ ⟨rfl, rfl, Nat.le_of_ble_eq_true rfl, Nat.le_of_ble_eq_true rfl⟩ (by decide) rfl rfl rfl hl.1 rfl (Nat.le_of_ble_eq_true rfl) dL_law_954) (fun H locs hw => ?_)
      refine lv_aload_n hx hb dL_law_957 rfl (lv_at hl 2 rfl) ?_
      refine lv_aload_n hx hb dL_law_958 rfl (lv_at hl 0 rfl) ?_
      refine lv_iload_n hx hb dL_law_959 rfl (lv_at hl 3 rfl) ?_
      refine lv_iconst (v := 1) hx hb dL_law_960 (by decide) ?_
      refine lv_iadd hx hb dL_law_961 ?_
      obtain ⟨hin, hf⟩ := pw_gd hf
      refine va_sld hx hb hX hbl hbA hw.2 hin dL_law_962 ?_
      obtain ⟨r52, σ52, h52, hf⟩ := pw_bi_some hf
      refine pw_ci hw (pw_runV (As := [.int (xs (x3 + (1 : Int32)).toNatClampNeg)]) (rest := [.int r51]) hC hw (c_X11_last  h52) mw_1021 wm_X11_last ⟨Nat.le_refl _, Nat.le_refl _⟩ ⟨rfl, rfl, Nat.le_of_ble_eq_true rfl, Nat.le_of_ble_eq_true rfl⟩ (by decide) rfl rfl rfl hl.1 rfl (Nat.le_of_ble_eq_true rfl) dL_law_963) (fun H locs hw => ?_)
      refine lv_icmp_eq (tgt := 1222) hx hb dL_law_966 (by decide) (fun hc => ?_) (fun hc => ?_)
      · replace hf := pw_ifp hc hf
        refine lv_iinc (v := (x3 + (5 : Int32))) (lv' := [(3, .int (x3 + (5 : Int32))), (0, .ref b), (1, .ref (pw_ad G 0)), (2, .ref (pw_ad G 10))]) hx hb dL_law_1222 hl (k := 3) rfl rfl (by decide) rfl (fun ls hl => ?_)
        refine lv_goto (tgt := 18) hx hb dL_law_1225 (by decide) ?_
        exact hk18 _ _ _ _ _ hw (lv_sub hl [1, 2, 3, 0] rfl) hf
      · replace hf := pw_ifn hc hf
        refine lv_iconst (v := 0) hx hb dL_law_969 (by decide) ?_
        cases hf
    replace hf := pw_ifn hc25 hf
    by_cases hc26 : ((xs x3.toNatClampNeg) &&& (63 : Int32)) = 26
    · replace hf := pw_ifp hc26 hf
      refine lv_tableIn (off := 939) (tgt := 971) hx hb dL_law_32 (by rw [hc26]; decide) (by rw [hc26]; decide) (by rw [hc26]; decide) (by decide) ?_
      refine lv_aload_n hx hb dL_law_971 rfl (lv_at hl 1 rfl) ?_
      refine lv_aload_n hx hb dL_law_972 rfl (lv_at hl 0 rfl) ?_
      refine lv_iload_n hx hb dL_law_973 rfl (lv_at hl 3 rfl) ?_
      refine lv_iconst (v := 1) hx hb dL_law_974 (by decide) ?_
      refine lv_iadd hx hb dL_law_975 ?_
      obtain ⟨hin, hf⟩ := pw_gd hf
      refine va_sld hx hb hX hbl hbA hw.2 hin dL_law_976 ?_
      obtain ⟨r53, σ53, h53, hf⟩ := pw_bi_some hf
      refine pw_ci hw (pw_runV (As := [.int (xs (x3 + (1 : Int32)).toNatClampNeg)]) (rest := []) hC hw (c_X10_many  h53) mw_652 wm_X10_many ⟨Nat.le_refl _, Nat.le_refl _⟩ ⟨rfl, rfl, Nat.le_of_ble_eq_true rfl, Nat.le_of_ble_eq_true rfl⟩ (by decide) rfl rfl rfl hl.1 rfl (Nat.le_of_ble_eq_true rfl) dL_law_977) (fun H locs hw => ?_)
      refine lv_aload_n hx hb dL_law_980 rfl (lv_at hl 2 rfl) ?_
      refine lv_aload_n hx hb dL_law_981 rfl (lv_at hl 0 rfl) ?_
      refine lv_iload_n hx hb dL_law_982 rfl (lv_at hl 3 rfl) ?_
      refine lv_iconst (v := 1) hx hb dL_law_983 (by decide) ?_
      refine lv_iadd hx hb dL_law_984 ?_
      obtain ⟨hin, hf⟩ := pw_gd hf
      refine va_sld hx hb hX hbl hbA hw.2 hin dL_law_985 ?_
      obtain ⟨r54, σ54, h54, hf⟩ := pw_bi_some hf
      refine pw_ci hw (pw_runV (As := [.int (xs (x3 + (1 : Int32)).toNatClampNeg)]) (rest := [.int r53]) hC hw (c_X11_many  h54) mw_1025 wm_X11_many ⟨Nat.le_refl _, Nat.le_refl _⟩ ⟨rfl, rfl, Nat.le_of_ble_eq_true rfl, Nat.le_of_ble_eq_true rfl⟩ (by decide) rfl rfl rfl hl.1 rfl (Nat.le_of_ble_eq_true rfl) dL_law_986) (fun H locs hw => ?_)
      refine lv_icmp_eq (tgt := 1222) hx hb dL_law_989 (by decide) (fun hc => ?_) (fun hc => ?_)
      · replace hf := pw_ifp hc hf
        refine lv_iinc (v := (x3 + (5 : Int32))) (lv' := [(3, .int (x3 + (5 : Int32))), (0, .ref b), (1, .ref (pw_ad G 0)), (2, .ref (pw_ad G 10))]) hx hb dL_law_1222 hl (k := 3) rfl rfl (by decide) rfl (fun ls hl => ?_)
        refine lv_goto (tgt := 18) hx hb dL_law_1225 (by decide) ?_
        exact hk18 _ _ _ _ _ hw (lv_sub hl [1, 2, 3, 0] rfl) hf
      · replace hf := pw_ifn hc hf
        refine lv_iconst (v := 0) hx hb dL_law_992 (by decide) ?_
        cases hf
    replace hf := pw_ifn hc26 hf
    by_cases hc27 : ((xs x3.toNatClampNeg) &&& (63 : Int32)) = 27
    · replace hf := pw_ifp hc27 hf
      refine lv_tableIn (off := 962) (tgt := 994) hx hb dL_law_32 (by rw [hc27]; decide) (by rw [hc27]; decide) (by rw [hc27]; decide) (by decide) ?_
      refine lv_aload_n hx hb dL_law_994 rfl (lv_at hl 1 rfl) ?_
      refine lv_aload_n hx hb dL_law_995 rfl (lv_at hl 0 rfl) ?_
      refine lv_iload_n hx hb dL_law_996 rfl (lv_at hl 3 rfl) ?_
      refine lv_iconst (v := 1) hx hb dL_law_997 (by decide) ?_
      refine lv_iadd hx hb dL_law_998 ?_
      obtain ⟨hin, hf⟩ := pw_gd hf
      refine va_sld hx hb hX hbl hbA hw.2 hin dL_law_999 ?_
      obtain ⟨r55, σ55, h55, hf⟩ := pw_bi_some hf
      refine pw_ci hw (pw_runV (As := [.int (xs (x3 + (1 : Int32)).toNatClampNeg)]) (rest := []) hC hw (c_X10_sure  h55) mw_660 wm_X10_sure ⟨Nat.le_refl _, Nat.le_refl _⟩ ⟨rfl, rfl, Nat.le_of_ble_eq_true rfl, Nat.le_of_ble_eq_true rfl⟩ (by decide) rfl rfl rfl hl.1 rfl (Nat.le_of_ble_eq_true rfl) dL_law_1000) (fun H locs hw => ?_)
      refine lv_aload_n hx hb dL_law_1003 rfl (lv_at hl 2 rfl) ?_
      refine lv_aload_n hx hb dL_law_1004 rfl (lv_at hl 0 rfl) ?_
      refine lv_iload_n hx hb dL_law_1005 rfl (lv_at hl 3 rfl) ?_
      refine lv_iconst (v := 1) hx hb dL_law_1006 (by decide) ?_
      refine lv_iadd hx hb dL_law_1007 ?_
      obtain ⟨hin, hf⟩ := pw_gd hf
      refine va_sld hx hb hX hbl hbA hw.2 hin dL_law_1008 ?_
      obtain ⟨r56, σ56, h56, hf⟩ := pw_bi_some hf
      refine pw_ci hw (pw_runV (As := [.int (xs (x3 + (1 : Int32)).toNatClampNeg)]) (rest := [.int r55]) hC hw (c_X11_sure  h56) mw_1029 wm_X11_sure ⟨Nat.le_refl _, Nat.le_refl _⟩ ⟨rfl, rfl, Nat.le_of_ble_eq_true rfl, Nat.le_of_ble_eq_true rfl⟩ (by decide) rfl rfl rfl hl.1 rfl (Nat.le_of_ble_eq_true rfl) dL_law_1009) (fun H locs hw => ?_)
      refine lv_icmp_eq (tgt := 1222) hx hb dL_law_1012 (by decide) (fun hc => ?_) (fun hc => ?_)
      · replace hf := pw_ifp hc hf
        refine lv_iinc (v := (x3 + (5 : Int32))) (lv' := [(3, .int (x3 + (5 : Int32))), (0, .ref b), (1, .ref (pw_ad G 0)), (2, .ref (pw_ad G 10))]) hx hb dL_law_1222 hl (k := 3) rfl rfl (by decide) rfl (fun ls hl => ?_)
        refine lv_goto (tgt := 18) hx hb dL_law_1225 (by decide) ?_
        exact hk18 _ _ _ _ _ hw (lv_sub hl [1, 2, 3, 0] rfl) hf
      · replace hf := pw_ifn hc hf
        refine lv_iconst (v := 0) hx hb dL_law_1015 (by decide) ?_
        cases hf
    replace hf := pw_ifn hc27 hf
    by_cases hc28 : ((xs x3.toNatClampNeg) &&& (63 : Int32)) = 28
    · replace hf := pw_ifp hc28 hf
      refine lv_tableIn (off := 985) (tgt := 1017) hx hb dL_law_32 (by rw [hc28]; decide) (by rw [hc28]; decide) (by rw [hc28]; decide) (by decide) ?_
      refine lv_aload_n hx hb dL_law_1017 rfl (lv_at hl 1 rfl) ?_
      refine lv_aload_n hx hb dL_law_1018 rfl (lv_at hl 0 rfl) ?_
      refine lv_iload_n hx hb dL_law_1019 rfl (lv_at hl 3 rfl) ?_
      refine lv_iconst (v := 1) hx hb dL_law_1020 (by decide) ?_
      refine lv_iadd hx hb dL_law_1021 ?_
      obtain ⟨hin, hf⟩ := pw_gd hf
      refine va_sld hx hb hX hbl hbA hw.2 hin dL_law_1022 ?_
      refine lv_aload_n hx hb dL_law_1023 rfl (lv_at hl 0 rfl) ?_
      refine lv_iload_n hx hb dL_law_1024 rfl (lv_at hl 3 rfl) ?_
      refine lv_iconst (v := 2) hx hb dL_law_1025 (by decide) ?_
      refine lv_iadd hx hb dL_law_1026 ?_
      obtain ⟨hin, hf⟩ := pw_gd hf
      refine va_sld hx hb hX hbl hbA hw.2 hin dL_law_1027 ?_
      obtain ⟨r57, σ57, h57, hf⟩ := pw_bi_some hf
      refine pw_ci hw (pw_runV (As := [.int (xs (x3 + (1 : Int32)).toNatClampNeg), .int (xs (x3 + (2 : Int32)).toNatClampNeg)]) (rest := []) hC hw (c_X10_avoid  h57) mw_669 wm_X10_avoid ⟨Nat.le_refl _, Nat.le_refl _⟩ ⟨rfl, rfl, Nat.le_of_ble_eq_true rfl, Nat.le_of_ble_eq_true rfl⟩ (by decide) rfl rfl rfl hl.1 rfl (Nat.le_of_ble_eq_true rfl) dL_law_1028) (fun H locs hw => ?_)
      refine lv_aload_n hx hb dL_law_1031 rfl (lv_at hl 2 rfl) ?_
      refine lv_aload_n hx hb dL_law_1032 rfl (lv_at hl 0 rfl) ?_
      refine lv_iload_n hx hb dL_law_1033 rfl (lv_at hl 3 rfl) ?_
      refine lv_iconst (v := 1) hx hb dL_law_1034 (by decide) ?_
      refine lv_iadd hx hb dL_law_1035 ?_
      obtain ⟨hin, hf⟩ := pw_gd hf
      refine va_sld hx hb hX hbl hbA hw.2 hin dL_law_1036 ?_
      refine lv_aload_n hx hb dL_law_1037 rfl (lv_at hl 0 rfl) ?_
      refine lv_iload_n hx hb dL_law_1038 rfl (lv_at hl 3 rfl) ?_
      refine lv_iconst (v := 2) hx hb dL_law_1039 (by decide) ?_
      refine lv_iadd hx hb dL_law_1040 ?_
      obtain ⟨hin, hf⟩ := pw_gd hf
      refine va_sld hx hb hX hbl hbA hw.2 hin dL_law_1041 ?_
      obtain ⟨r58, σ58, h58, hf⟩ := pw_bi_some hf
      refine pw_ci hw (pw_runV (As := [.int (xs (x3 + (1 : Int32)).toNatClampNeg), .int (xs (x3 + (2 : Int32)).toNatClampNeg)]) (rest := [.int r57]) hC hw (c_X11_avoid  h58) mw_1037 wm_X11_avoid ⟨Nat.le_refl _, Nat.le_refl _⟩ ⟨rfl, rfl, Nat.le_of_ble_eq_true rfl, Nat.le_of_ble_eq_true rfl⟩ (by decide) rfl rfl rfl hl.1 rfl (Nat.le_of_ble_eq_true rfl) dL_law_1042) (fun H locs hw => ?_)
      refine lv_icmp_eq (tgt := 1222) hx hb dL_law_1045 (by decide) (fun hc => ?_) (fun hc => ?_)
      · replace hf := pw_ifp hc hf
        refine lv_iinc (v := (x3 + (5 : Int32))) (lv' := [(3, .int (x3 + (5 : Int32))), (0, .ref b), (1, .ref (pw_ad G 0)), (2, .ref (pw_ad G 10))]) hx hb dL_law_1222 hl (k := 3) rfl rfl (by decide) rfl (fun ls hl => ?_)
        refine lv_goto (tgt := 18) hx hb dL_law_1225 (by decide) ?_
        exact hk18 _ _ _ _ _ hw (lv_sub hl [1, 2, 3, 0] rfl) hf
      · replace hf := pw_ifn hc hf
        refine lv_iconst (v := 0) hx hb dL_law_1048 (by decide) ?_
        cases hf
    replace hf := pw_ifn hc28 hf
    by_cases hc29 : ((xs x3.toNatClampNeg) &&& (63 : Int32)) = 29
    · replace hf := pw_ifp hc29 hf
      refine lv_tableIn (off := 1018) (tgt := 1050) hx hb dL_law_32 (by rw [hc29]; decide) (by rw [hc29]; decide) (by rw [hc29]; decide) (by decide) ?_
      refine lv_aload_n hx hb dL_law_1050 rfl (lv_at hl 1 rfl) ?_
      refine lv_aload_n hx hb dL_law_1051 rfl (lv_at hl 0 rfl) ?_
      refine lv_iload_n hx hb dL_law_1052 rfl (lv_at hl 3 rfl) ?_
      refine lv_iconst (v := 1) hx hb dL_law_1053 (by decide) ?_
      refine lv_iadd hx hb dL_law_1054 ?_
      obtain ⟨hin, hf⟩ := pw_gd hf
      refine va_sld hx hb hX hbl hbA hw.2 hin dL_law_1055 ?_
      obtain ⟨r59, σ59, h59, hf⟩ := pw_bl_some hf
      refine pw_cl hw (pw_runV (As := [.int (xs (x3 + (1 : Int32)).toNatClampNeg)]) (rest := []) hC hw (c_X10_avoids  h59) mw_673 wm_X10_avoids ⟨Nat.le_refl _, Nat.le_refl _⟩ ⟨rfl, rfl, Nat.le_of_ble_eq_true rfl, Nat.le_of_ble_eq_true rfl⟩ (by decide) rfl rfl rfl hl.1 rfl (Nat.le_of_ble_eq_true rfl) dL_law_1056) (fun H locs hw => ?_)
      refine lv_aload_n hx hb dL_law_1059 rfl (lv_at hl 2 rfl) ?_
      refine lv_aload_n hx hb dL_law_1060 rfl (lv_at hl 0 rfl) ?_
      refine lv_iload_n hx hb dL_law_1061 rfl (lv_at hl 3 rfl) ?_
      refine lv_iconst (v := 1) hx hb dL_law_1062 (by decide) ?_
      refine lv_iadd hx hb dL_law_1063 ?_
      obtain ⟨hin, hf⟩ := pw_gd hf
      refine va_sld hx hb hX hbl hbA hw.2 hin dL_law_1064 ?_
      obtain ⟨r60, σ60, h60, hf⟩ := pw_bl_some hf
      refine pw_cl hw (pw_runV (As := [.int (xs (x3 + (1 : Int32)).toNatClampNeg)]) (rest := [.long r59]) hC hw (c_X11_avoids  h60) mw_1041 wm_X11_avoids ⟨Nat.le_refl _, Nat.le_refl _⟩ ⟨rfl, rfl, Nat.le_of_ble_eq_true rfl, Nat.le_of_ble_eq_true rfl⟩ (by decide) rfl rfl rfl hl.1 rfl (Nat.le_of_ble_eq_true rfl) dL_law_1065) (fun H locs hw => ?_)
      refine W.lcmp hx hb dL_law_1068 ?_
      refine lv_if_eq (tgt := 1222) hx hb dL_law_1069 (by decide) (fun hc => ?_) (fun hc => ?_)
      · replace hf := pw_ifp hc hf
        refine lv_iinc (v := (x3 + (5 : Int32))) (lv' := [(3, .int (x3 + (5 : Int32))), (0, .ref b), (1, .ref (pw_ad G 0)), (2, .ref (pw_ad G 10))]) hx hb dL_law_1222 hl (k := 3) rfl rfl (by decide) rfl (fun ls hl => ?_)
        refine lv_goto (tgt := 18) hx hb dL_law_1225 (by decide) ?_
        exact hk18 _ _ _ _ _ hw (lv_sub hl [1, 2, 3, 0] rfl) hf
      · replace hf := pw_ifn hc hf
        refine lv_iconst (v := 0) hx hb dL_law_1072 (by decide) ?_
        cases hf
    replace hf := pw_ifn hc29 hf
    by_cases hc30 : ((xs x3.toNatClampNeg) &&& (63 : Int32)) = 30
    · replace hf := pw_ifp hc30 hf
      refine lv_tableIn (off := 1042) (tgt := 1074) hx hb dL_law_32 (by rw [hc30]; decide) (by rw [hc30]; decide) (by rw [hc30]; decide) (by decide) ?_
      refine lv_aload_n hx hb dL_law_1074 rfl (lv_at hl 1 rfl) ?_
      refine lv_aload_n hx hb dL_law_1075 rfl (lv_at hl 0 rfl) ?_
      refine lv_iload_n hx hb dL_law_1076 rfl (lv_at hl 3 rfl) ?_
      refine lv_iconst (v := 1) hx hb dL_law_1077 (by decide) ?_
      refine lv_iadd hx hb dL_law_1078 ?_
      obtain ⟨hin, hf⟩ := pw_gd hf
      refine va_sld hx hb hX hbl hbA hw.2 hin dL_law_1079 ?_
      refine lv_aload_n hx hb dL_law_1080 rfl (lv_at hl 0 rfl) ?_
      refine lv_iload_n hx hb dL_law_1081 rfl (lv_at hl 3 rfl) ?_
      refine lv_iconst (v := 2) hx hb dL_law_1082 (by decide) ?_
      refine lv_iadd hx hb dL_law_1083 ?_
      obtain ⟨hin, hf⟩ := pw_gd hf
      refine va_sld hx hb hX hbl hbA hw.2 hin dL_law_1084 ?_
      obtain ⟨r61, σ61, h61, hf⟩ := pw_bi_some hf
      refine pw_ci hw (pw_runV (As := [.int (xs (x3 + (1 : Int32)).toNatClampNeg), .int (xs (x3 + (2 : Int32)).toNatClampNeg)]) (rest := []) hC hw (c_X10_is  h61) mw_674 wm_X10_is ⟨Nat.le_refl _, Nat.le_refl _⟩ ⟨rfl, rfl, Nat.le_of_ble_eq_true rfl, Nat.le_of_ble_eq_true rfl⟩ (by decide) rfl rfl rfl hl.1 rfl (Nat.le_of_ble_eq_true rfl) dL_law_1085) (fun H locs hw => ?_)
      refine lv_aload_n hx hb dL_law_1088 rfl (lv_at hl 2 rfl) ?_
      refine lv_aload_n hx hb dL_law_1089 rfl (lv_at hl 0 rfl) ?_
      refine lv_iload_n hx hb dL_law_1090 rfl (lv_at hl 3 rfl) ?_
      refine lv_iconst (v := 1) hx hb dL_law_1091 (by decide) ?_
      refine lv_iadd hx hb dL_law_1092 ?_
      obtain ⟨hin, hf⟩ := pw_gd hf
      refine va_sld hx hb hX hbl hbA hw.2 hin dL_law_1093 ?_
      refine lv_aload_n hx hb dL_law_1094 rfl (lv_at hl 0 rfl) ?_
      refine lv_iload_n hx hb dL_law_1095 rfl (lv_at hl 3 rfl) ?_
      refine lv_iconst (v := 2) hx hb dL_law_1096 (by decide) ?_
      refine lv_iadd hx hb dL_law_1097 ?_
      obtain ⟨hin, hf⟩ := pw_gd hf
      refine va_sld hx hb hX hbl hbA hw.2 hin dL_law_1098 ?_
      obtain ⟨r62, σ62, h62, hf⟩ := pw_bi_some hf
      refine pw_ci hw (pw_runV (As := [.int (xs (x3 + (1 : Int32)).toNatClampNeg), .int (xs (x3 + (2 : Int32)).toNatClampNeg)]) (rest := [.int r61]) hC hw (c_X11_is  h62) mw_1046 wm_X11_is ⟨Nat.le_refl _, Nat.le_refl _⟩ ⟨rfl, rfl, Nat.le_of_ble_eq_true rfl, Nat.le_of_ble_eq_true rfl⟩ (by decide) rfl rfl rfl hl.1 rfl (Nat.le_of_ble_eq_true rfl) dL_law_1099) (fun H locs hw => ?_)
      refine lv_icmp_eq (tgt := 1222) hx hb dL_law_1102 (by decide) (fun hc => ?_) (fun hc => ?_)
      · replace hf := pw_ifp hc hf
        refine lv_iinc (v := (x3 + (5 : Int32))) (lv' := [(3, .int (x3 + (5 : Int32))), (0, .ref b), (1, .ref (pw_ad G 0)), (2, .ref (pw_ad G 10))]) hx hb dL_law_1222 hl (k := 3) rfl rfl (by decide) rfl (fun ls hl => ?_)
        refine lv_goto (tgt := 18) hx hb dL_law_1225 (by decide) ?_
        exact hk18 _ _ _ _ _ hw (lv_sub hl [1, 2, 3, 0] rfl) hf
      · replace hf := pw_ifn hc hf
        refine lv_iconst (v := 0) hx hb dL_law_1105 (by decide) ?_
        cases hf
    replace hf := pw_ifn hc30 hf
    by_cases hc31 : ((xs x3.toNatClampNeg) &&& (63 : Int32)) = 31
    · replace hf := pw_ifp hc31 hf
      refine lv_tableIn (off := 1075) (tgt := 1107) hx hb dL_law_32 (by rw [hc31]; decide) (by rw [hc31]; decide) (by rw [hc31]; decide) (by decide) ?_
      refine lv_aload_n hx hb dL_law_1107 rfl (lv_at hl 1 rfl) ?_
      refine lv_aload_n hx hb dL_law_1108 rfl (lv_at hl 0 rfl) ?_
      refine lv_iload_n hx hb dL_law_1109 rfl (lv_at hl 3 rfl) ?_
      refine lv_iconst (v := 1) hx hb dL_law_1110 (by decide) ?_
      refine lv_iadd hx hb dL_law_1111 ?_
      obtain ⟨hin, hf⟩ := pw_gd hf
      refine va_sld hx hb hX hbl hbA hw.2 hin dL_law_1112 ?_
      refine lv_aload_n hx hb dL_law_1113 rfl (lv_at hl 0 rfl) ?_
      refine lv_iload_n hx hb dL_law_1114 rfl (lv_at hl 3 rfl) ?_
      refine lv_iconst (v := 2) hx hb dL_law_1115 (by decide) ?_
      refine lv_iadd hx hb dL_law_1116 ?_
      obtain ⟨hin, hf⟩ := pw_gd hf
      refine va_sld hx hb hX hbl hbA hw.2 hin dL_law_1117 ?_
      obtain ⟨r63, σ63, h63, hf⟩ := pw_bi_some hf
      refine pw_ci hw (pw_runV (As := [.int (xs (x3 + (1 : Int32)).toNatClampNeg), .int (xs (x3 + (2 : Int32)).toNatClampNeg)]) (rest := []) hC hw (c_X10_before  h63) mw_700 wm_X10_before ⟨Nat.le_refl _, Nat.le_refl _⟩ ⟨rfl, rfl, Nat.le_of_ble_eq_true rfl, Nat.le_of_ble_eq_true rfl⟩ (by decide) rfl rfl rfl hl.1 rfl (Nat.le_of_ble_eq_true rfl) dL_law_1118) (fun H locs hw => ?_)
      refine lv_aload_n hx hb dL_law_1121 rfl (lv_at hl 2 rfl) ?_
      refine lv_aload_n hx hb dL_law_1122 rfl (lv_at hl 0 rfl) ?_
      refine lv_iload_n hx hb dL_law_1123 rfl (lv_at hl 3 rfl) ?_
      refine lv_iconst (v := 1) hx hb dL_law_1124 (by decide) ?_
      refine lv_iadd hx hb dL_law_1125 ?_
      obtain ⟨hin, hf⟩ := pw_gd hf
      refine va_sld hx hb hX hbl hbA hw.2 hin dL_law_1126 ?_
      refine lv_aload_n hx hb dL_law_1127 rfl (lv_at hl 0 rfl) ?_
      refine lv_iload_n hx hb dL_law_1128 rfl (lv_at hl 3 rfl) ?_
      refine lv_iconst (v := 2) hx hb dL_law_1129 (by decide) ?_
      refine lv_iadd hx hb dL_law_1130 ?_
      obtain ⟨hin, hf⟩ := pw_gd hf
      refine va_sld hx hb hX hbl hbA hw.2 hin dL_law_1131 ?_
      obtain ⟨r64, σ64, h64, hf⟩ := pw_bi_some hf
      refine pw_ci hw (pw_runV (As := [.int (xs (x3 + (1 : Int32)).toNatClampNeg), .int (xs (x3 + (2 : Int32)).toNatClampNeg)]) (rest := [.int r63]) hC hw (c_X11_before  h64) mw_1058 wm_X11_before ⟨Nat.le_refl _, Nat.le_refl _⟩ ⟨rfl, rfl, Nat.le_of_ble_eq_true rfl, Nat.le_of_ble_eq_true rfl⟩ (by decide) rfl rfl rfl hl.1 rfl (Nat.le_of_ble_eq_true rfl) dL_law_1132) (fun H locs hw => ?_)
      refine lv_icmp_eq (tgt := 1222) hx hb dL_law_1135 (by decide) (fun hc => ?_) (fun hc => ?_)
      · replace hf := pw_ifp hc hf
        refine lv_iinc (v := (x3 + (5 : Int32))) (lv' := [(3, .int (x3 + (5 : Int32))), (0, .ref b), (1, .ref (pw_ad G 0)), (2, .ref (pw_ad G 10))]) hx hb dL_law_1222 hl (k := 3) rfl rfl (by decide) rfl (fun ls hl => ?_)
        refine lv_goto (tgt := 18) hx hb dL_law_1225 (by decide) ?_
        exact hk18 _ _ _ _ _ hw (lv_sub hl [1, 2, 3, 0] rfl) hf
      · replace hf := pw_ifn hc hf
        refine lv_iconst (v := 0) hx hb dL_law_1138 (by decide) ?_
        cases hf
    replace hf := pw_ifn hc31 hf
    by_cases hc32 : ((xs x3.toNatClampNeg) &&& (63 : Int32)) = 32
    · replace hf := pw_ifp hc32 hf
      refine lv_tableIn (off := 1108) (tgt := 1140) hx hb dL_law_32 (by rw [hc32]; decide) (by rw [hc32]; decide) (by rw [hc32]; decide) (by decide) ?_
      refine lv_aload_n hx hb dL_law_1140 rfl (lv_at hl 1 rfl) ?_
      refine lv_aload_n hx hb dL_law_1141 rfl (lv_at hl 0 rfl) ?_
      refine lv_iload_n hx hb dL_law_1142 rfl (lv_at hl 3 rfl) ?_
      refine lv_iconst (v := 1) hx hb dL_law_1143 (by decide) ?_
      refine lv_iadd hx hb dL_law_1144 ?_
      obtain ⟨hin, hf⟩ := pw_gd hf
      refine va_sld hx hb hX hbl hbA hw.2 hin dL_law_1145 ?_
      obtain ⟨r65, σ65, h65, hf⟩ := pw_bi_some hf
      refine pw_ci hw (pw_runV (As := [.int (xs (x3 + (1 : Int32)).toNatClampNeg)]) (rest := []) hC hw (c_X10_say  h65) mw_709 wm_X10_say ⟨Nat.le_refl _, Nat.le_refl _⟩ ⟨rfl, rfl, Nat.le_of_ble_eq_true rfl, Nat.le_of_ble_eq_true rfl⟩ (by decide) rfl rfl rfl hl.1 rfl (Nat.le_of_ble_eq_true rfl) dL_law_1146) (fun H locs hw => ?_)
      refine lv_aload_n hx hb dL_law_1149 rfl (lv_at hl 2 rfl) ?_
      refine lv_aload_n hx hb dL_law_1150 rfl (lv_at hl 0 rfl) ?_
      refine lv_iload_n hx hb dL_law_1151 rfl (lv_at hl 3 rfl) ?_
      refine lv_iconst (v := 1) hx hb dL_law_1152 (by decide) ?_
      refine lv_iadd hx hb dL_law_1153 ?_
      obtain ⟨hin, hf⟩ := pw_gd hf
      refine va_sld hx hb hX hbl hbA hw.2 hin dL_law_1154 ?_
      obtain ⟨r66, σ66, h66, hf⟩ := pw_bi_some hf
      refine pw_ci hw (pw_runV (As := [.int (xs (x3 + (1 : Int32)).toNatClampNeg)]) (rest := [.int r65]) hC hw (c_X11_say  h66) mw_1062 wm_X11_say ⟨Nat.le_refl _, Nat.le_refl _⟩ ⟨rfl, rfl, Nat.le_of_ble_eq_true rfl, Nat.le_of_ble_eq_true rfl⟩ (by decide) rfl rfl rfl hl.1 rfl (Nat.le_of_ble_eq_true rfl) dL_law_1155) (fun H locs hw => ?_)
      refine lv_icmp_eq (tgt := 1222) hx hb dL_law_1158 (by decide) (fun hc => ?_) (fun hc => ?_)
      · replace hf := pw_ifp hc hf
        refine lv_iinc (v := (x3 + (5 : Int32))) (lv' := [(3, .int (x3 + (5 : Int32))), (0, .ref b), (1, .ref (pw_ad G 0)), (2, .ref (pw_ad G 10))]) hx hb dL_law_1222 hl (k := 3) rfl rfl (by decide) rfl (fun ls hl => ?_)
        refine lv_goto (tgt := 18) hx hb dL_law_1225 (by decide) ?_
        exact hk18 _ _ _ _ _ hw (lv_sub hl [1, 2, 3, 0] rfl) hf
      · replace hf := pw_ifn hc hf
        refine lv_iconst (v := 0) hx hb dL_law_1161 (by decide) ?_
        cases hf
    replace hf := pw_ifn hc32 hf
    by_cases hc33 : ((xs x3.toNatClampNeg) &&& (63 : Int32)) = 33
    · replace hf := pw_ifp hc33 hf
      refine lv_tableIn (off := 1131) (tgt := 1163) hx hb dL_law_32 (by rw [hc33]; decide) (by rw [hc33]; decide) (by rw [hc33]; decide) (by decide) ?_
      refine lv_aload_n hx hb dL_law_1163 rfl (lv_at hl 1 rfl) ?_
      obtain ⟨r67, σ67, h67, hf⟩ := pw_bi_some hf
      refine pw_ci hw (pw_runV (As := []) (rest := []) hC hw (c_X10_check  h67) mw_717 wm_X10_check ⟨Nat.le_refl _, Nat.le_refl _⟩ ⟨rfl, rfl, Nat.le_of_ble_eq_true rfl, Nat.le_of_ble_eq_true rfl⟩ (by decide) rfl rfl rfl hl.1 rfl (Nat.le_of_ble_eq_true rfl) dL_law_1164) (fun H locs hw => ?_)
      refine lv_aload_n hx hb dL_law_1167 rfl (lv_at hl 2 rfl) ?_
      obtain ⟨r68, σ68, h68, hf⟩ := pw_bi_some hf
      refine pw_ci hw (pw_runV (As := []) (rest := [.int r67]) hC hw (c_X11_check  h68) mw_1066 wm_X11_check ⟨Nat.le_refl _, Nat.le_refl _⟩ ⟨rfl, rfl, Nat.le_of_ble_eq_true rfl, Nat.le_of_ble_eq_true rfl⟩ (by decide) rfl rfl rfl hl.1 rfl (Nat.le_of_ble_eq_true rfl) dL_law_1168) (fun H locs hw => ?_)
      refine lv_icmp_eq (tgt := 1222) hx hb dL_law_1171 (by decide) (fun hc => ?_) (fun hc => ?_)
      · replace hf := pw_ifp hc hf
        refine lv_iinc (v := (x3 + (5 : Int32))) (lv' := [(3, .int (x3 + (5 : Int32))), (0, .ref b), (1, .ref (pw_ad G 0)), (2, .ref (pw_ad G 10))]) hx hb dL_law_1222 hl (k := 3) rfl rfl (by decide) rfl (fun ls hl => ?_)
        refine lv_goto (tgt := 18) hx hb dL_law_1225 (by decide) ?_
        exact hk18 _ _ _ _ _ hw (lv_sub hl [1, 2, 3, 0] rfl) hf
      · replace hf := pw_ifn hc hf
        refine lv_iconst (v := 0) hx hb dL_law_1174 (by decide) ?_
        cases hf
    replace hf := pw_ifn hc33 hf
    by_cases hc34 : ((xs x3.toNatClampNeg) &&& (63 : Int32)) = 34
    · replace hf := pw_ifp hc34 hf
      refine lv_tableIn (off := 1144) (tgt := 1176) hx hb dL_law_32 (by rw [hc34]; decide) (by rw [hc34]; decide) (by rw [hc34]; decide) (by decide) ?_
      refine lv_aload_n hx hb dL_law_1176 rfl (lv_at hl 1 rfl) ?_
      refine lv_aload_n hx hb dL_law_1177 rfl (lv_at hl 0 rfl) ?_
      refine lv_iload_n hx hb dL_law_1178 rfl (lv_at hl 3 rfl) ?_
      refine lv_iconst (v := 1) hx hb dL_law_1179 (by decide) ?_
      refine lv_iadd hx hb dL_law_1180 ?_
      obtain ⟨hin, hf⟩ := pw_gd hf
      refine va_sld hx hb hX hbl hbA hw.2 hin dL_law_1181 ?_
      obtain ⟨r69, σ69, h69, hf⟩ := pw_bi_some hf
      refine pw_ci hw (pw_runV (As := [.int (xs (x3 + (1 : Int32)).toNatClampNeg)]) (rest := []) hC hw (c_X10_passes  h69) mw_726 wm_X10_passes ⟨Nat.le_refl _, Nat.le_refl _⟩ ⟨rfl, rfl, Nat.le_of_ble_eq_true rfl, Nat.le_of_ble_eq_true rfl⟩ (by decide) rfl rfl rfl hl.1 rfl (Nat.le_of_ble_eq_true rfl) dL_law_1182) (fun H locs hw => ?_)
      refine lv_aload_n hx hb dL_law_1185 rfl (lv_at hl 2 rfl) ?_
      refine lv_aload_n hx hb dL_law_1186 rfl (lv_at hl 0 rfl) ?_
      refine lv_iload_n hx hb dL_law_1187 rfl (lv_at hl 3 rfl) ?_
      refine lv_iconst (v := 1) hx hb dL_law_1188 (by decide) ?_
      refine lv_iadd hx hb dL_law_1189 ?_
      obtain ⟨hin, hf⟩ := pw_gd hf
      refine va_sld hx hb hX hbl hbA hw.2 hin dL_law_1190 ?_
      obtain ⟨r70, σ70, h70, hf⟩ := pw_bi_some hf
      refine pw_ci hw (pw_runV (As := [.int (xs (x3 + (1 : Int32)).toNatClampNeg)]) (rest := [.int r69]) hC hw (c_X11_passes  h70) mw_1074 wm_X11_passes ⟨Nat.le_refl _, Nat.le_refl _⟩ ⟨rfl, rfl, Nat.le_of_ble_eq_true rfl, Nat.le_of_ble_eq_true rfl⟩ (by decide) rfl rfl rfl hl.1 rfl (Nat.le_of_ble_eq_true rfl) dL_law_1191) (fun H locs hw => ?_)
      refine lv_icmp_eq (tgt := 1222) hx hb dL_law_1194 (by decide) (fun hc => ?_) (fun hc => ?_)
      · replace hf := pw_ifp hc hf
        refine lv_iinc (v := (x3 + (5 : Int32))) (lv' := [(3, .int (x3 + (5 : Int32))), (0, .ref b), (1, .ref (pw_ad G 0)), (2, .ref (pw_ad G 10))]) hx hb dL_law_1222 hl (k := 3) rfl rfl (by decide) rfl (fun ls hl => ?_)
        refine lv_goto (tgt := 18) hx hb dL_law_1225 (by decide) ?_
        exact hk18 _ _ _ _ _ hw (lv_sub hl [1, 2, 3, 0] rfl) hf
      · replace hf := pw_ifn hc hf
        refine lv_iconst (v := 0) hx hb dL_law_1197 (by decide) ?_
        cases hf
    replace hf := pw_ifn hc34 hf
    by_cases hc35 : ((xs x3.toNatClampNeg) &&& (63 : Int32)) = 35
    · replace hf := pw_ifp hc35 hf
      refine lv_tableIn (off := 1167) (tgt := 1199) hx hb dL_law_32 (by rw [hc35]; decide) (by rw [hc35]; decide) (by rw [hc35]; decide) (by decide) ?_
      refine lv_aload_n hx hb dL_law_1199 rfl (lv_at hl 1 rfl) ?_
      refine lv_aload_n hx hb dL_law_1200 rfl (lv_at hl 0 rfl) ?_
      refine lv_iload_n hx hb dL_law_1201 rfl (lv_at hl 3 rfl) ?_
      refine lv_iconst (v := 1) hx hb dL_law_1202 (by decide) ?_
      refine lv_iadd hx hb dL_law_1203 ?_
      obtain ⟨hin, hf⟩ := pw_gd hf
      refine va_sld hx hb hX hbl hbA hw.2 hin dL_law_1204 ?_
      obtain ⟨r71, σ71, h71, hf⟩ := pw_bi_some hf
      refine pw_ci hw (pw_runV (As := [.int (xs (x3 + (1 : Int32)).toNatClampNeg)]) (rest := []) hC hw (c_X10_count  h71) mw_736 wm_X10_count ⟨Nat.le_refl _, Nat.le_refl _⟩ ⟨rfl, rfl, Nat.le_of_ble_eq_true rfl, Nat.le_of_ble_eq_true rfl⟩ (by decide) rfl rfl rfl hl.1 rfl (Nat.le_of_ble_eq_true rfl) dL_law_1205) (fun H locs hw => ?_)
      refine lv_aload_n hx hb dL_law_1208 rfl (lv_at hl 2 rfl) ?_
      refine lv_aload_n hx hb dL_law_1209 rfl (lv_at hl 0 rfl) ?_
      refine lv_iload_n hx hb dL_law_1210 rfl (lv_at hl 3 rfl) ?_
      refine lv_iconst (v := 1) hx hb dL_law_1211 (by decide) ?_
      refine lv_iadd hx hb dL_law_1212 ?_
      obtain ⟨hin, hf⟩ := pw_gd hf
      refine va_sld hx hb hX hbl hbA hw.2 hin dL_law_1213 ?_
      obtain ⟨r72, σ72, h72, hf⟩ := pw_bi_some hf
      refine pw_ci hw (pw_runV (As := [.int (xs (x3 + (1 : Int32)).toNatClampNeg)]) (rest := [.int r71]) hC hw (c_X11_count_  h72) mw_1078 wm_X11_count_ ⟨Nat.le_refl _, Nat.le_refl _⟩ ⟨rfl, rfl, Nat.le_of_ble_eq_true rfl, Nat.le_of_ble_eq_true rfl⟩ (by decide) rfl rfl rfl hl.1 rfl (Nat.le_of_ble_eq_true rfl) dL_law_1214) (fun H locs hw => ?_)
      refine lv_icmp_eq (tgt := 1222) hx hb dL_law_1217 (by decide) (fun hc => ?_) (fun hc => ?_)
      · replace hf := pw_ifp hc hf
        refine lv_iinc (v := (x3 + (5 : Int32))) (lv' := [(3, .int (x3 + (5 : Int32))), (0, .ref b), (1, .ref (pw_ad G 0)), (2, .ref (pw_ad G 10))]) hx hb dL_law_1222 hl (k := 3) rfl rfl (by decide) rfl (fun ls hl => ?_)
        refine lv_goto (tgt := 18) hx hb dL_law_1225 (by decide) ?_
        exact hk18 _ _ _ _ _ hw (lv_sub hl [1, 2, 3, 0] rfl) hf
      · replace hf := pw_ifn hc hf
        refine lv_iconst (v := 0) hx hb dL_law_1220 (by decide) ?_
        cases hf
    replace hf := pw_ifn hc35 hf
    refine lv_tableOut (tgt := 1222) hx hb dL_law_32 (by have hq := And.intro (pw_ti hc0 (z := 0) (by decide)) (And.intro (pw_ti hc1 (z := 1) (by decide)) (And.intro (pw_ti hc2 (z := 2) (by decide)) (And.intro (pw_ti hc3 (z := 3) (by decide)) (And.intro (pw_ti hc4 (z := 4) (by decide)) (And.intro (pw_ti hc5 (z := 5) (by decide)) (And.intro (pw_ti hc6 (z := 6) (by decide)) (And.intro (pw_ti hc7 (z := 7) (by decide)) (And.intro (pw_ti hc8 (z := 8) (by decide)) (And.intro (pw_ti hc9 (z := 9) (by decide)) (And.intro (pw_ti hc10 (z := 10) (by decide)) (And.intro (pw_ti hc11 (z := 11) (by decide)) (And.intro (pw_ti hc12 (z := 12) (by decide)) (And.intro (pw_ti hc13 (z := 13) (by decide)) (And.intro (pw_ti hc14 (z := 14) (by decide)) (And.intro (pw_ti hc15 (z := 15) (by decide)) (And.intro (pw_ti hc16 (z := 16) (by decide)) (And.intro (pw_ti hc17 (z := 17) (by decide)) (And.intro (pw_ti hc18 (z := 18) (by decide)) (And.intro (pw_ti hc19 (z := 19) (by decide)) (And.intro (pw_ti hc20 (z := 20) (by decide)) (And.intro (pw_ti hc21 (z := 21) (by decide)) (And.intro (pw_ti hc22 (z := 22) (by decide)) (And.intro (pw_ti hc23 (z := 23) (by decide)) (And.intro (pw_ti hc24 (z := 24) (by decide)) (And.intro (pw_ti hc25 (z := 25) (by decide)) (And.intro (pw_ti hc26 (z := 26) (by decide)) (And.intro (pw_ti hc27 (z := 27) (by decide)) (And.intro (pw_ti hc28 (z := 28) (by decide)) (And.intro (pw_ti hc29 (z := 29) (by decide)) (And.intro (pw_ti hc30 (z := 30) (by decide)) (And.intro (pw_ti hc31 (z := 31) (by decide)) (And.intro (pw_ti hc32 (z := 32) (by decide)) (And.intro (pw_ti hc33 (z := 33) (by decide)) (And.intro (pw_ti hc34 (z := 34) (by decide)) (pw_ti hc35 (z := 35) (by decide)))))))))))))))))))))))))))))))))))); omega) (by decide) ?_
    refine lv_iinc (v := (x3 + (5 : Int32))) (lv' := [(3, .int (x3 + (5 : Int32))), (0, .ref b), (1, .ref (pw_ad G 0)), (2, .ref (pw_ad G 10))]) hx hb dL_law_1222 hl (k := 3) rfl rfl (by decide) rfl (fun ls hl => ?_)
    refine lv_goto (tgt := 18) hx hb dL_law_1225 (by decide) ?_
    exact hk18 _ _ _ _ _ hw (lv_sub hl [1, 2, 3, 0] rfl) hf
set_option maxHeartbeats 4000000 in
theorem tl_L_law_18 (hC : pw_CX G RL cL_law 4 ret p s m #[Value.ref b] meth c) {xs : Nat → Int32} {L : Nat} (hX : va_X b L xs s s.heap) (hbl : b < s.heap.size) (hbA : ¬ pw_gA G b) (hAg : ∀ q, pw_gA G q → s.heap.size ≤ q)  : ∀ (n : Nat) (x3 : Int32) (σ : pw_St) (H : Heap) (locs : List Loc) (ls : Array Slot), pw_WH G σ s.heap H locs → lv_has ls 4 [(0, .ref b), (1, .ref (pw_ad G 0)), (2, .ref (pw_ad G 10)), (3, .int x3)] → l_L_law_18 xs L  n x3 σ = some () → W p l e room_1 s m #[Value.ref b] below meth c H locs 600000 7302250 (lw_Z below #[Value.ref b] s) (F0 m 18 ls []) := by
  intro n
  induction n with
  | zero => intro x3 σ H locs ls hw hl hf; cases hf
  | succ n ih => intro x3 σ H locs ls hw hl hf; exact t_L_law_18 hC hX hbl hbA hAg ih  hw hl hf
set_option maxHeartbeats 4000000 in
set_option maxRecDepth 100000 in
theorem law_walk (hC : pw_CX G RL cL_law 4 ret p s m #[Value.ref b] meth c) {xs : Nat → Int32} {L : Nat} (hX : va_X b L xs s s.heap) (hbl : b < s.heap.size) (hbA : ¬ pw_gA G b) (hAg : ∀ q, pw_gA G q → s.heap.size ≤ q) {σ : pw_St} {H : Heap} {locs : List Loc} {ls : Array Slot} (hw : pw_WH G σ s.heap H locs) (hl : lv_has ls 4 [(0, .ref b), (1, .ref (pw_ad G 0)), (2, .ref (pw_ad G 10))]) (hf : f_L_law xs L σ = some ()) : W p l e room_1 s m #[Value.ref b] below meth c H locs 600000 7302250 (lw_Z below #[Value.ref b] s) (F0 m 16 ls []) := by
  have hx := hC.1
  have hb := hC.2.1
  unfold f_L_law at hf
  refine lv_iconst (v := 0) hx hb dL_law_16 (by decide) ?_
  refine lv_istore_n (lv' := [(3, .int (0 : Int32)), (0, .ref b), (1, .ref (pw_ad G 0)), (2, .ref (pw_ad G 10))]) hx hb dL_law_17 rfl hl (by decide) rfl (fun ls hl => ?_)
  exact tl_L_law_18 hC hX hbl hbA hAg  pw_FU _ _ _ _ _ hw (lv_sub hl [1, 2, 3, 0] rfl) hf
end PM
