section W21stepsleantxt
variable {p : Program} {l : Launch} {e : Env} {R : Room} {s : State} {m : MethodId} {args : Array Value} {below : List Frame} {meth : Method} {c : Code} {z : Zt} {cc : ByteArray} {nL : Nat} {ow : String} {ret : Option FieldType} {nm : String} {Q : State → Prop} {bc bs pc : Nat} {lv : List (Nat × Value)} {st : List Value} {S : Hp}
theorem dsc_X2_init : dsc yX2_init 0 := ⟨by decide, by decide, by decide +kernel⟩
theorem cl_RX8_11 (C : Cx p s m args meth c z cc nL RX8 ret nm) {a : Nat}  {rest : List Value} {post : Option Value → Hp → Prop} (hm : Ct l z yX2_init cX2_init 3 none 2 43 3 9 [.ref a] S post) (hR : 2 + 1 ≤ R.frames ∧ 8 + (3 + 11) + 43 ≤ R.locals) (hd : decode cc pc = .ok (.invokespecial 11, 3)) (hW : (rest.map fun v => v.category).sum ≤ 8) (k : ∀ (v : Option Value) (S' : Hp), post v S' → Go p l e R s m args below meth c z nL Q bc bs (pc + 3) lv (v.toList ++ rest) S') : Go p l e R s m args below meth c z nL Q (bc + 3) (bs + 9) pc lv (.ref a :: rest) S := G_callI C rfl (gt_t 320 (by decide +kernel) rfl) (gt_t 110 (by decide +kernel) rfl) (gt_t 5 (by decide +kernel) rfl) (gt_t 111 (by decide +kernel) rfl) (dsc_X2_init) hm rfl hR rfl hW hd k
theorem nw_RX8_9 (C : Cx p s m args meth c z cc nL RX8 ret nm) (hd : decode cc pc = .ok (.new 9, 3)) (k : Go p l e R s m args below meth c z nL Q bc bs (pc + 3) lv (.ref (sz S) :: st) (nw S 3 0)) : Go p l e R s m args below meth c z nL Q (bc + 1) (bs + 4) pc lv st S := G_new C 2 4 rfl rfl in_X2 tyX2 tyX2_ok (by decide) (gt_t 319 (by decide +kernel) rfl) (gt_t 108 (by decide +kernel) rfl) (gt_t 5 (by decide +kernel) rfl) hd k
theorem oi_RX8_3 : Cond.methodLink RX8 3 Lib.objectInit ∈ gt := gt_t 318 (by decide +kernel) rfl
theorem pf_RX8_12 (C : Cx p s m args meth c z cc nL RX8 ret nm) {a : Nat} {v : Option Nat} (hfn : nm = "<init>") (hd : decode cc pc = .ok (.putfield 12, 3)) (hk : kd S a = 9) (k : Go p l e R s m args below meth c z nL Q bc bs (pc + 3) lv st (sR S 129 a 0 v)) : Go p l e R s m args below meth c z nL Q bc bs pc lv (va_rf v :: .ref a :: st) S := G_putR C 8 0 6 rfl rfl (by decide) in_X8 tyX8 tyX8_ok nmX8 rfl rfl (gt_t 321 (by decide +kernel) rfl) (Or.inr ⟨rfl, hfn, rfl⟩) (fun _ => rfl) rfl (fun _ => rfl) rfl hd hk k
theorem pf_RX8_18 (C : Cx p s m args meth c z cc nL RX8 ret nm) {a : Nat} {v : Option Nat} (hd : decode cc pc = .ok (.putfield 18, 3)) (hk : kd S a = 9) (k : Go p l e R s m args below meth c z nL Q bc bs (pc + 3) lv st (sR S 130 a 0 v)) : Go p l e R s m args below meth c z nL Q bc bs pc lv (va_rf v :: .ref a :: st) S := G_putR C 8 1 6 rfl rfl (by decide) in_X8 tyX8 tyX8_ok nmX8 rfl rfl (gt_t 322 (by decide +kernel) rfl) (Or.inl rfl) (fun _ => rfl) rfl (fun _ => rfl) rfl hd hk k
theorem pf_RX8_22 (C : Cx p s m args meth c z cc nL RX8 ret nm) {a : Nat} {v : Option Nat} (hfn : nm = "<init>") (hd : decode cc pc = .ok (.putfield 22, 3)) (hk : kd S a = 9) (k : Go p l e R s m args below meth c z nL Q bc bs (pc + 3) lv st (sR S 132 a 0 v)) : Go p l e R s m args below meth c z nL Q bc bs pc lv (va_rf v :: .ref a :: st) S := G_putR C 8 3 6 rfl rfl (by decide) in_X8 tyX8 tyX8_ok nmX8 rfl rfl (gt_t 325 (by decide +kernel) rfl) (Or.inr ⟨rfl, hfn, rfl⟩) (fun _ => rfl) rfl (fun _ => rfl) rfl hd hk k
theorem dsc_X2_copyOf : dsc yX2_copyOf 1 := ⟨by decide, by decide, by decide +kernel⟩
theorem cl_RX8_26 (C : Cx p s m args meth c z cc nL RX8 ret nm) {a : Nat} {q0 : Nat} {rest : List Value} {post : Option Value → Hp → Prop} (hm : Ct l z yX2_copyOf cX2_copyOf 3 none 0 0 0 0 [.ref a, .ref (q0)] S post) (hR : 0 + 1 ≤ R.frames ∧ 8 + (3 + 11) + 0 ≤ R.locals) (hk : kd S a = 3) (hd : decode cc pc = .ok (.invokevirtual 26, 3)) (hW : (rest.map fun v => v.category).sum ≤ 8) (k : ∀ (v : Option Value) (S' : Hp), post v S' → Go p l e R s m args below meth c z nL Q bc bs (pc + 3) lv (v.toList ++ rest) S') : Go p l e R s m args below meth c z nL Q bc bs pc lv (.ref (q0) :: .ref a :: rest) S := G_callV C 2 4 rfl rfl (gt_t 552 (by decide +kernel) rfl) (gt_t 553 (by decide +kernel) rfl) (gt_t 554 (by decide +kernel) rfl) (gt_t 5 (by decide +kernel) rfl) (gt_t 555 (by decide +kernel) rfl) (dsc_X2_copyOf) hm rfl hR hk rfl hW hd k
theorem gf_RX8_12 (C : Cx p s m args meth c z cc nL RX8 ret nm) {a : Nat} (hd : decode cc pc = .ok (.getfield 12, 3)) (hk : kd S a = 9) (k : Go p l e R s m args below meth c z nL Q bc bs (pc + 3) lv (va_rf (gR S 129 a 0) :: st) S) : Go p l e R s m args below meth c z nL Q bc bs pc lv (.ref a :: st) S := G_getR C 8 0 6 rfl rfl (by decide) in_X8 rfl rfl (gt_t 321 (by decide +kernel) rfl) hd hk k
theorem gf_RX8_22 (C : Cx p s m args meth c z cc nL RX8 ret nm) {a : Nat} (hd : decode cc pc = .ok (.getfield 22, 3)) (hk : kd S a = 9) (k : Go p l e R s m args below meth c z nL Q bc bs (pc + 3) lv (va_rf (gR S 132 a 0) :: st) S) : Go p l e R s m args below meth c z nL Q bc bs pc lv (.ref a :: st) S := G_getR C 8 3 6 rfl rfl (by decide) in_X8 rfl rfl (gt_t 325 (by decide +kernel) rfl) hd hk k
theorem gf_RX8_34 (C : Cx p s m args meth c z cc nL RX8 ret nm) {a : Nat} (hd : decode cc pc = .ok (.getfield 34, 3)) (hk : kd S a = 5) (k : Go p l e R s m args below meth c z nL Q bc bs (pc + 3) lv (va_rf (gR S 66 a 0) :: st) S) : Go p l e R s m args below meth c z nL Q bc bs pc lv (.ref a :: st) S := G_getR C 4 1 4 rfl rfl (by decide) in_X4 rfl rfl (gt_t 244 (by decide +kernel) rfl) hd hk k
theorem gf_RX8_45 (C : Cx p s m args meth c z cc nL RX8 ret nm) {a : Nat} (hd : decode cc pc = .ok (.getfield 45, 3)) (hk : kd S a = 5) (k : Go p l e R s m args below meth c z nL Q bc bs (pc + 3) lv (.int (gI S 67 a 0) :: st) S) : Go p l e R s m args below meth c z nL Q bc bs pc lv (.ref a :: st) S := G_getI C 4 2 4 rfl rfl (by decide) in_X4 rfl rfl (gt_t 248 (by decide +kernel) rfl) hd hk k
theorem gf_RX8_50 (C : Cx p s m args meth c z cc nL RX8 ret nm) {a : Nat} (hd : decode cc pc = .ok (.getfield 50, 3)) (hk : kd S a = 5) (k : Go p l e R s m args below meth c z nL Q bc bs (pc + 3) lv (.int (gI S 68 a 0) :: st) S) : Go p l e R s m args below meth c z nL Q bc bs pc lv (.ref a :: st) S := G_getI C 4 3 4 rfl rfl (by decide) in_X4 rfl rfl (gt_t 251 (by decide +kernel) rfl) hd hk k
theorem mw_RX8_39 : Cond.methodLink RX8 39 arraycopyName ∈ gt := gt_t 556 (by decide +kernel) rfl
theorem pf_RX8_30 (C : Cx p s m args meth c z cc nL RX8 ret nm) {a : Nat} {v : Option Nat} (hd : decode cc pc = .ok (.putfield 30, 3)) (hk : kd S a = 9) (k : Go p l e R s m args below meth c z nL Q bc bs (pc + 3) lv st (sR S 131 a 0 v)) : Go p l e R s m args below meth c z nL Q bc bs pc lv (va_rf v :: .ref a :: st) S := G_putR C 8 2 6 rfl rfl (by decide) in_X8 tyX8 tyX8_ok nmX8 rfl rfl (gt_t 324 (by decide +kernel) rfl) (Or.inl rfl) (fun _ => rfl) rfl (fun _ => rfl) rfl hd hk k
theorem pf_RX8_49 (C : Cx p s m args meth c z cc nL RX8 ret nm) {a : Nat} {v : Int32} (hd : decode cc pc = .ok (.putfield 49, 3)) (hk : kd S a = 9) (k : Go p l e R s m args below meth c z nL Q bc bs (pc + 3) lv st (sI S 133 a 0 v)) : Go p l e R s m args below meth c z nL Q bc bs pc lv (.int v :: .ref a :: st) S := G_putI C 8 4 6 rfl rfl (by decide) in_X8 tyX8 tyX8_ok nmX8 rfl rfl (gt_t 326 (by decide +kernel) rfl) (Or.inl rfl) rfl rfl hd hk k
theorem pf_RX8_54 (C : Cx p s m args meth c z cc nL RX8 ret nm) {a : Nat} {v : Int32} (hd : decode cc pc = .ok (.putfield 54, 3)) (hk : kd S a = 9) (hb : v = 0 ∨ v = 1) (k : Go p l e R s m args below meth c z nL Q bc bs (pc + 3) lv st (sI S 134 a 0 v)) : Go p l e R s m args below meth c z nL Q bc bs pc lv (.int v :: .ref a :: st) S := G_putI C 8 5 6 rfl rfl (by decide) in_X8 tyX8 tyX8_ok nmX8 rfl rfl (gt_t 327 (by decide +kernel) rfl) (Or.inl rfl) (by rcases hb with rfl | rfl <;> rfl) (by rcases hb with rfl | rfl <;> rfl) hd hk k
theorem gf_RX8_30 (C : Cx p s m args meth c z cc nL RX8 ret nm) {a : Nat} (hd : decode cc pc = .ok (.getfield 30, 3)) (hk : kd S a = 9) (k : Go p l e R s m args below meth c z nL Q bc bs (pc + 3) lv (va_rf (gR S 131 a 0) :: st) S) : Go p l e R s m args below meth c z nL Q bc bs pc lv (.ref a :: st) S := G_getR C 8 2 6 rfl rfl (by decide) in_X8 rfl rfl (gt_t 324 (by decide +kernel) rfl) hd hk k
theorem gf_RX8_49 (C : Cx p s m args meth c z cc nL RX8 ret nm) {a : Nat} (hd : decode cc pc = .ok (.getfield 49, 3)) (hk : kd S a = 9) (k : Go p l e R s m args below meth c z nL Q bc bs (pc + 3) lv (.int (gI S 133 a 0) :: st) S) : Go p l e R s m args below meth c z nL Q bc bs pc lv (.ref a :: st) S := G_getI C 8 4 6 rfl rfl (by decide) in_X8 rfl rfl (gt_t 326 (by decide +kernel) rfl) hd hk k
theorem gf_RX8_54 (C : Cx p s m args meth c z cc nL RX8 ret nm) {a : Nat} (hd : decode cc pc = .ok (.getfield 54, 3)) (hk : kd S a = 9) (k : Go p l e R s m args below meth c z nL Q bc bs (pc + 3) lv (.int (gI S 134 a 0) :: st) S) : Go p l e R s m args below meth c z nL Q bc bs pc lv (.ref a :: st) S := G_getI C 8 5 6 rfl rfl (by decide) in_X8 rfl rfl (gt_t 327 (by decide +kernel) rfl) hd hk k
theorem pf_RX8_45 (C : Cx p s m args meth c z cc nL RX8 ret nm) {a : Nat} {v : Int32} (hd : decode cc pc = .ok (.putfield 45, 3)) (hk : kd S a = 5) (k : Go p l e R s m args below meth c z nL Q bc bs (pc + 3) lv st (sI S 67 a 0 v)) : Go p l e R s m args below meth c z nL Q bc bs pc lv (.int v :: .ref a :: st) S := G_putI C 4 2 4 rfl rfl (by decide) in_X4 tyX4 tyX4_ok nmX4 rfl rfl (gt_t 248 (by decide +kernel) rfl) (Or.inl rfl) rfl rfl hd hk k
theorem pf_RX8_50 (C : Cx p s m args meth c z cc nL RX8 ret nm) {a : Nat} {v : Int32} (hd : decode cc pc = .ok (.putfield 50, 3)) (hk : kd S a = 5) (hb : v = 0 ∨ v = 1) (k : Go p l e R s m args below meth c z nL Q bc bs (pc + 3) lv st (sI S 68 a 0 v)) : Go p l e R s m args below meth c z nL Q bc bs pc lv (.int v :: .ref a :: st) S := G_putI C 4 3 4 rfl rfl (by decide) in_X4 tyX4 tyX4_ok nmX4 rfl rfl (gt_t 251 (by decide +kernel) rfl) (Or.inl rfl) (by rcases hb with rfl | rfl <;> rfl) (by rcases hb with rfl | rfl <;> rfl) hd hk k
theorem dsc_X8_init : dsc yX8_init 1 := ⟨by decide, by decide, by decide +kernel⟩
theorem cl_RX9_17 (C : Cx p s m args meth c z cc nL RX9 ret nm) {a : Nat} {q0 : Nat} {rest : List Value} {post : Option Value → Hp → Prop} (hm : Ct l z yX8_init cX8_init 2 none 3 65 5 53 [.ref a, .ref (q0)] S post) (hR : 3 + 1 ≤ R.frames ∧ 8 + (2 + 11) + 65 ≤ R.locals) (hd : decode cc pc = .ok (.invokespecial 17, 3)) (hW : (rest.map fun v => v.category).sum ≤ 8) (k : ∀ (v : Option Value) (S' : Hp), post v S' → Go p l e R s m args below meth c z nL Q bc bs (pc + 3) lv (v.toList ++ rest) S') : Go p l e R s m args below meth c z nL Q (bc + 5) (bs + 53) pc lv (.ref (q0) :: .ref a :: rest) S := G_callI C rfl (gt_t 315 (by decide +kernel) rfl) (gt_t 316 (by decide +kernel) rfl) (gt_t 13 (by decide +kernel) rfl) (gt_t 317 (by decide +kernel) rfl) (dsc_X8_init) hm rfl hR rfl hW hd k
theorem cw_RX9_9 : Cond.classLink RX9 9 "FirstParts$Step" ∈ gt := gt_t 312 (by decide +kernel) rfl
theorem gf_RX9_11 (C : Cx p s m args meth c z cc nL RX9 ret nm) {a : Nat} (hd : decode cc pc = .ok (.getfield 11, 3)) (hk : kd S a = 10) (k : Go p l e R s m args below meth c z nL Q bc bs (pc + 3) lv (va_rf (gR S 145 a 0) :: st) S) : Go p l e R s m args below meth c z nL Q bc bs pc lv (.ref a :: st) S := G_getR C 9 0 3 rfl rfl (by decide) in_X9 rfl rfl (gt_t 341 (by decide +kernel) rfl) hd hk k
theorem nw_RX9_9 (C : Cx p s m args meth c z cc nL RX9 ret nm) (hd : decode cc pc = .ok (.new 9, 3)) (k : Go p l e R s m args below meth c z nL Q bc bs (pc + 3) lv (.ref (sz S) :: st) (nw S 9 0)) : Go p l e R s m args below meth c z nL Q (bc + 1) (bs + 6) pc lv st S := G_new C 8 6 rfl rfl in_X8 tyX8 tyX8_ok (by decide) (gt_t 312 (by decide +kernel) rfl) (gt_t 314 (by decide +kernel) rfl) (gt_t 13 (by decide +kernel) rfl) hd k
theorem oi_RX9_3 : Cond.methodLink RX9 3 Lib.objectInit ∈ gt := gt_t 311 (by decide +kernel) rfl
theorem pf_RX9_11 (C : Cx p s m args meth c z cc nL RX9 ret nm) {a : Nat} {v : Option Nat} (hfn : nm = "<init>") (hd : decode cc pc = .ok (.putfield 11, 3)) (hk : kd S a = 10) (k : Go p l e R s m args below meth c z nL Q bc bs (pc + 3) lv st (sR S 145 a 0 v)) : Go p l e R s m args below meth c z nL Q bc bs pc lv (va_rf v :: .ref a :: st) S := G_putR C 9 0 3 rfl rfl (by decide) in_X9 tyX9 tyX9_ok nmX9 rfl rfl (gt_t 341 (by decide +kernel) rfl) (Or.inr ⟨rfl, hfn, rfl⟩) (fun _ => rfl) rfl (fun _ => rfl) rfl hd hk k
theorem dsc_X8_remember : dsc yX8_remember 3 := ⟨by decide, by decide, by decide +kernel⟩
theorem cl_RX9_24 (C : Cx p s m args meth c z cc nL RX9 ret nm) {a : Nat} {q0 : Nat} {q1 : Nat} {q2 : Option Nat} {rest : List Value} {post : Option Value → Hp → Prop} (hm : Ct l z yX8_remember cX8_remember 4 none 1 32 0 0 [.ref a, .ref (q0), .ref (q1), va_rf (q2)] S post) (hR : 1 + 1 ≤ R.frames ∧ 8 + (4 + 11) + 32 ≤ R.locals) (hk : kd S a = 9) (hd : decode cc pc = .ok (.invokevirtual 24, 3)) (hW : (rest.map fun v => v.category).sum ≤ 8) (k : ∀ (v : Option Value) (S' : Hp), post v S' → Go p l e R s m args below meth c z nL Q bc bs (pc + 3) lv (v.toList ++ rest) S') : Go p l e R s m args below meth c z nL Q bc bs pc lv (va_rf (q2) :: .ref (q1) :: .ref (q0) :: .ref a :: rest) S := G_callV C 8 6 rfl rfl (gt_t 548 (by decide +kernel) rfl) (gt_t 549 (by decide +kernel) rfl) (gt_t 550 (by decide +kernel) rfl) (gt_t 13 (by decide +kernel) rfl) (gt_t 551 (by decide +kernel) rfl) (dsc_X8_remember) hm rfl hR hk rfl hW hd k
theorem cl_RX9_31 (C : Cx p s m args meth c z cc nL RX9 ret nm) {q0 : Int32} {q1 : Int32} {rest : List Value} {post : Option Value → Hp → Prop} (hm : Ct l z yJ9_min_7cf53 cJ9_min_7cf53 2 (some .int) 0 0 0 0 [.int (q0), .int (q1)] S post) (hR : 0 + 1 ≤ R.frames ∧ 8 + (2 + 11) + 0 ≤ R.locals) (hd : decode cc pc = .ok (.invokestatic 31, 3)) (hW : (rest.map fun v => v.category).sum ≤ 8) (k : ∀ (v : Option Value) (S' : Hp), post v S' → Go p l e R s m args below meth c z nL Q bc bs (pc + 3) lv (v.toList ++ rest) S') : Go p l e R s m args below meth c z nL Q bc bs pc lv (.int (q1) :: .int (q0) :: rest) S := G_callS C (gt_t 559 (by decide +kernel) rfl) (gt_t 217 (by decide +kernel) rfl) (gt_t 10 (by decide +kernel) rfl) (gt_t 218 (by decide +kernel) rfl) (dsc_J9_min_7cf53) hm rfl hR rfl hW hd k
theorem gf_RX9_20 (C : Cx p s m args meth c z cc nL RX9 ret nm) {a : Nat} (hd : decode cc pc = .ok (.getfield 20, 3)) (hk : kd S a = 10) (k : Go p l e R s m args below meth c z nL Q bc bs (pc + 3) lv (.int (gI S 146 a 0) :: st) S) : Go p l e R s m args below meth c z nL Q bc bs pc lv (.ref a :: st) S := G_getI C 9 1 3 rfl rfl (by decide) in_X9 rfl rfl (gt_t 342 (by decide +kernel) rfl) hd hk k
theorem gf_RX9_28 (C : Cx p s m args meth c z cc nL RX9 ret nm) {a : Nat} (hd : decode cc pc = .ok (.getfield 28, 3)) (hk : kd S a = 10) (k : Go p l e R s m args below meth c z nL Q bc bs (pc + 3) lv (.int (gI S 147 a 0) :: st) S) : Go p l e R s m args below meth c z nL Q bc bs pc lv (.ref a :: st) S := G_getI C 9 2 3 rfl rfl (by decide) in_X9 rfl rfl (gt_t 343 (by decide +kernel) rfl) hd hk k
theorem pf_RX9_20 (C : Cx p s m args meth c z cc nL RX9 ret nm) {a : Nat} {v : Int32} (hd : decode cc pc = .ok (.putfield 20, 3)) (hk : kd S a = 10) (k : Go p l e R s m args below meth c z nL Q bc bs (pc + 3) lv st (sI S 146 a 0 v)) : Go p l e R s m args below meth c z nL Q bc bs pc lv (.int v :: .ref a :: st) S := G_putI C 9 1 3 rfl rfl (by decide) in_X9 tyX9 tyX9_ok nmX9 rfl rfl (gt_t 342 (by decide +kernel) rfl) (Or.inl rfl) rfl rfl hd hk k
theorem pf_RX9_28 (C : Cx p s m args meth c z cc nL RX9 ret nm) {a : Nat} {v : Int32} (hd : decode cc pc = .ok (.putfield 28, 3)) (hk : kd S a = 10) (k : Go p l e R s m args below meth c z nL Q bc bs (pc + 3) lv st (sI S 147 a 0 v)) : Go p l e R s m args below meth c z nL Q bc bs pc lv (.int v :: .ref a :: st) S := G_putI C 9 2 3 rfl rfl (by decide) in_X9 tyX9 tyX9_ok nmX9 rfl rfl (gt_t 343 (by decide +kernel) rfl) (Or.inl rfl) rfl rfl hd hk k
theorem cl_RX9_37 (C : Cx p s m args meth c z cc nL RX9 ret nm) {q0 : Int32} {q1 : Int32} {rest : List Value} {post : Option Value → Hp → Prop} (hm : Ct l z yJ9_max_7cf53 cJ9_max_7cf53 2 (some .int) 0 0 0 0 [.int (q0), .int (q1)] S post) (hR : 0 + 1 ≤ R.frames ∧ 8 + (2 + 11) + 0 ≤ R.locals) (hd : decode cc pc = .ok (.invokestatic 37, 3)) (hW : (rest.map fun v => v.category).sum ≤ 8) (k : ∀ (v : Option Value) (S' : Hp), post v S' → Go p l e R s m args below meth c z nL Q bc bs (pc + 3) lv (v.toList ++ rest) S') : Go p l e R s m args below meth c z nL Q bc bs pc lv (.int (q1) :: .int (q0) :: rest) S := G_callS C (gt_t 631 (by decide +kernel) rfl) (gt_t 220 (by decide +kernel) rfl) (gt_t 10 (by decide +kernel) rfl) (gt_t 221 (by decide +kernel) rfl) (dsc_J9_max_7cf53) hm rfl hR rfl hW hd k
/-! FirstParts$Step.<init>(LFirstParts$Packed;)V -/
abbrev wp_X8_init (a0 : Nat) (a1 : Nat) (S : Hp) (Q : Hp → Prop) : Prop :=
  1 ≤ 5 ∧ 4 ≤ 53 ∧ ∀ n1 : Nat, n1 = sz S → ∀ S2 : Hp, S2 = nw S 3 (0) → 3 ≤ (5 - 1) ∧ 9 ≤ (53 - 4) ∧ wp_X2_init (n1) S2 (fun S4 => kd S4 a0 = 9 ∧ ∀ S5 : Hp, S5 = sR S4 129 a0 0 (some n1) → kd S5 a0 = 9 ∧ ∀ S6 : Hp, S6 = sR S5 130 a0 0 (some a1) → 1 ≤ ((5 - 1) - 3) ∧ 40 ≤ ((53 - 4) - 9) ∧ ∀ n7 : Nat, n7 = sz S6 → ∀ S8 : Hp, S8 = nw S6 20 (40) → kd S8 a0 = 9 ∧ ∀ S9 : Hp, S9 = sR S8 132 a0 0 (some n7) → Q S9)
set_option maxHeartbeats 4000000 in
set_option maxRecDepth 100000 in
theorem c_X8_init (l : Launch) (z : Zt) (a0 : Nat) (a1 : Nat) (S : Hp) (Q : Hp → Prop) (hw : wp_X8_init a0 a1 S Q) : Ct l z yX8_init cX8_init 2 none 3 65 5 53 [.ref (a0), .ref (a1)] S (wV Q) := by
  refine Ct_of (by decide) (Nat.le_of_ble_eq_true rfl) ?_
  intro p e s m args below meth c C
  have C : Cx p s m args meth c z cX8_init 2 RX8 none "<init>" := C
  refine G_sub (lv' := [(0, .ref (a0)), (1, .ref (a1))]) [0, 1] rfl ?_
  refine G_aload_n (pc := 0) C 0 dX8_init_0 rfl rfl ?_
  refine G_objInit (pc := 1) C oi_RX8_3 (by decide) (by decide) dX8_init_1 ?_
  refine G_aload_n (pc := 4) C 0 dX8_init_4 rfl rfl ?_
  obtain ⟨hb1, hb2, hw⟩ := hw
  refine G_less (bc' := (5 - 1) + 1) (bs' := (53 - 4) + 4) (by omega) (by omega) ?_
  refine nw_RX8_9 (pc := 5) C dX8_init_5 ?_
  obtain ⟨n1, hn1⟩ : ∃ y : Nat, y = sz S := ⟨_, rfl⟩
  obtain ⟨S2, hS2⟩ : ∃ y : Hp, y = nw S 3 (0) := ⟨_, rfl⟩
  have hw := hw n1 hn1 S2 hS2
  rw [← hn1]
  rw [← hS2]
  clear hn1 hS2
  refine G_dup (pc := 8) C dX8_init_8 rfl ?_
  obtain ⟨hb1, hb2, hw⟩ := hw
  refine G_less (bc' := ((5 - 1) - 3) + 3) (bs' := ((53 - 4) - 9) + 9) (by omega) (by omega) ?_
  refine cl_RX8_11 (pc := 9) C (c_X2_init l z (n1) S2 _ hw) ⟨Nat.le_of_ble_eq_true rfl, Nat.le_of_ble_eq_true rfl⟩ dX8_init_9 (Nat.le_of_ble_eq_true rfl) (fun v S' hp => ?_)
  clear hw
  obtain ⟨rfl, hw⟩ := hp
  generalize S' = S4 at hw ⊢
  obtain ⟨hk, hw⟩ := hw
  refine pf_RX8_12 (pc := 12) C rfl (v := some n1) dX8_init_12 hk ?_
  obtain ⟨S5, hS5⟩ : ∃ y : Hp, y = sR S4 129 a0 0 (some n1) := ⟨_, rfl⟩
  have hw := hw S5 hS5
  rw [← hS5]
  clear hS5
  refine G_aload_n (pc := 15) C 0 dX8_init_15 rfl rfl ?_
  refine G_aload_n (pc := 16) C 1 dX8_init_16 rfl rfl ?_
  obtain ⟨hk, hw⟩ := hw
  refine pf_RX8_18 (pc := 17) C (v := some a1) dX8_init_17 hk ?_
  obtain ⟨S6, hS6⟩ : ∃ y : Hp, y = sR S5 130 a0 0 (some a1) := ⟨_, rfl⟩
  have hw := hw S6 hS6
  rw [← hS6]
  clear hS6
  refine G_aload_n (pc := 20) C 0 dX8_init_20 rfl rfl ?_
  refine G_bipush (pc := 21) C (v := 40) dX8_init_21 (by decide) ?_
  obtain ⟨hb1, hb2, hw⟩ := hw
  refine G_less (bc' := (((5 - 1) - 3) - 1) + 1) (bs' := (((53 - 4) - 9) - 40) + 40) (by omega) (by omega) ?_
  refine G_newa (pc := 23) C (n := (40 : Int32)) 40 w_aI (by decide) (by decide) (by decide) dX8_init_23 ?_
  obtain ⟨n7, hn7⟩ : ∃ y : Nat, y = sz S6 := ⟨_, rfl⟩
  obtain ⟨S8, hS8⟩ : ∃ y : Hp, y = nw S6 20 (40) := ⟨_, rfl⟩
  have hw := hw n7 hn7 S8 hS8
  rw [← hn7]
  rw [← hS8]
  clear hn7 hS8
  obtain ⟨hk, hw⟩ := hw
  refine pf_RX8_22 (pc := 25) C rfl (v := some n7) dX8_init_25 hk ?_
  obtain ⟨S9, hS9⟩ : ∃ y : Hp, y = sR S8 132 a0 0 (some n7) := ⟨_, rfl⟩
  have hw := hw S9 hS9
  rw [← hS9]
  clear hS9
  exact G_vret (pc := 28) C rfl dX8_init_28 ⟨rfl, hw⟩
/-! FirstParts$Step.remember(LFirstParts$Line;LFirstParts$Packed;LFirstParts$Packet;)V -/
abbrev wp_X8_remember_53  (Q : Hp → Prop)  (S : Hp) : Prop :=
  Q S
abbrev wp_X8_remember (a0 : Nat) (a1 : Nat) (a2 : Nat) (r3 : Option Nat) (S : Hp) (Q : Hp → Prop) : Prop :=
  kd S a0 = 9 ∧ ∃ b1, (gR S 129 a0 0) = some b1 ∧ kd S b1 = 3 ∧ wp_X2_copyOf (b1) (a1) S (fun S3 => kd S3 a0 = 9 ∧ ∀ S4 : Hp, S4 = sR S3 130 a0 0 (some a2) → kd S4 a0 = 9 ∧ ∀ S5 : Hp, S5 = sR S4 131 a0 0 (r3) → ((r3 = none → wp_X8_remember_53 Q (S5)) ∧ (∀ b6, r3 = some b6 → kd S5 b6 = 5 ∧ kd S5 a0 = 9 ∧ ∃ b7, (gR S5 66 b6 0) = some b7 ∧ ∃ b8, (gR S5 132 a0 0) = some b8 ∧ kd S5 b7 = 20 ∧ kd S5 b8 = 20 ∧ b7 ≠ b8 ∧ 40 ≤ ln S5 b7 ∧ 40 ≤ ln S5 b8 ∧ ∀ S9 : Hp, S9 = cpA S5 b7 b8 40 → kd S9 b6 = 5 ∧ kd S9 a0 = 9 ∧ ∀ S10 : Hp, S10 = sI S9 133 a0 0 (gI S9 67 b6 0) → kd S10 b6 = 5 ∧ kd S10 a0 = 9 ∧ ((gI S10 68 b6 0) = 0 ∨ (gI S10 68 b6 0) = 1) ∧ ∀ S11 : Hp, S11 = sI S10 134 a0 0 (gI S10 68 b6 0) → wp_X8_remember_53 Q (S11))))
set_option maxHeartbeats 4000000 in
set_option maxRecDepth 100000 in
theorem g_X8_remember_53 (C : Cx p s m args meth c z cX8_remember 4 RX8 none "remember")  {Q : Hp → Prop}  {S : Hp}   (hw : wp_X8_remember_53  Q  S) : Go p l e { frames := 1, cells := 0, slots := 0, locals := 32 } s m args below meth c z 4 (MQ below (Qx z (wV Q)) args s 0 0 (own z)) (0) (0) 53 [] [] (S) := by
  exact G_vret (pc := 53) C rfl dX8_remember_53 ⟨rfl, hw⟩
set_option maxHeartbeats 4000000 in
set_option maxRecDepth 100000 in
theorem c_X8_remember (l : Launch) (z : Zt) (a0 : Nat) (a1 : Nat) (a2 : Nat) (r3 : Option Nat) (S : Hp) (Q : Hp → Prop) (hw : wp_X8_remember a0 a1 a2 r3 S Q) : Ct l z yX8_remember cX8_remember 4 none 1 32 0 0 [.ref (a0), .ref (a1), .ref (a2), va_rf (r3)] S (wV Q) := by
  refine Ct_of (by decide) (by cases r3 <;> exact Nat.le_of_ble_eq_true rfl) ?_
  intro p e s m args below meth c C
  have C : Cx p s m args meth c z cX8_remember 4 RX8 none "remember" := C
  refine G_sub (lv' := [(0, .ref (a0)), (1, .ref (a1)), (2, .ref (a2)), (3, va_rf (r3))]) [0, 1, 2, 3] rfl ?_
  refine G_aload_n (pc := 0) C 0 dX8_remember_0 rfl rfl ?_
  obtain ⟨hk, hw⟩ := hw
  refine gf_RX8_12 (pc := 1) C dX8_remember_1 hk ?_
  refine G_aload_n (pc := 4) C 1 dX8_remember_4 rfl rfl ?_
  obtain ⟨b1, hq, hw⟩ := hw
  rw [hq]
  obtain ⟨hk, hw⟩ := hw
  refine cl_RX8_26 (pc := 5) C (c_X2_copyOf l z (b1) (a1) S _ hw) ⟨Nat.le_of_ble_eq_true rfl, Nat.le_of_ble_eq_true rfl⟩ hk dX8_remember_5 (Nat.le_of_ble_eq_true rfl) (fun v S' hp => ?_)
  clear hw
  obtain ⟨rfl, hw⟩ := hp
  generalize S' = S3 at hw ⊢
  refine G_aload_n (pc := 8) C 0 dX8_remember_8 rfl rfl ?_
  refine G_aload_n (pc := 9) C 2 dX8_remember_9 rfl rfl ?_
  obtain ⟨hk, hw⟩ := hw
  refine pf_RX8_18 (pc := 10) C (v := some a2) dX8_remember_10 hk ?_
  obtain ⟨S4, hS4⟩ : ∃ y : Hp, y = sR S3 130 a0 0 (some a2) := ⟨_, rfl⟩
  have hw := hw S4 hS4
  rw [← hS4]
  clear hS4
  refine G_aload_n (pc := 13) C 0 dX8_remember_13 rfl rfl ?_
  refine G_aload_nQ (pc := 14) C 3 dX8_remember_14 rfl rfl ?_
  obtain ⟨hk, hw⟩ := hw
  refine pf_RX8_30 (pc := 15) C (v := r3) dX8_remember_15 hk ?_
  obtain ⟨S5, hS5⟩ : ∃ y : Hp, y = sR S4 131 a0 0 (r3) := ⟨_, rfl⟩
  have hw := hw S5 hS5
  rw [← hS5]
  clear hS5
  refine G_aload_nQ (pc := 18) C 3 dX8_remember_18 rfl rfl ?_
  refine G_ifnull (pc := 19) C 53 dX8_remember_19 (by decide) (fun hc => ?_) (fun b6 hc => ?_)
  · have hw := hw.1 hc
    exact G_sub [] rfl (g_X8_remember_53 C  hw)
  · replace hw := hw.2 b6 hc
    try rw [hc]
    refine G_aload_n (pc := 22) C 3 dX8_remember_22 rfl rfl ?_
    obtain ⟨hk, hw⟩ := hw
    refine gf_RX8_34 (pc := 23) C dX8_remember_23 hk ?_
    refine G_iconst (pc := 26) C (v := 0) dX8_remember_26 (by decide) ?_
    refine G_aload_n (pc := 27) C 0 dX8_remember_27 rfl rfl ?_
    obtain ⟨hk, hw⟩ := hw
    refine gf_RX8_22 (pc := 28) C dX8_remember_28 hk ?_
    refine G_iconst (pc := 31) C (v := 0) dX8_remember_31 (by decide) ?_
    refine G_bipush (pc := 32) C (v := 40) dX8_remember_32 (by decide) ?_
    obtain ⟨b7, hq, hw⟩ := hw
    rw [hq]
    obtain ⟨b8, hq, hw⟩ := hw
    rw [hq]
    obtain ⟨hk1, hk2, hne, hl1, hl2, hw⟩ := hw
    refine G_copy (pc := 34) C 40 mw_RX8_39 (by decide) hk1 hk2 hne hl1 hl2 (by decide) (by decide) dX8_remember_34 ?_
    obtain ⟨S9, hS9⟩ : ∃ y : Hp, y = cpA S5 b7 b8 40 := ⟨_, rfl⟩
    have hw := hw S9 hS9
    rw [← hS9]
    clear hS9
    refine G_aload_n (pc := 37) C 0 dX8_remember_37 rfl rfl ?_
    refine G_aload_n (pc := 38) C 3 dX8_remember_38 rfl rfl ?_
    obtain ⟨hk, hw⟩ := hw
    refine gf_RX8_45 (pc := 39) C dX8_remember_39 hk ?_
    obtain ⟨hk, hw⟩ := hw
    refine pf_RX8_49 (pc := 42) C dX8_remember_42 hk ?_
    obtain ⟨S10, hS10⟩ : ∃ y : Hp, y = sI S9 133 a0 0 (gI S9 67 b6 0) := ⟨_, rfl⟩
    have hw := hw S10 hS10
    rw [← hS10]
    clear hS10
    refine G_aload_n (pc := 45) C 0 dX8_remember_45 rfl rfl ?_
    refine G_aload_n (pc := 46) C 3 dX8_remember_46 rfl rfl ?_
    obtain ⟨hk, hw⟩ := hw
    refine gf_RX8_50 (pc := 47) C dX8_remember_47 hk ?_
    obtain ⟨hk, hw⟩ := hw
    obtain ⟨hb, hw⟩ := hw
    refine pf_RX8_54 (pc := 50) C dX8_remember_50 hk hb ?_
    obtain ⟨S11, hS11⟩ : ∃ y : Hp, y = sI S10 134 a0 0 (gI S10 68 b6 0) := ⟨_, rfl⟩
    have hw := hw S11 hS11
    rw [← hS11]
    clear hS11
    exact G_sub [] rfl (g_X8_remember_53 C  hw)
/-! FirstParts$Step.giveBack(LFirstParts$Line;)V -/
abbrev wp_X8_giveBack_55  (Q : Hp → Prop)  (S : Hp) : Prop :=
  Q S
abbrev wp_X8_giveBack (a0 : Nat) (a1 : Nat) (S : Hp) (Q : Hp → Prop) : Prop :=
  kd S a0 = 9 ∧ ∃ b1, (gR S 129 a0 0) = some b1 ∧ kd S a1 = 3 ∧ wp_X2_copyOf (a1) (b1) S (fun S3 => kd S3 a0 = 9 ∧ (((gR S3 131 a0 0) = none → wp_X8_giveBack_55 Q (S3)) ∧ (∀ b4, (gR S3 131 a0 0) = some b4 → kd S3 a0 = 9 ∧ kd S3 a0 = 9 ∧ ∃ b5, (gR S3 131 a0 0) = some b5 ∧ kd S3 b5 = 5 ∧ ∃ b6, (gR S3 132 a0 0) = some b6 ∧ ∃ b7, (gR S3 66 b5 0) = some b7 ∧ kd S3 b6 = 20 ∧ kd S3 b7 = 20 ∧ b6 ≠ b7 ∧ 40 ≤ ln S3 b6 ∧ 40 ≤ ln S3 b7 ∧ ∀ S8 : Hp, S8 = cpA S3 b6 b7 40 → kd S8 a0 = 9 ∧ kd S8 a0 = 9 ∧ ∃ b9, (gR S8 131 a0 0) = some b9 ∧ kd S8 b9 = 5 ∧ ∀ S10 : Hp, S10 = sI S8 67 b9 0 (gI S8 133 a0 0) → kd S10 a0 = 9 ∧ kd S10 a0 = 9 ∧ ∃ b11, (gR S10 131 a0 0) = some b11 ∧ kd S10 b11 = 5 ∧ ((gI S10 134 a0 0) = 0 ∨ (gI S10 134 a0 0) = 1) ∧ ∀ S12 : Hp, S12 = sI S10 68 b11 0 (gI S10 134 a0 0) → wp_X8_giveBack_55 Q (S12))))
set_option maxHeartbeats 4000000 in
set_option maxRecDepth 100000 in
theorem g_X8_giveBack_55 (C : Cx p s m args meth c z cX8_giveBack 2 RX8 none "giveBack")  {Q : Hp → Prop}  {S : Hp}   (hw : wp_X8_giveBack_55  Q  S) : Go p l e { frames := 1, cells := 0, slots := 0, locals := 32 } s m args below meth c z 2 (MQ below (Qx z (wV Q)) args s 0 0 (own z)) (0) (0) 55 [] [] (S) := by
  exact G_vret (pc := 55) C rfl dX8_giveBack_55 ⟨rfl, hw⟩
set_option maxHeartbeats 4000000 in
set_option maxRecDepth 100000 in
theorem c_X8_giveBack (l : Launch) (z : Zt) (a0 : Nat) (a1 : Nat) (S : Hp) (Q : Hp → Prop) (hw : wp_X8_giveBack a0 a1 S Q) : Ct l z yX8_giveBack cX8_giveBack 2 none 1 32 0 0 [.ref (a0), .ref (a1)] S (wV Q) := by
  refine Ct_of (by decide) (Nat.le_of_ble_eq_true rfl) ?_
  intro p e s m args below meth c C
  have C : Cx p s m args meth c z cX8_giveBack 2 RX8 none "giveBack" := C
  refine G_sub (lv' := [(0, .ref (a0)), (1, .ref (a1))]) [0, 1] rfl ?_
  refine G_aload_n (pc := 0) C 1 dX8_giveBack_0 rfl rfl ?_
  refine G_aload_n (pc := 1) C 0 dX8_giveBack_1 rfl rfl ?_
  obtain ⟨hk, hw⟩ := hw
  refine gf_RX8_12 (pc := 2) C dX8_giveBack_2 hk ?_
  obtain ⟨b1, hq, hw⟩ := hw
  rw [hq]
  obtain ⟨hk, hw⟩ := hw
  refine cl_RX8_26 (pc := 5) C (c_X2_copyOf l z (a1) (b1) S _ hw) ⟨Nat.le_of_ble_eq_true rfl, Nat.le_of_ble_eq_true rfl⟩ hk dX8_giveBack_5 (Nat.le_of_ble_eq_true rfl) (fun v S' hp => ?_)
  clear hw
  obtain ⟨rfl, hw⟩ := hp
  generalize S' = S3 at hw ⊢
  refine G_aload_n (pc := 8) C 0 dX8_giveBack_8 rfl rfl ?_
  obtain ⟨hk, hw⟩ := hw
  refine gf_RX8_30 (pc := 9) C dX8_giveBack_9 hk ?_
  refine G_ifnull (pc := 12) C 55 dX8_giveBack_12 (by decide) (fun hc => ?_) (fun b4 hc => ?_)
  · have hw := hw.1 hc
    exact G_sub [] rfl (g_X8_giveBack_55 C  hw)
  · replace hw := hw.2 b4 hc
    refine G_aload_n (pc := 15) C 0 dX8_giveBack_15 rfl rfl ?_
    obtain ⟨hk, hw⟩ := hw
    refine gf_RX8_22 (pc := 16) C dX8_giveBack_16 hk ?_
    refine G_iconst (pc := 19) C (v := 0) dX8_giveBack_19 (by decide) ?_
    refine G_aload_n (pc := 20) C 0 dX8_giveBack_20 rfl rfl ?_
    obtain ⟨hk, hw⟩ := hw
    refine gf_RX8_30 (pc := 21) C dX8_giveBack_21 hk ?_
    obtain ⟨b5, hq, hw⟩ := hw
    rw [hq]
    obtain ⟨hk, hw⟩ := hw
    refine gf_RX8_34 (pc := 24) C dX8_giveBack_24 hk ?_
    refine G_iconst (pc := 27) C (v := 0) dX8_giveBack_27 (by decide) ?_
    refine G_bipush (pc := 28) C (v := 40) dX8_giveBack_28 (by decide) ?_
    obtain ⟨b6, hq, hw⟩ := hw
    rw [hq]
    obtain ⟨b7, hq, hw⟩ := hw
    rw [hq]
    obtain ⟨hk1, hk2, hne, hl1, hl2, hw⟩ := hw
    refine G_copy (pc := 30) C 40 mw_RX8_39 (by decide) hk1 hk2 hne hl1 hl2 (by decide) (by decide) dX8_giveBack_30 ?_
    obtain ⟨S8, hS8⟩ : ∃ y : Hp, y = cpA S3 b6 b7 40 := ⟨_, rfl⟩
    have hw := hw S8 hS8
    rw [← hS8]
    clear hS8
    refine G_aload_n (pc := 33) C 0 dX8_giveBack_33 rfl rfl ?_
    obtain ⟨hk, hw⟩ := hw
    refine gf_RX8_30 (pc := 34) C dX8_giveBack_34 hk ?_
    refine G_aload_n (pc := 37) C 0 dX8_giveBack_37 rfl rfl ?_
    obtain ⟨hk, hw⟩ := hw
    refine gf_RX8_49 (pc := 38) C dX8_giveBack_38 hk ?_
    obtain ⟨b9, hq, hw⟩ := hw
    rw [hq]
    obtain ⟨hk, hw⟩ := hw
    refine pf_RX8_45 (pc := 41) C dX8_giveBack_41 hk ?_
    obtain ⟨S10, hS10⟩ : ∃ y : Hp, y = sI S8 67 b9 0 (gI S8 133 a0 0) := ⟨_, rfl⟩
    have hw := hw S10 hS10
    rw [← hS10]
    clear hS10
    refine G_aload_n (pc := 44) C 0 dX8_giveBack_44 rfl rfl ?_
    obtain ⟨hk, hw⟩ := hw
    refine gf_RX8_30 (pc := 45) C dX8_giveBack_45 hk ?_
    refine G_aload_n (pc := 48) C 0 dX8_giveBack_48 rfl rfl ?_
    obtain ⟨hk, hw⟩ := hw
    refine gf_RX8_54 (pc := 49) C dX8_giveBack_49 hk ?_
    obtain ⟨b11, hq, hw⟩ := hw
    rw [hq]
    obtain ⟨hk, hw⟩ := hw
    obtain ⟨hb, hw⟩ := hw
    refine pf_RX8_50 (pc := 52) C dX8_giveBack_52 hk hb ?_
    obtain ⟨S12, hS12⟩ : ∃ y : Hp, y = sI S10 68 b11 0 (gI S10 134 a0 0) := ⟨_, rfl⟩
    have hw := hw S12 hS12
    rw [← hS12]
    clear hS12
    exact G_sub [] rfl (g_X8_giveBack_55 C  hw)
/-! FirstParts$Steps.<init>(LFirstParts$Packed;)V -/
abbrev wb_X9_init_15  (K15 : Int32 → Hp → Nat → Nat → Prop) (Q : Hp → Prop) (v0 : Nat) (v1 : Nat) (v2 : Int32) (S : Hp) (bc bs : Nat) : Prop :=
  (((8 : Int32) ≤ v2 → Q S) ∧ (¬ (8 : Int32) ≤ v2 → kd S v0 = 10 ∧ 1 ≤ bc ∧ 6 ≤ bs ∧ ∀ n4 : Nat, n4 = sz S → ∀ S5 : Hp, S5 = nw S 9 (0) → 5 ≤ (bc - 1) ∧ 53 ≤ (bs - 6) ∧ ∃ b8, (gR S 145 v0 0) = some b8 ∧ wp_X8_init (n4) (v1) S5 (fun S7 => kd S7 b8 = 24 ∧ kd S7 n4 = 9 ∧ vp_in v2 (ln S7 b8) ∧ ∀ S9 : Hp, S9 = sR S7 0 b8 (v2).toNatClampNeg (some n4) → ∀ e10 : Int32, e10 = (v2 + 1) → K15 (e10) (S9) (((bc - 1) - 5)) (((bs - 6) - 53)))))
abbrev wp_X9_init_15  (Q : Hp → Prop) (v0 : Nat) (v1 : Nat) (v2 : Int32) (S : Hp) (bc bs : Nat) : Prop :=
  Lp (X := Int32 × Hp × Nat × Nat) (fun K y => wb_X9_init_15  (fun w0 w1 w2 w3 => K (w0, w1, w2, w3)) Q v0 v1 y.1 y.2.1 (y.2.2.1) (y.2.2.2)) (v2, S, bc, bs)
abbrev wp_X9_init (a0 : Nat) (a1 : Nat) (S : Hp) (Q : Hp → Prop) : Prop :=
  1 ≤ 49 ∧ 8 ≤ 480 ∧ ∀ n1 : Nat, n1 = sz S → ∀ S2 : Hp, S2 = nw S 24 (8) → kd S2 a0 = 10 ∧ ∀ S3 : Hp, S3 = sR S2 145 a0 0 (some n1) → wp_X9_init_15 Q (a0) (a1) ((0 : Int32)) (S3) ((49 - 1)) ((480 - 8))
set_option maxHeartbeats 4000000 in
set_option maxRecDepth 100000 in
theorem gb_X9_init_15 (C : Cx p s m args meth c z cX9_init 3 RX9 none "<init>") {K15 : Int32 → Hp → Nat → Nat → Prop} {Q : Hp → Prop} {v0 : Nat} {v1 : Nat} {v2 : Int32} {S : Hp} {bc bs : Nat}  (hK15 : ∀ (w2 : Int32) (S2 : Hp) (bc2 bs2 : Nat), K15 w2 S2 bc2 bs2 → Go p l e { frames := 4, cells := 49, slots := 480, locals := 86 } s m args below meth c z 3 (MQ below (Qx z (wV Q)) args s 49 480 (own z)) (bc2) (bs2) 15 [(0, .ref (v0)), (1, .ref (v1)), (2, .int (w2))] [] (S2)) (hw : wb_X9_init_15  K15 Q v0 v1 v2 S bc bs) : Go p l e { frames := 4, cells := 49, slots := 480, locals := 86 } s m args below meth c z 3 (MQ below (Qx z (wV Q)) args s 49 480 (own z)) (bc) (bs) 15 [(0, .ref (v0)), (1, .ref (v1)), (2, .int (v2))] [] (S) := by
  refine G_iload_n (pc := 15) C 2 dX9_init_15 rfl rfl ?_
  refine G_bipush (pc := 16) C (v := 8) dX9_init_16 (by decide) ?_
  refine G_icmp_ge (pc := 18) C 41 dX9_init_18 (by decide) (fun hc => ?_) (fun hc => ?_)
  · have hw := hw.1 hc
    exact G_vret (pc := 41) C rfl dX9_init_41 ⟨rfl, hw⟩
  · have hw := hw.2 hc
    refine G_aload_n (pc := 21) C 0 dX9_init_21 rfl rfl ?_
    obtain ⟨hk, hw⟩ := hw
    refine gf_RX9_11 (pc := 22) C dX9_init_22 hk ?_
    refine G_iload_n (pc := 25) C 2 dX9_init_25 rfl rfl ?_
    obtain ⟨hb1, hb2, hw⟩ := hw
    refine G_less (bc' := (bc - 1) + 1) (bs' := (bs - 6) + 6) (by omega) (by omega) ?_
    refine nw_RX9_9 (pc := 26) C dX9_init_26 ?_
    obtain ⟨n4, hn4⟩ : ∃ y : Nat, y = sz S := ⟨_, rfl⟩
    obtain ⟨S5, hS5⟩ : ∃ y : Hp, y = nw S 9 (0) := ⟨_, rfl⟩
    have hw := hw n4 hn4 S5 hS5
    rw [← hn4]
    rw [← hS5]
    clear hn4 hS5
    refine G_dup (pc := 29) C dX9_init_29 rfl ?_
    refine G_aload_n (pc := 30) C 1 dX9_init_30 rfl rfl ?_
    obtain ⟨hb1, hb2, hw⟩ := hw
    refine G_less (bc' := ((bc - 1) - 5) + 5) (bs' := ((bs - 6) - 53) + 53) (by omega) (by omega) ?_
    obtain ⟨b8, hq, hw⟩ := hw
    rw [hq]
    refine cl_RX9_17 (pc := 31) C (c_X8_init l z (n4) (v1) S5 _ hw) ⟨Nat.le_of_ble_eq_true rfl, Nat.le_of_ble_eq_true rfl⟩ dX9_init_31 (Nat.le_of_ble_eq_true rfl) (fun v S' hp => ?_)
    clear hw
    obtain ⟨rfl, hw⟩ := hp
    generalize S' = S7 at hw ⊢
    obtain ⟨hk, hv, hi, hw⟩ := hw
    refine G_aast (pc := 34) C 4 8 6 rfl (by decide) rfl rfl hk hv hi dX9_init_34 ?_
    obtain ⟨S9, hS9⟩ : ∃ y : Hp, y = sR S7 0 b8 (v2).toNatClampNeg (some n4) := ⟨_, rfl⟩
    have hw := hw S9 hS9
    rw [← hS9]
    clear hS9
    obtain ⟨e10, he10⟩ : ∃ y : Int32, y = (v2 + 1) := ⟨_, rfl⟩
    have hw := hw e10 he10
    refine G_iinc (pc := 35) C [(2, .int (e10)), (0, .ref (v0)), (1, .ref (v1))] 2 (v := e10) dX9_init_35 rfl (by rw [he10]; rfl) (by decide) rfl ?_
    clear he10
    refine G_goto (pc := 38) C 15 dX9_init_38 (by decide) ?_
    exact G_sub [1, 2, 0] rfl (hK15 _ _ _ _ hw)
set_option maxHeartbeats 4000000 in
set_option maxRecDepth 100000 in
theorem g_X9_init_15 (C : Cx p s m args meth c z cX9_init 3 RX9 none "<init>")  {Q : Hp → Prop} {v0 : Nat} {v1 : Nat} {v2 : Int32} {S : Hp} {bc bs : Nat}   (hw : wp_X9_init_15  Q v0 v1 v2 S bc bs) : Go p l e { frames := 4, cells := 49, slots := 480, locals := 86 } s m args below meth c z 3 (MQ below (Qx z (wV Q)) args s 49 480 (own z)) (bc) (bs) 15 [(0, .ref (v0)), (1, .ref (v1)), (2, .int (v2))] [] (S) :=
  Lp_go (G := fun y : Int32 × Hp × Nat × Nat => Go p l e { frames := 4, cells := 49, slots := 480, locals := 86 } s m args below meth c z 3 (MQ below (Qx z (wV Q)) args s 49 480 (own z)) (y.2.2.1) (y.2.2.2) 15 [(0, .ref (v0)), (1, .ref (v1)), (2, .int (y.1))] [] (y.2.1)) (fun K y hK hB => gb_X9_init_15 C  (fun w0 w1 w2 w3 h => hK (w0, w1, w2, w3) h) hB) hw
set_option maxHeartbeats 4000000 in
set_option maxRecDepth 100000 in
theorem c_X9_init (l : Launch) (z : Zt) (a0 : Nat) (a1 : Nat) (S : Hp) (Q : Hp → Prop) (hw : wp_X9_init a0 a1 S Q) : Ct l z yX9_init cX9_init 3 none 4 86 49 480 [.ref (a0), .ref (a1)] S (wV Q) := by
  refine Ct_of (by decide) (Nat.le_of_ble_eq_true rfl) ?_
  intro p e s m args below meth c C
  have C : Cx p s m args meth c z cX9_init 3 RX9 none "<init>" := C
  refine G_sub (lv' := [(0, .ref (a0)), (1, .ref (a1))]) [0, 1] rfl ?_
  refine G_aload_n (pc := 0) C 0 dX9_init_0 rfl rfl ?_
  refine G_objInit (pc := 1) C oi_RX9_3 (by decide) (by decide) dX9_init_1 ?_
  refine G_aload_n (pc := 4) C 0 dX9_init_4 rfl rfl ?_
  refine G_bipush (pc := 5) C (v := 8) dX9_init_5 (by decide) ?_
  obtain ⟨hb1, hb2, hw⟩ := hw
  refine G_less (bc' := (49 - 1) + 1) (bs' := (480 - 8) + 8) (by omega) (by omega) ?_
  refine G_anew (pc := 7) C (n := (8 : Int32)) 4 8 rfl (by decide) (by decide) cw_RX9_9 (by decide) (by decide) (by decide) dX9_init_7 ?_
  obtain ⟨n1, hn1⟩ : ∃ y : Nat, y = sz S := ⟨_, rfl⟩
  obtain ⟨S2, hS2⟩ : ∃ y : Hp, y = nw S 24 (8) := ⟨_, rfl⟩
  have hw := hw n1 hn1 S2 hS2
  rw [← hn1]
  rw [← hS2]
  clear hn1 hS2
  obtain ⟨hk, hw⟩ := hw
  refine pf_RX9_11 (pc := 10) C rfl (v := some n1) dX9_init_10 hk ?_
  obtain ⟨S3, hS3⟩ : ∃ y : Hp, y = sR S2 145 a0 0 (some n1) := ⟨_, rfl⟩
  have hw := hw S3 hS3
  rw [← hS3]
  clear hS3
  refine G_iconst (pc := 13) C (v := 0) dX9_init_13 (by decide) ?_
  refine G_istore_n (pc := 14) C [(2, .int ((0 : Int32))), (0, .ref (a0)), (1, .ref (a1))] dX9_init_14 rfl (by decide) rfl ?_
  exact G_sub [1, 2, 0] rfl (g_X9_init_15 C  hw)
/-! FirstParts$Steps.keep(LFirstParts$Line;LFirstParts$Packed;LFirstParts$Packet;)V -/
abbrev wp_X9_keep (a0 : Nat) (a1 : Nat) (a2 : Nat) (r3 : Option Nat) (S : Hp) (Q : Hp → Prop) : Prop :=
  kd S a0 = 10 ∧ kd S a0 = 10 ∧ ∃ b1, (gR S 145 a0 0) = some b1 ∧ kd S b1 = 24 ∧ vp_in (gI S 146 a0 0) (ln S b1) ∧ ∃ b2, (gR S 0 b1 ((gI S 146 a0 0)).toNatClampNeg) = some b2 ∧ kd S b2 = 9 ∧ wp_X8_remember (b2) (a1) (a2) (r3) S (fun S4 => kd S4 a0 = 10 ∧ ¬ (8 : Int32) = 0 ∧ kd S4 a0 = 10 ∧ ∀ S5 : Hp, S5 = sI S4 146 a0 0 (((gI S4 146 a0 0) + (1 : Int32)) - ((gI S4 146 a0 0) + (1 : Int32)) / (8 : Int32) * (8 : Int32)) → kd S5 a0 = 10 ∧ wp_J9_min_7cf53 (((gI S5 147 a0 0) + (1 : Int32))) ((8 : Int32)) S5 (fun e6 => kd S5 a0 = 10 ∧ ∀ S8 : Hp, S8 = sI S5 147 a0 0 e6 → Q S8))
set_option maxHeartbeats 4000000 in
set_option maxRecDepth 100000 in
theorem c_X9_keep (l : Launch) (z : Zt) (a0 : Nat) (a1 : Nat) (a2 : Nat) (r3 : Option Nat) (S : Hp) (Q : Hp → Prop) (hw : wp_X9_keep a0 a1 a2 r3 S Q) : Ct l z yX9_keep cX9_keep 4 none 2 55 0 0 [.ref (a0), .ref (a1), .ref (a2), va_rf (r3)] S (wV Q) := by
  refine Ct_of (by decide) (by cases r3 <;> exact Nat.le_of_ble_eq_true rfl) ?_
  intro p e s m args below meth c C
  have C : Cx p s m args meth c z cX9_keep 4 RX9 none "keep" := C
  refine G_sub (lv' := [(0, .ref (a0)), (1, .ref (a1)), (2, .ref (a2)), (3, va_rf (r3))]) [0, 1, 2, 3] rfl ?_
  refine G_aload_n (pc := 0) C 0 dX9_keep_0 rfl rfl ?_
  obtain ⟨hk, hw⟩ := hw
  refine gf_RX9_11 (pc := 1) C dX9_keep_1 hk ?_
  refine G_aload_n (pc := 4) C 0 dX9_keep_4 rfl rfl ?_
  obtain ⟨hk, hw⟩ := hw
  refine gf_RX9_20 (pc := 5) C dX9_keep_5 hk ?_
  obtain ⟨b1, hq, hw⟩ := hw
  rw [hq]
  obtain ⟨hk, hi, hw⟩ := hw
  refine G_aald (pc := 8) C 4 rfl (by decide) rfl hk hi dX9_keep_8 ?_
  refine G_aload_n (pc := 9) C 1 dX9_keep_9 rfl rfl ?_
  refine G_aload_n (pc := 10) C 2 dX9_keep_10 rfl rfl ?_
  refine G_aload_nQ (pc := 11) C 3 dX9_keep_11 rfl rfl ?_
  obtain ⟨b2, hq, hw⟩ := hw
  rw [hq]
  obtain ⟨hk, hw⟩ := hw
  refine cl_RX9_24 (pc := 12) C (c_X8_remember l z (b2) (a1) (a2) (r3) S _ hw) ⟨Nat.le_of_ble_eq_true rfl, Nat.le_of_ble_eq_true rfl⟩ hk dX9_keep_12 (Nat.le_of_ble_eq_true rfl) (fun v S' hp => ?_)
  clear hw
  obtain ⟨rfl, hw⟩ := hp
  generalize S' = S4 at hw ⊢
  refine G_aload_n (pc := 15) C 0 dX9_keep_15 rfl rfl ?_
  refine G_aload_n (pc := 16) C 0 dX9_keep_16 rfl rfl ?_
  obtain ⟨hk, hw⟩ := hw
  refine gf_RX9_20 (pc := 17) C dX9_keep_17 hk ?_
  refine G_iconst (pc := 20) C (v := 1) dX9_keep_20 (by decide) ?_
  refine G_iadd (pc := 21) C dX9_keep_21 ?_
  refine G_bipush (pc := 22) C (v := 8) dX9_keep_22 (by decide) ?_
  obtain ⟨h0, hw⟩ := hw
  refine G_irem (pc := 24) C dX9_keep_24 h0 ?_
  obtain ⟨hk, hw⟩ := hw
  refine pf_RX9_20 (pc := 25) C dX9_keep_25 hk ?_
  obtain ⟨S5, hS5⟩ : ∃ y : Hp, y = sI S4 146 a0 0 (((gI S4 146 a0 0) + (1 : Int32)) - ((gI S4 146 a0 0) + (1 : Int32)) / (8 : Int32) * (8 : Int32)) := ⟨_, rfl⟩
  have hw := hw S5 hS5
  rw [← hS5]
  clear hS5
  refine G_aload_n (pc := 28) C 0 dX9_keep_28 rfl rfl ?_
  refine G_aload_n (pc := 29) C 0 dX9_keep_29 rfl rfl ?_
  obtain ⟨hk, hw⟩ := hw
  refine gf_RX9_28 (pc := 30) C dX9_keep_30 hk ?_
  refine G_iconst (pc := 33) C (v := 1) dX9_keep_33 (by decide) ?_
  refine G_iadd (pc := 34) C dX9_keep_34 ?_
  refine G_bipush (pc := 35) C (v := 8) dX9_keep_35 (by decide) ?_
  refine cl_RX9_31 (pc := 37) C (c_J9_min_7cf53 l z (((gI S5 147 a0 0) + (1 : Int32))) ((8 : Int32)) S5 _ hw) ⟨Nat.le_of_ble_eq_true rfl, Nat.le_of_ble_eq_true rfl⟩ dX9_keep_37 (Nat.le_of_ble_eq_true rfl) (fun v S' hp => ?_)
  clear hw
  obtain ⟨hS, e6, rfl, hw⟩ := hp
  subst S'
  obtain ⟨hk, hw⟩ := hw
  refine pf_RX9_28 (pc := 40) C dX9_keep_40 hk ?_
  obtain ⟨S8, hS8⟩ : ∃ y : Hp, y = sI S5 147 a0 0 e6 := ⟨_, rfl⟩
  have hw := hw S8 hS8
  rw [← hS8]
  clear hS8
  exact G_vret (pc := 43) C rfl dX9_keep_43 ⟨rfl, hw⟩
/-! FirstParts$Steps.takeBack()LFirstParts$Step; -/
abbrev wp_X9_takeBack (a0 : Nat) (S : Hp) (Q : Nat → Hp → Prop) : Prop :=
  kd S a0 = 10 ∧ ¬ (8 : Int32) = 0 ∧ kd S a0 = 10 ∧ ∀ S1 : Hp, S1 = sI S 146 a0 0 ((((gI S 146 a0 0) + (8 : Int32)) - (1 : Int32)) - (((gI S 146 a0 0) + (8 : Int32)) - (1 : Int32)) / (8 : Int32) * (8 : Int32)) → kd S1 a0 = 10 ∧ wp_J9_max_7cf53 ((0 : Int32)) (((gI S1 147 a0 0) - (1 : Int32))) S1 (fun e2 => kd S1 a0 = 10 ∧ ∀ S4 : Hp, S4 = sI S1 147 a0 0 e2 → kd S4 a0 = 10 ∧ kd S4 a0 = 10 ∧ ∃ b5, (gR S4 145 a0 0) = some b5 ∧ kd S4 b5 = 24 ∧ vp_in (gI S4 146 a0 0) (ln S4 b5) ∧ ∃ b6, (gR S4 0 b5 ((gI S4 146 a0 0)).toNatClampNeg) = some b6 ∧ Q b6 S4)
set_option maxHeartbeats 4000000 in
set_option maxRecDepth 100000 in
theorem c_X9_takeBack (l : Launch) (z : Zt) (a0 : Nat) (S : Hp) (Q : Nat → Hp → Prop) (hw : wp_X9_takeBack a0 S Q) : Ct l z yX9_takeBack cX9_takeBack 1 (some (.object "FirstParts$Step")) 1 21 0 0 [.ref (a0)] S (wA Q) := by
  refine Ct_of (by decide) (Nat.le_of_ble_eq_true rfl) ?_
  intro p e s m args below meth c C
  have C : Cx p s m args meth c z cX9_takeBack 1 RX9 (some (.object "FirstParts$Step")) "takeBack" := C
  refine G_sub (lv' := [(0, .ref (a0))]) [0] rfl ?_
  refine G_aload_n (pc := 0) C 0 dX9_takeBack_0 rfl rfl ?_
  refine G_aload_n (pc := 1) C 0 dX9_takeBack_1 rfl rfl ?_
  obtain ⟨hk, hw⟩ := hw
  refine gf_RX9_20 (pc := 2) C dX9_takeBack_2 hk ?_
  refine G_bipush (pc := 5) C (v := 8) dX9_takeBack_5 (by decide) ?_
  refine G_iadd (pc := 7) C dX9_takeBack_7 ?_
  refine G_iconst (pc := 8) C (v := 1) dX9_takeBack_8 (by decide) ?_
  refine G_isub (pc := 9) C dX9_takeBack_9 ?_
  refine G_bipush (pc := 10) C (v := 8) dX9_takeBack_10 (by decide) ?_
  obtain ⟨h0, hw⟩ := hw
  refine G_irem (pc := 12) C dX9_takeBack_12 h0 ?_
  obtain ⟨hk, hw⟩ := hw
  refine pf_RX9_20 (pc := 13) C dX9_takeBack_13 hk ?_
  obtain ⟨S1, hS1⟩ : ∃ y : Hp, y = sI S 146 a0 0 ((((gI S 146 a0 0) + (8 : Int32)) - (1 : Int32)) - (((gI S 146 a0 0) + (8 : Int32)) - (1 : Int32)) / (8 : Int32) * (8 : Int32)) := ⟨_, rfl⟩
  have hw := hw S1 hS1
  rw [← hS1]
  clear hS1
  refine G_aload_n (pc := 16) C 0 dX9_takeBack_16 rfl rfl ?_
  refine G_iconst (pc := 17) C (v := 0) dX9_takeBack_17 (by decide) ?_
  refine G_aload_n (pc := 18) C 0 dX9_takeBack_18 rfl rfl ?_
  obtain ⟨hk, hw⟩ := hw
  refine gf_RX9_28 (pc := 19) C dX9_takeBack_19 hk ?_
  refine G_iconst (pc := 22) C (v := 1) dX9_takeBack_22 (by decide) ?_
  refine G_isub (pc := 23) C dX9_takeBack_23 ?_
  refine cl_RX9_37 (pc := 24) C (c_J9_max_7cf53 l z ((0 : Int32)) (((gI S1 147 a0 0) - (1 : Int32))) S1 _ hw) ⟨Nat.le_of_ble_eq_true rfl, Nat.le_of_ble_eq_true rfl⟩ dX9_takeBack_24 (Nat.le_of_ble_eq_true rfl) (fun v S' hp => ?_)
  clear hw
  obtain ⟨hS, e2, rfl, hw⟩ := hp
  subst S'
  obtain ⟨hk, hw⟩ := hw
  refine pf_RX9_28 (pc := 27) C dX9_takeBack_27 hk ?_
  obtain ⟨S4, hS4⟩ : ∃ y : Hp, y = sI S1 147 a0 0 e2 := ⟨_, rfl⟩
  have hw := hw S4 hS4
  rw [← hS4]
  clear hS4
  refine G_aload_n (pc := 30) C 0 dX9_takeBack_30 rfl rfl ?_
  obtain ⟨hk, hw⟩ := hw
  refine gf_RX9_11 (pc := 31) C dX9_takeBack_31 hk ?_
  refine G_aload_n (pc := 34) C 0 dX9_takeBack_34 rfl rfl ?_
  obtain ⟨hk, hw⟩ := hw
  refine gf_RX9_20 (pc := 35) C dX9_takeBack_35 hk ?_
  obtain ⟨b5, hq, hw⟩ := hw
  rw [hq]
  obtain ⟨hk, hi, hw⟩ := hw
  refine G_aald (pc := 38) C 4 rfl (by decide) rfl hk hi dX9_takeBack_38 ?_
  obtain ⟨b6, hq, hw⟩ := hw
  rw [hq]
  exact G_aret (pc := 39) C rfl (by first | exact Or.inl ⟨_, rfl⟩ | exact Or.inr ⟨_, rfl⟩) dX9_takeBack_39 ⟨_, rfl, hw⟩
/-! FirstParts$Steps.forget()V -/
abbrev wp_X9_forget (a0 : Nat) (S : Hp) (Q : Hp → Prop) : Prop :=
  kd S a0 = 10 ∧ ∀ S1 : Hp, S1 = sI S 147 a0 0 (0 : Int32) → Q S1
set_option maxHeartbeats 4000000 in
set_option maxRecDepth 100000 in
theorem c_X9_forget (l : Launch) (z : Zt) (a0 : Nat) (S : Hp) (Q : Hp → Prop) (hw : wp_X9_forget a0 S Q) : Ct l z yX9_forget cX9_forget 1 none 0 0 0 0 [.ref (a0)] S (wV Q) := by
  refine Ct_of (by decide) (Nat.le_of_ble_eq_true rfl) ?_
  intro p e s m args below meth c C
  have C : Cx p s m args meth c z cX9_forget 1 RX9 none "forget" := C
  refine G_sub (lv' := [(0, .ref (a0))]) [0] rfl ?_
  refine G_aload_n (pc := 0) C 0 dX9_forget_0 rfl rfl ?_
  refine G_iconst (pc := 1) C (v := 0) dX9_forget_1 (by decide) ?_
  obtain ⟨hk, hw⟩ := hw
  refine pf_RX9_28 (pc := 2) C dX9_forget_2 hk ?_
  obtain ⟨S1, hS1⟩ : ∃ y : Hp, y = sI S 147 a0 0 (0 : Int32) := ⟨_, rfl⟩
  have hw := hw S1 hS1
  rw [← hS1]
  clear hS1
  exact G_vret (pc := 5) C rfl dX9_forget_5 ⟨rfl, hw⟩
end W21stepsleantxt
