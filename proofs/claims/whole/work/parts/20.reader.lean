section W20readerleantxt
variable {p : Program} {l : Launch} {e : Env} {R : Room} {s : State} {m : MethodId} {args : Array Value} {below : List Frame} {meth : Method} {c : Code} {z : Zt} {cc : ByteArray} {nL : Nat} {ow : String} {ret : Option FieldType} {nm : String} {Q : State → Prop} {bc bs pc : Nat} {lv : List (Nat × Value)} {st : List Value} {S : Hp}
theorem dsc_X0_init : dsc yX0_init 0 := ⟨by decide, by decide, by decide +kernel⟩
theorem cl_RX7_21 (C : Cx p s m args meth c z cc nL RX7 ret nm) {a : Nat}  {rest : List Value} {post : Option Value → Hp → Prop} (hm : Ct l z yX0_init cX0_init 1 none 1 20 0 0 [.ref a] S post) (hR : 1 + 1 ≤ R.frames ∧ 8 + (1 + 11) + 20 ≤ R.locals) (hd : decode cc pc = .ok (.invokespecial 21, 3)) (hW : (rest.map fun v => v.category).sum ≤ 8) (k : ∀ (v : Option Value) (S' : Hp), post v S' → Go p l e R s m args below meth c z nL Q bc bs (pc + 3) lv (v.toList ++ rest) S') : Go p l e R s m args below meth c z nL Q bc bs pc lv (.ref a :: rest) S := G_callIN C rfl (by decide) (gt_t 56 (by decide +kernel) rfl) (gt_t 4 (by decide +kernel) rfl) (gt_t 57 (by decide +kernel) rfl) (dsc_X0_init) hm rfl hR rfl hW hd k
theorem cw_RX7_15 : Cond.classLink RX7 15 "FirstParts$Clause" ∈ gt := gt_t 52 (by decide +kernel) rfl
theorem gf_RX7_17 (C : Cx p s m args meth c z cc nL RX7 ret nm) {a : Nat} (hd : decode cc pc = .ok (.getfield 17, 3)) (hk : kd S a = 8) (k : Go p l e R s m args below meth c z nL Q bc bs (pc + 3) lv (va_rf (gR S 114 a 0) :: st) S) : Go p l e R s m args below meth c z nL Q bc bs pc lv (.ref a :: st) S := G_getR C 7 1 8 rfl rfl (by decide) in_X7 rfl rfl (gt_t 81 (by decide +kernel) rfl) hd hk k
theorem nw_RX7_15 (C : Cx p s m args meth c z cc nL RX7 ret nm) (hd : decode cc pc = .ok (.new 15, 3)) (k : Go p l e R s m args below meth c z nL Q bc bs (pc + 3) lv (.ref (sz S) :: st) (nw S 1 0)) : Go p l e R s m args below meth c z nL Q (bc + 1) (bs + 5) pc lv st S := G_new C 0 5 rfl rfl in_X0 tyX0 tyX0_ok (by decide) (gt_t 52 (by decide +kernel) rfl) (gt_t 54 (by decide +kernel) rfl) (gt_t 4 (by decide +kernel) rfl) hd k
theorem oi_RX7_3 : Cond.methodLink RX7 3 Lib.objectInit ∈ gt := gt_t 51 (by decide +kernel) rfl
theorem pf_RX7_9 (C : Cx p s m args meth c z cc nL RX7 ret nm) {a : Nat} {v : Option Nat} (hfn : nm = "<init>") (hd : decode cc pc = .ok (.putfield 9, 3)) (hk : kd S a = 8) (k : Go p l e R s m args below meth c z nL Q bc bs (pc + 3) lv st (sR S 113 a 0 v)) : Go p l e R s m args below meth c z nL Q bc bs pc lv (va_rf v :: .ref a :: st) S := G_putR C 7 0 8 rfl rfl (by decide) in_X7 tyX7 tyX7_ok nmX7 rfl rfl (gt_t 80 (by decide +kernel) rfl) (Or.inr ⟨rfl, hfn, rfl⟩) (fun _ => rfl) rfl (fun _ => rfl) rfl hd hk k
theorem pf_RX7_17 (C : Cx p s m args meth c z cc nL RX7 ret nm) {a : Nat} {v : Option Nat} (hfn : nm = "<init>") (hd : decode cc pc = .ok (.putfield 17, 3)) (hk : kd S a = 8) (k : Go p l e R s m args below meth c z nL Q bc bs (pc + 3) lv st (sR S 114 a 0 v)) : Go p l e R s m args below meth c z nL Q bc bs pc lv (va_rf v :: .ref a :: st) S := G_putR C 7 1 8 rfl rfl (by decide) in_X7 tyX7 tyX7_ok nmX7 rfl rfl (gt_t 81 (by decide +kernel) rfl) (Or.inr ⟨rfl, hfn, rfl⟩) (fun _ => rfl) rfl (fun _ => rfl) rfl hd hk k
theorem cl_RX7_45 (C : Cx p s m args meth c z cc nL RX7 ret nm) {a : Nat} {q0 : Int32} {q1 : Int32} {rest : List Value} {post : Option Value → Hp → Prop} (hm : Ct l z yX10_isSign cX10_isSign 3 (some .boolean) 0 0 0 0 [.ref a, .int (q0), .int (q1)] S post) (hR : 0 + 1 ≤ R.frames ∧ 8 + (3 + 11) + 0 ≤ R.locals) (hk : kd S a = 11) (hd : decode cc pc = .ok (.invokevirtual 45, 3)) (hW : (rest.map fun v => v.category).sum ≤ 8) (k : ∀ (v : Option Value) (S' : Hp), post v S' → Go p l e R s m args below meth c z nL Q bc bs (pc + 3) lv (v.toList ++ rest) S') : Go p l e R s m args below meth c z nL Q bc bs pc lv (.int (q1) :: .int (q0) :: .ref a :: rest) S := G_callV C 10 2 rfl rfl (gt_t 402 (by decide +kernel) rfl) (gt_t 403 (by decide +kernel) rfl) (gt_t 404 (by decide +kernel) rfl) (gt_t 2 (by decide +kernel) rfl) (gt_t 405 (by decide +kernel) rfl) (dsc_X10_isSign) hm rfl hR hk rfl hW hd k
theorem dsc_X10_isDigit : dsc yX10_isDigit 1 := ⟨by decide, by decide, by decide +kernel⟩
theorem cl_RX7_95 (C : Cx p s m args meth c z cc nL RX7 ret nm) {a : Nat} {q0 : Int32} {rest : List Value} {post : Option Value → Hp → Prop} (hm : Ct l z yX10_isDigit cX10_isDigit 2 (some .boolean) 0 0 0 0 [.ref a, .int (q0)] S post) (hR : 0 + 1 ≤ R.frames ∧ 8 + (2 + 11) + 0 ≤ R.locals) (hk : kd S a = 11) (hd : decode cc pc = .ok (.invokevirtual 95, 3)) (hW : (rest.map fun v => v.category).sum ≤ 8) (k : ∀ (v : Option Value) (S' : Hp), post v S' → Go p l e R s m args below meth c z nL Q bc bs (pc + 3) lv (v.toList ++ rest) S') : Go p l e R s m args below meth c z nL Q bc bs pc lv (.int (q0) :: .ref a :: rest) S := G_callV C 10 2 rfl rfl (gt_t 410 (by decide +kernel) rfl) (gt_t 411 (by decide +kernel) rfl) (gt_t 412 (by decide +kernel) rfl) (gt_t 2 (by decide +kernel) rfl) (gt_t 413 (by decide +kernel) rfl) (dsc_X10_isDigit) hm rfl hR hk rfl hW hd k
theorem cl_RX7_109 (C : Cx p s m args meth c z cc nL RX7 ret nm) {a : Nat} {q0 : Int32} {rest : List Value} {post : Option Value → Hp → Prop} (hm : Ct l z yX10_isSmallLetter cX10_isSmallLetter 2 (some .boolean) 0 0 0 0 [.ref a, .int (q0)] S post) (hR : 0 + 1 ≤ R.frames ∧ 8 + (2 + 11) + 0 ≤ R.locals) (hk : kd S a = 11) (hd : decode cc pc = .ok (.invokevirtual 109, 3)) (hW : (rest.map fun v => v.category).sum ≤ 8) (k : ∀ (v : Option Value) (S' : Hp), post v S' → Go p l e R s m args below meth c z nL Q bc bs (pc + 3) lv (v.toList ++ rest) S') : Go p l e R s m args below meth c z nL Q bc bs pc lv (.int (q0) :: .ref a :: rest) S := G_callV C 10 2 rfl rfl (gt_t 406 (by decide +kernel) rfl) (gt_t 407 (by decide +kernel) rfl) (gt_t 408 (by decide +kernel) rfl) (gt_t 2 (by decide +kernel) rfl) (gt_t 409 (by decide +kernel) rfl) (dsc_X10_isSmallLetter) hm rfl hR hk rfl hW hd k
theorem gf_RX7_9 (C : Cx p s m args meth c z cc nL RX7 ret nm) {a : Nat} (hd : decode cc pc = .ok (.getfield 9, 3)) (hk : kd S a = 8) (k : Go p l e R s m args below meth c z nL Q bc bs (pc + 3) lv (va_rf (gR S 113 a 0) :: st) S) : Go p l e R s m args below meth c z nL Q bc bs pc lv (.ref a :: st) S := G_getR C 7 0 8 rfl rfl (by decide) in_X7 rfl rfl (gt_t 80 (by decide +kernel) rfl) hd hk k
theorem gf_RX7_22 (C : Cx p s m args meth c z cc nL RX7 ret nm) {a : Nat} (hd : decode cc pc = .ok (.getfield 22, 3)) (hk : kd S a = 8) (k : Go p l e R s m args below meth c z nL Q bc bs (pc + 3) lv (.int (gI S 118 a 0) :: st) S) : Go p l e R s m args below meth c z nL Q bc bs pc lv (.ref a :: st) S := G_getI C 7 5 8 rfl rfl (by decide) in_X7 rfl rfl (gt_t 87 (by decide +kernel) rfl) hd hk k
theorem gf_RX7_36 (C : Cx p s m args meth c z cc nL RX7 ret nm) {a : Nat} (hd : decode cc pc = .ok (.getfield 36, 3)) (hk : kd S a = 8) (k : Go p l e R s m args below meth c z nL Q bc bs (pc + 3) lv (.int (gI S 117 a 0) :: st) S) : Go p l e R s m args below meth c z nL Q bc bs pc lv (.ref a :: st) S := G_getI C 7 4 8 rfl rfl (by decide) in_X7 rfl rfl (gt_t 86 (by decide +kernel) rfl) hd hk k
theorem gf_RX7_106 (C : Cx p s m args meth c z cc nL RX7 ret nm) {a : Nat} (hd : decode cc pc = .ok (.getfield 106, 3)) (hk : kd S a = 11) (k : Go p l e R s m args below meth c z nL Q bc bs (pc + 3) lv (.int (gI S 162 a 0) :: st) S) : Go p l e R s m args below meth c z nL Q bc bs pc lv (.ref a :: st) S := G_getI C 10 1 2 rfl rfl (by decide) in_X10 rfl rfl (gt_t 39 (by decide +kernel) rfl) hd hk k
theorem pf_RX7_22 (C : Cx p s m args meth c z cc nL RX7 ret nm) {a : Nat} {v : Int32} (hd : decode cc pc = .ok (.putfield 22, 3)) (hk : kd S a = 8) (k : Go p l e R s m args below meth c z nL Q bc bs (pc + 3) lv st (sI S 118 a 0 v)) : Go p l e R s m args below meth c z nL Q bc bs pc lv (.int v :: .ref a :: st) S := G_putI C 7 5 8 rfl rfl (by decide) in_X7 tyX7 tyX7_ok nmX7 rfl rfl (gt_t 87 (by decide +kernel) rfl) (Or.inl rfl) rfl rfl hd hk k
theorem pf_RX7_36 (C : Cx p s m args meth c z cc nL RX7 ret nm) {a : Nat} {v : Int32} (hd : decode cc pc = .ok (.putfield 36, 3)) (hk : kd S a = 8) (k : Go p l e R s m args below meth c z nL Q bc bs (pc + 3) lv st (sI S 117 a 0 v)) : Go p l e R s m args below meth c z nL Q bc bs pc lv (.int v :: .ref a :: st) S := G_putI C 7 4 8 rfl rfl (by decide) in_X7 tyX7 tyX7_ok nmX7 rfl rfl (gt_t 86 (by decide +kernel) rfl) (Or.inl rfl) rfl rfl hd hk k
theorem pf_RX7_42 (C : Cx p s m args meth c z cc nL RX7 ret nm) {a : Nat} {v : Int32} (hd : decode cc pc = .ok (.putfield 42, 3)) (hk : kd S a = 8) (k : Go p l e R s m args below meth c z nL Q bc bs (pc + 3) lv st (sI S 116 a 0 v)) : Go p l e R s m args below meth c z nL Q bc bs pc lv (.int v :: .ref a :: st) S := G_putI C 7 3 8 rfl rfl (by decide) in_X7 tyX7 tyX7_ok nmX7 rfl rfl (gt_t 85 (by decide +kernel) rfl) (Or.inl rfl) rfl rfl hd hk k
theorem dsc_X7_takeToken : dsc yX7_takeToken 0 := ⟨by decide, by decide, by decide +kernel⟩
theorem cl_RX7_39 (C : Cx p s m args meth c z cc nL RX7 ret nm) {a : Nat}  {rest : List Value} {post : Option Value → Hp → Prop} (hm : Ct l z yX7_takeToken cX7_takeToken 1 none 1 22 0 0 [.ref a] S post) (hR : 1 + 1 ≤ R.frames ∧ 8 + (1 + 11) + 22 ≤ R.locals) (hk : kd S a = 8) (hd : decode cc pc = .ok (.invokevirtual 39, 3)) (hW : (rest.map fun v => v.category).sum ≤ 8) (k : ∀ (v : Option Value) (S' : Hp), post v S' → Go p l e R s m args below meth c z nL Q bc bs (pc + 3) lv (v.toList ++ rest) S') : Go p l e R s m args below meth c z nL Q bc bs pc lv (.ref a :: rest) S := G_callV C 7 8 rfl rfl (gt_t 398 (by decide +kernel) rfl) (gt_t 400 (by decide +kernel) rfl) (gt_s 3 (by decide +kernel) rfl) (gt_t 3 (by decide +kernel) rfl) (gt_t 401 (by decide +kernel) rfl) (dsc_X7_takeToken) hm rfl hR hk rfl hW hd k
theorem cl_RX7_102 (C : Cx p s m args meth c z cc nL RX7 ret nm) {q0 : Int32} {q1 : Int32} {q2 : Int32} {rest : List Value} {post : Option Value → Hp → Prop} (hm : Ct l z yX11_within cX11_within 3 (some .boolean) 0 0 0 0 [.int (q0), .int (q1), .int (q2)] S post) (hR : 0 + 1 ≤ R.frames ∧ 8 + (3 + 11) + 0 ≤ R.locals) (hd : decode cc pc = .ok (.invokestatic 102, 3)) (hW : (rest.map fun v => v.category).sum ≤ 8) (k : ∀ (v : Option Value) (S' : Hp), post v S' → Go p l e R s m args below meth c z nL Q bc bs (pc + 3) lv (v.toList ++ rest) S') : Go p l e R s m args below meth c z nL Q bc bs pc lv (.int (q2) :: .int (q1) :: .int (q0) :: rest) S := G_callN C (by decide) (gt_t 271 (by decide +kernel) rfl) (gt_t 1 (by decide +kernel) rfl) (gt_t 272 (by decide +kernel) rfl) (dsc_X11_within) hm rfl hR rfl hW hd k
theorem gf_RX7_42 (C : Cx p s m args meth c z cc nL RX7 ret nm) {a : Nat} (hd : decode cc pc = .ok (.getfield 42, 3)) (hk : kd S a = 8) (k : Go p l e R s m args below meth c z nL Q bc bs (pc + 3) lv (.int (gI S 116 a 0) :: st) S) : Go p l e R s m args below meth c z nL Q bc bs pc lv (.ref a :: st) S := G_getI C 7 3 8 rfl rfl (by decide) in_X7 rfl rfl (gt_t 85 (by decide +kernel) rfl) hd hk k
theorem gf_RX7_86 (C : Cx p s m args meth c z cc nL RX7 ret nm) {a : Nat} (hd : decode cc pc = .ok (.getfield 86, 3)) (hk : kd S a = 8) (k : Go p l e R s m args below meth c z nL Q bc bs (pc + 3) lv (.int (gI S 120 a 0) :: st) S) : Go p l e R s m args below meth c z nL Q bc bs pc lv (.ref a :: st) S := G_getI C 7 7 8 rfl rfl (by decide) in_X7 rfl rfl (gt_t 89 (by decide +kernel) rfl) hd hk k
theorem gf_RX7_98 (C : Cx p s m args meth c z cc nL RX7 ret nm) {a : Nat} (hd : decode cc pc = .ok (.getfield 98, 3)) (hk : kd S a = 11) (k : Go p l e R s m args below meth c z nL Q bc bs (pc + 3) lv (va_rf (gR S 161 a 0) :: st) S) : Go p l e R s m args below meth c z nL Q bc bs pc lv (.ref a :: st) S := G_getR C 10 0 2 rfl rfl (by decide) in_X10 rfl rfl (gt_t 36 (by decide +kernel) rfl) hd hk k
theorem pf_RX7_86 (C : Cx p s m args meth c z cc nL RX7 ret nm) {a : Nat} {v : Int32} (hd : decode cc pc = .ok (.putfield 86, 3)) (hk : kd S a = 8) (k : Go p l e R s m args below meth c z nL Q bc bs (pc + 3) lv st (sI S 120 a 0 v)) : Go p l e R s m args below meth c z nL Q bc bs pc lv (.int v :: .ref a :: st) S := G_putI C 7 7 8 rfl rfl (by decide) in_X7 tyX7 tyX7_ok nmX7 rfl rfl (gt_t 89 (by decide +kernel) rfl) (Or.inl rfl) rfl rfl hd hk k
theorem dsc_X7_takeNumber : dsc yX7_takeNumber 1 := ⟨by decide, by decide, by decide +kernel⟩
theorem cl_RX7_82 (C : Cx p s m args meth c z cc nL RX7 ret nm) {a : Nat} {q0 : Int32} {rest : List Value} {post : Option Value → Hp → Prop} (hm : Ct l z yX7_takeNumber cX7_takeNumber 3 (some .boolean) 2 42 0 0 [.ref a, .int (q0)] S post) (hR : 2 + 1 ≤ R.frames ∧ 8 + (3 + 11) + 42 ≤ R.locals) (hk : kd S a = 8) (hd : decode cc pc = .ok (.invokevirtual 82, 3)) (hW : (rest.map fun v => v.category).sum ≤ 8) (k : ∀ (v : Option Value) (S' : Hp), post v S' → Go p l e R s m args below meth c z nL Q bc bs (pc + 3) lv (v.toList ++ rest) S') : Go p l e R s m args below meth c z nL Q bc bs pc lv (.int (q0) :: .ref a :: rest) S := G_callV C 7 8 rfl rfl (gt_t 473 (by decide +kernel) rfl) (gt_t 475 (by decide +kernel) rfl) (gt_s 5 (by decide +kernel) rfl) (gt_t 3 (by decide +kernel) rfl) (gt_t 476 (by decide +kernel) rfl) (dsc_X7_takeNumber) hm rfl hR hk rfl hW hd k
theorem pf_RX7_89 (C : Cx p s m args meth c z cc nL RX7 ret nm) {a : Nat} {v : Int32} (hd : decode cc pc = .ok (.putfield 89, 3)) (hk : kd S a = 1) (k : Go p l e R s m args below meth c z nL Q bc bs (pc + 3) lv st (sI S 4 a 0 v)) : Go p l e R s m args below meth c z nL Q bc bs pc lv (.int v :: .ref a :: st) S := G_putI C 0 3 5 rfl rfl (by decide) in_X0 tyX0 tyX0_ok nmX0 rfl rfl (gt_t 65 (by decide +kernel) rfl) (Or.inl rfl) rfl rfl hd hk k
theorem gf_RX7_79 (C : Cx p s m args meth c z cc nL RX7 ret nm) {a : Nat} (hd : decode cc pc = .ok (.getfield 79, 3)) (hk : kd S a = 1) (k : Go p l e R s m args below meth c z nL Q bc bs (pc + 3) lv (.int (gI S 3 a 0) :: st) S) : Go p l e R s m args below meth c z nL Q bc bs pc lv (.ref a :: st) S := G_getI C 0 2 5 rfl rfl (by decide) in_X0 rfl rfl (gt_t 63 (by decide +kernel) rfl) hd hk k
theorem pf_RX7_76 (C : Cx p s m args meth c z cc nL RX7 ret nm) {a : Nat} {v : Int32} (hd : decode cc pc = .ok (.putfield 76, 3)) (hk : kd S a = 1) (k : Go p l e R s m args below meth c z nL Q bc bs (pc + 3) lv st (sI S 2 a 0 v)) : Go p l e R s m args below meth c z nL Q bc bs pc lv (.int v :: .ref a :: st) S := G_putI C 0 1 5 rfl rfl (by decide) in_X0 tyX0 tyX0_ok nmX0 rfl rfl (gt_t 61 (by decide +kernel) rfl) (Or.inl rfl) rfl rfl hd hk k
theorem pf_RX7_79 (C : Cx p s m args meth c z cc nL RX7 ret nm) {a : Nat} {v : Int32} (hd : decode cc pc = .ok (.putfield 79, 3)) (hk : kd S a = 1) (k : Go p l e R s m args below meth c z nL Q bc bs (pc + 3) lv st (sI S 3 a 0 v)) : Go p l e R s m args below meth c z nL Q bc bs pc lv (.int v :: .ref a :: st) S := G_putI C 0 2 5 rfl rfl (by decide) in_X0 tyX0 tyX0_ok nmX0 rfl rfl (gt_t 63 (by decide +kernel) rfl) (Or.inl rfl) rfl rfl hd hk k
theorem pf_RX7_92 (C : Cx p s m args meth c z cc nL RX7 ret nm) {a : Nat} {v : Int32} (hd : decode cc pc = .ok (.putfield 92, 3)) (hk : kd S a = 1) (k : Go p l e R s m args below meth c z nL Q bc bs (pc + 3) lv st (sI S 5 a 0 v)) : Go p l e R s m args below meth c z nL Q bc bs pc lv (.int v :: .ref a :: st) S := G_putI C 0 4 5 rfl rfl (by decide) in_X0 tyX0 tyX0_ok nmX0 rfl rfl (gt_t 67 (by decide +kernel) rfl) (Or.inl rfl) rfl rfl hd hk k
theorem dsc_X10_says : dsc yX10_says 3 := ⟨by decide, by decide, by decide +kernel⟩
theorem cl_RX7_53 (C : Cx p s m args meth c z cc nL RX7 ret nm) {a : Nat} {q0 : Int32} {q1 : Int32} {q2 : Nat} {rest : List Value} {post : Option Value → Hp → Prop} (hm : Ct l z yX10_says cX10_says 5 (some .boolean) 4 85 0 0 [.ref a, .int (q0), .int (q1), .ref (zK z (q2))] S post) (hR : 4 + 1 ≤ R.frames ∧ 8 + (5 + 11) + 85 ≤ R.locals) (hk : kd S a = 11) (hd : decode cc pc = .ok (.invokevirtual 53, 3)) (hW : (rest.map fun v => v.category).sum ≤ 8) (k : ∀ (v : Option Value) (S' : Hp), post v S' → Go p l e R s m args below meth c z nL Q bc bs (pc + 3) lv (v.toList ++ rest) S') : Go p l e R s m args below meth c z nL Q bc bs pc lv (.ref (zK z (q2)) :: .int (q1) :: .int (q0) :: .ref a :: rest) S := G_callV C 10 2 rfl rfl (gt_t 415 (by decide +kernel) rfl) (gt_t 416 (by decide +kernel) rfl) (gt_t 417 (by decide +kernel) rfl) (gt_t 2 (by decide +kernel) rfl) (gt_t 418 (by decide +kernel) rfl) (dsc_X10_says) hm rfl hR hk rfl hW hd k
theorem dsc_X7_takeFirst : dsc yX7_takeFirst 2 := ⟨by decide, by decide, by decide +kernel⟩
theorem cl_RX7_62 (C : Cx p s m args meth c z cc nL RX7 ret nm) {a : Nat} {q0 : Nat} {q1 : Int32} {rest : List Value} {post : Option Value → Hp → Prop} (hm : Ct l z yX7_takeFirst cX7_takeFirst 4 (some .boolean) 3 64 0 0 [.ref a, .ref (q0), .int (q1)] S post) (hR : 3 + 1 ≤ R.frames ∧ 8 + (4 + 11) + 64 ≤ R.locals) (hk : kd S a = 8) (hd : decode cc pc = .ok (.invokevirtual 62, 3)) (hW : (rest.map fun v => v.category).sum ≤ 8) (k : ∀ (v : Option Value) (S' : Hp), post v S' → Go p l e R s m args below meth c z nL Q bc bs (pc + 3) lv (v.toList ++ rest) S') : Go p l e R s m args below meth c z nL Q bc bs pc lv (.int (q1) :: .ref (q0) :: .ref a :: rest) S := G_callV C 7 8 rfl rfl (gt_t 469 (by decide +kernel) rfl) (gt_t 471 (by decide +kernel) rfl) (gt_s 4 (by decide +kernel) rfl) (gt_t 3 (by decide +kernel) rfl) (gt_t 472 (by decide +kernel) rfl) (dsc_X7_takeFirst) hm rfl hR hk rfl hW hd k
theorem dsc_X7_takeWord : dsc yX7_takeWord 1 := ⟨by decide, by decide, by decide +kernel⟩
theorem cl_RX7_70 (C : Cx p s m args meth c z cc nL RX7 ret nm) {a : Nat} {q0 : Nat} {rest : List Value} {post : Option Value → Hp → Prop} (hm : Ct l z yX7_takeWord cX7_takeWord 2 (some .boolean) 2 42 0 0 [.ref a, .ref (q0)] S post) (hR : 2 + 1 ≤ R.frames ∧ 8 + (2 + 11) + 42 ≤ R.locals) (hk : kd S a = 8) (hd : decode cc pc = .ok (.invokevirtual 70, 3)) (hW : (rest.map fun v => v.category).sum ≤ 8) (k : ∀ (v : Option Value) (S' : Hp), post v S' → Go p l e R s m args below meth c z nL Q bc bs (pc + 3) lv (v.toList ++ rest) S') : Go p l e R s m args below meth c z nL Q bc bs pc lv (.ref (q0) :: .ref a :: rest) S := G_callV C 7 8 rfl rfl (gt_t 480 (by decide +kernel) rfl) (gt_t 482 (by decide +kernel) rfl) (gt_s 6 (by decide +kernel) rfl) (gt_t 3 (by decide +kernel) rfl) (gt_t 483 (by decide +kernel) rfl) (dsc_X7_takeWord) hm rfl hR hk rfl hW hd k
theorem dsc_X7_takeSecond : dsc yX7_takeSecond 2 := ⟨by decide, by decide, by decide +kernel⟩
theorem cl_RX7_73 (C : Cx p s m args meth c z cc nL RX7 ret nm) {a : Nat} {q0 : Nat} {q1 : Int32} {rest : List Value} {post : Option Value → Hp → Prop} (hm : Ct l z yX7_takeSecond cX7_takeSecond 4 (some .boolean) 3 64 0 0 [.ref a, .ref (q0), .int (q1)] S post) (hR : 3 + 1 ≤ R.frames ∧ 8 + (4 + 11) + 64 ≤ R.locals) (hk : kd S a = 8) (hd : decode cc pc = .ok (.invokevirtual 73, 3)) (hW : (rest.map fun v => v.category).sum ≤ 8) (k : ∀ (v : Option Value) (S' : Hp), post v S' → Go p l e R s m args below meth c z nL Q bc bs (pc + 3) lv (v.toList ++ rest) S') : Go p l e R s m args below meth c z nL Q bc bs pc lv (.int (q1) :: .ref (q0) :: .ref a :: rest) S := G_callV C 7 8 rfl rfl (gt_t 484 (by decide +kernel) rfl) (gt_t 486 (by decide +kernel) rfl) (gt_s 7 (by decide +kernel) rfl) (gt_t 3 (by decide +kernel) rfl) (gt_t 487 (by decide +kernel) rfl) (dsc_X7_takeSecond) hm rfl hR hk rfl hW hd k
theorem gf_RX7_29 (C : Cx p s m args meth c z cc nL RX7 ret nm) {a : Nat} (hd : decode cc pc = .ok (.getfield 29, 3)) (hk : kd S a = 8) (k : Go p l e R s m args below meth c z nL Q bc bs (pc + 3) lv (.int (gI S 119 a 0) :: st) S) : Go p l e R s m args below meth c z nL Q bc bs pc lv (.ref a :: st) S := G_getI C 7 6 8 rfl rfl (by decide) in_X7 rfl rfl (gt_t 88 (by decide +kernel) rfl) hd hk k
theorem pf_RX7_29 (C : Cx p s m args meth c z cc nL RX7 ret nm) {a : Nat} {v : Int32} (hd : decode cc pc = .ok (.putfield 29, 3)) (hk : kd S a = 8) (k : Go p l e R s m args below meth c z nL Q bc bs (pc + 3) lv st (sI S 119 a 0 v)) : Go p l e R s m args below meth c z nL Q bc bs pc lv (.int v :: .ref a :: st) S := G_putI C 7 6 8 rfl rfl (by decide) in_X7 tyX7 tyX7_ok nmX7 rfl rfl (gt_t 88 (by decide +kernel) rfl) (Or.inl rfl) rfl rfl hd hk k
theorem pf_RX7_57 (C : Cx p s m args meth c z cc nL RX7 ret nm) {a : Nat} {v : Int32} (hd : decode cc pc = .ok (.putfield 57, 3)) (hk : kd S a = 1) (k : Go p l e R s m args below meth c z nL Q bc bs (pc + 3) lv st (sI S 1 a 0 v)) : Go p l e R s m args below meth c z nL Q bc bs pc lv (.int v :: .ref a :: st) S := G_putI C 0 0 5 rfl rfl (by decide) in_X0 tyX0 tyX0_ok nmX0 rfl rfl (gt_t 59 (by decide +kernel) rfl) (Or.inl rfl) rfl rfl hd hk k
theorem dsc_X7_takeClause : dsc yX7_takeClause 1 := ⟨by decide, by decide, by decide +kernel⟩
theorem cl_RX7_32 (C : Cx p s m args meth c z cc nL RX7 ret nm) {a : Nat} {q0 : Nat} {rest : List Value} {post : Option Value → Hp → Prop} (hm : Ct l z yX7_takeClause cX7_takeClause 2 (some .boolean) 5 109 0 0 [.ref a, .ref (q0)] S post) (hR : 5 + 1 ≤ R.frames ∧ 8 + (2 + 11) + 109 ≤ R.locals) (hk : kd S a = 8) (hd : decode cc pc = .ok (.invokevirtual 32, 3)) (hW : (rest.map fun v => v.category).sum ≤ 8) (k : ∀ (v : Option Value) (S' : Hp), post v S' → Go p l e R s m args below meth c z nL Q bc bs (pc + 3) lv (v.toList ++ rest) S') : Go p l e R s m args below meth c z nL Q bc bs pc lv (.ref (q0) :: .ref a :: rest) S := G_callV C 7 8 rfl rfl (gt_t 394 (by decide +kernel) rfl) (gt_t 396 (by decide +kernel) rfl) (gt_s 2 (by decide +kernel) rfl) (gt_t 3 (by decide +kernel) rfl) (gt_t 397 (by decide +kernel) rfl) (dsc_X7_takeClause) hm rfl hR hk rfl hW hd k
theorem gf_RX7_26 (C : Cx p s m args meth c z cc nL RX7 ret nm) {a : Nat} (hd : decode cc pc = .ok (.getfield 26, 3)) (hk : kd S a = 8) (k : Go p l e R s m args below meth c z nL Q bc bs (pc + 3) lv (.int (gI S 115 a 0) :: st) S) : Go p l e R s m args below meth c z nL Q bc bs pc lv (.ref a :: st) S := G_getI C 7 2 8 rfl rfl (by decide) in_X7 rfl rfl (gt_t 83 (by decide +kernel) rfl) hd hk k
theorem pf_RX7_26 (C : Cx p s m args meth c z cc nL RX7 ret nm) {a : Nat} {v : Int32} (hd : decode cc pc = .ok (.putfield 26, 3)) (hk : kd S a = 8) (k : Go p l e R s m args below meth c z nL Q bc bs (pc + 3) lv st (sI S 115 a 0 v)) : Go p l e R s m args below meth c z nL Q bc bs pc lv (.int v :: .ref a :: st) S := G_putI C 7 2 8 rfl rfl (by decide) in_X7 tyX7 tyX7_ok nmX7 rfl rfl (gt_t 83 (by decide +kernel) rfl) (Or.inl rfl) rfl rfl hd hk k
/-! FirstParts$Reader.<init>(LFirstParts$Text;)V -/
abbrev wb_X7_init_20  (K20 : Int32 → Hp → Nat → Nat → Prop) (Q : Hp → Prop) (v0 : Nat) (v2 : Int32) (S : Hp) (bc bs : Nat) : Prop :=
  (((24 : Int32) ≤ v2 → Q S) ∧ (¬ (24 : Int32) ≤ v2 → kd S v0 = 8 ∧ 1 ≤ bc ∧ 5 ≤ bs ∧ ∀ n5 : Nat, n5 = sz S → ∀ S6 : Hp, S6 = nw S 1 (0) → ∃ b9, (gR S 114 v0 0) = some b9 ∧ wp_X0_init (n5) S6 (fun S8 => kd S8 b9 = 21 ∧ kd S8 n5 = 1 ∧ vp_in v2 (ln S8 b9) ∧ ∀ S10 : Hp, S10 = sR S8 0 b9 (v2).toNatClampNeg (some n5) → ∀ e11 : Int32, e11 = (v2 + 1) → K20 (e11) (S10) ((bc - 1)) ((bs - 5)))))
abbrev wp_X7_init_20  (Q : Hp → Prop) (v0 : Nat) (v2 : Int32) (S : Hp) (bc bs : Nat) : Prop :=
  Lp (X := Int32 × Hp × Nat × Nat) (fun K y => wb_X7_init_20  (fun w0 w1 w2 w3 => K (w0, w1, w2, w3)) Q v0 y.1 y.2.1 (y.2.2.1) (y.2.2.2)) (v2, S, bc, bs)
abbrev wp_X7_init (a0 : Nat) (a1 : Nat) (S : Hp) (Q : Hp → Prop) : Prop :=
  kd S a0 = 8 ∧ ∀ S1 : Hp, S1 = sR S 113 a0 0 (some a1) → 1 ≤ 25 ∧ 24 ≤ 144 ∧ ∀ n2 : Nat, n2 = sz S1 → ∀ S3 : Hp, S3 = nw S1 21 (24) → kd S3 a0 = 8 ∧ ∀ S4 : Hp, S4 = sR S3 114 a0 0 (some n2) → wp_X7_init_20 Q (a0) ((0 : Int32)) (S4) ((25 - 1)) ((144 - 24))
set_option maxHeartbeats 4000000 in
set_option maxRecDepth 100000 in
theorem gb_X7_init_20 (C : Cx p s m args meth c z cX7_init 3 RX7 none "<init>") {K20 : Int32 → Hp → Nat → Nat → Prop} {Q : Hp → Prop} {v0 : Nat} {v2 : Int32} {S : Hp} {bc bs : Nat}  (hK20 : ∀ (w2 : Int32) (S2 : Hp) (bc2 bs2 : Nat), K20 w2 S2 bc2 bs2 → Go p l e { frames := 2, cells := 25, slots := 144, locals := 40 } s m args below meth c z 3 (MQ below (Qx z (wV Q)) args s 25 144 (own z)) (bc2) (bs2) 20 [(0, .ref (v0)), (2, .int (w2))] [] (S2)) (hw : wb_X7_init_20  K20 Q v0 v2 S bc bs) : Go p l e { frames := 2, cells := 25, slots := 144, locals := 40 } s m args below meth c z 3 (MQ below (Qx z (wV Q)) args s 25 144 (own z)) (bc) (bs) 20 [(0, .ref (v0)), (2, .int (v2))] [] (S) := by
  refine G_iload_n (pc := 20) C 1 dX7_init_20 rfl rfl ?_
  refine G_bipush (pc := 21) C (v := 24) dX7_init_21 (by decide) ?_
  refine G_icmp_ge (pc := 23) C 45 dX7_init_23 (by decide) (fun hc => ?_) (fun hc => ?_)
  · have hw := hw.1 hc
    exact G_vret (pc := 45) C rfl dX7_init_45 ⟨rfl, hw⟩
  · have hw := hw.2 hc
    refine G_aload_n (pc := 26) C 0 dX7_init_26 rfl rfl ?_
    obtain ⟨hk, hw⟩ := hw
    refine gf_RX7_17 (pc := 27) C dX7_init_27 hk ?_
    refine G_iload_n (pc := 30) C 1 dX7_init_30 rfl rfl ?_
    obtain ⟨hb1, hb2, hw⟩ := hw
    refine G_less (bc' := (bc - 1) + 1) (bs' := (bs - 5) + 5) (by omega) (by omega) ?_
    refine nw_RX7_15 (pc := 31) C dX7_init_31 ?_
    obtain ⟨n5, hn5⟩ : ∃ y : Nat, y = sz S := ⟨_, rfl⟩
    obtain ⟨S6, hS6⟩ : ∃ y : Hp, y = nw S 1 (0) := ⟨_, rfl⟩
    have hw := hw n5 hn5 S6 hS6
    rw [← hn5]
    rw [← hS6]
    clear hn5 hS6
    refine G_dup (pc := 34) C dX7_init_34 rfl ?_
    obtain ⟨b9, hq, hw⟩ := hw
    rw [hq]
    refine cl_RX7_21 (pc := 35) C (c_X0_init l z (n5) S6 _ hw) ⟨Nat.le_of_ble_eq_true rfl, Nat.le_of_ble_eq_true rfl⟩ dX7_init_35 (Nat.le_of_ble_eq_true rfl) (fun v S' hp => ?_)
    clear hw
    obtain ⟨rfl, hw⟩ := hp
    generalize S' = S8 at hw ⊢
    obtain ⟨hk, hv, hi, hw⟩ := hw
    refine G_aast (pc := 38) C 1 0 5 rfl (by decide) rfl rfl hk hv hi dX7_init_38 ?_
    obtain ⟨S10, hS10⟩ : ∃ y : Hp, y = sR S8 0 b9 (v2).toNatClampNeg (some n5) := ⟨_, rfl⟩
    have hw := hw S10 hS10
    rw [← hS10]
    clear hS10
    obtain ⟨e11, he11⟩ : ∃ y : Int32, y = (v2 + 1) := ⟨_, rfl⟩
    have hw := hw e11 he11
    refine G_iinc (pc := 39) C [(2, .int (e11)), (0, .ref (v0))] 1 (v := e11) dX7_init_39 rfl (by rw [he11]; rfl) (by decide) rfl ?_
    clear he11
    refine G_goto (pc := 42) C 20 dX7_init_42 (by decide) ?_
    exact G_sub [1, 0] rfl (hK20 _ _ _ _ hw)
set_option maxHeartbeats 4000000 in
set_option maxRecDepth 100000 in
theorem g_X7_init_20 (C : Cx p s m args meth c z cX7_init 3 RX7 none "<init>")  {Q : Hp → Prop} {v0 : Nat} {v2 : Int32} {S : Hp} {bc bs : Nat}   (hw : wp_X7_init_20  Q v0 v2 S bc bs) : Go p l e { frames := 2, cells := 25, slots := 144, locals := 40 } s m args below meth c z 3 (MQ below (Qx z (wV Q)) args s 25 144 (own z)) (bc) (bs) 20 [(0, .ref (v0)), (2, .int (v2))] [] (S) :=
  Lp_go (G := fun y : Int32 × Hp × Nat × Nat => Go p l e { frames := 2, cells := 25, slots := 144, locals := 40 } s m args below meth c z 3 (MQ below (Qx z (wV Q)) args s 25 144 (own z)) (y.2.2.1) (y.2.2.2) 20 [(0, .ref (v0)), (2, .int (y.1))] [] (y.2.1)) (fun K y hK hB => gb_X7_init_20 C  (fun w0 w1 w2 w3 h => hK (w0, w1, w2, w3) h) hB) hw
set_option maxHeartbeats 4000000 in
set_option maxRecDepth 100000 in
theorem c_X7_init (l : Launch) (z : Zt) (a0 : Nat) (a1 : Nat) (S : Hp) (Q : Hp → Prop) (hw : wp_X7_init a0 a1 S Q) : Ct l z yX7_init cX7_init 3 none 2 40 25 144 [.ref (a0), .ref (a1)] S (wV Q) := by
  refine Ct_of (by decide) (Nat.le_of_ble_eq_true rfl) ?_
  intro p e s m args below meth c C
  have C : Cx p s m args meth c z cX7_init 3 RX7 none "<init>" := C
  refine G_sub (lv' := [(0, .ref (a0)), (1, .ref (a1))]) [0, 1] rfl ?_
  refine G_aload_n (pc := 0) C 0 dX7_init_0 rfl rfl ?_
  refine G_objInit (pc := 1) C oi_RX7_3 (by decide) (by decide) dX7_init_1 ?_
  refine G_aload_n (pc := 4) C 0 dX7_init_4 rfl rfl ?_
  refine G_aload_n (pc := 5) C 1 dX7_init_5 rfl rfl ?_
  obtain ⟨hk, hw⟩ := hw
  refine pf_RX7_9 (pc := 6) C rfl (v := some a1) dX7_init_6 hk ?_
  obtain ⟨S1, hS1⟩ : ∃ y : Hp, y = sR S 113 a0 0 (some a1) := ⟨_, rfl⟩
  have hw := hw S1 hS1
  rw [← hS1]
  clear hS1
  refine G_aload_n (pc := 9) C 0 dX7_init_9 rfl rfl ?_
  refine G_bipush (pc := 10) C (v := 24) dX7_init_10 (by decide) ?_
  obtain ⟨hb1, hb2, hw⟩ := hw
  refine G_less (bc' := (25 - 1) + 1) (bs' := (144 - 24) + 24) (by omega) (by omega) ?_
  refine G_anew (pc := 12) C (n := (24 : Int32)) 1 24 rfl (by decide) (by decide) cw_RX7_15 (by decide) (by decide) (by decide) dX7_init_12 ?_
  obtain ⟨n2, hn2⟩ : ∃ y : Nat, y = sz S1 := ⟨_, rfl⟩
  obtain ⟨S3, hS3⟩ : ∃ y : Hp, y = nw S1 21 (24) := ⟨_, rfl⟩
  have hw := hw n2 hn2 S3 hS3
  rw [← hn2]
  rw [← hS3]
  clear hn2 hS3
  obtain ⟨hk, hw⟩ := hw
  refine pf_RX7_17 (pc := 15) C rfl (v := some n2) dX7_init_15 hk ?_
  obtain ⟨S4, hS4⟩ : ∃ y : Hp, y = sR S3 114 a0 0 (some n2) := ⟨_, rfl⟩
  have hw := hw S4 hS4
  rw [← hS4]
  clear hS4
  refine G_iconst (pc := 18) C (v := 0) dX7_init_18 (by decide) ?_
  refine G_istore_n (pc := 19) C [(2, .int ((0 : Int32))), (0, .ref (a0)), (1, .ref (a1))] dX7_init_19 rfl (by decide) rfl ?_
  exact G_sub [1, 0] rfl (g_X7_init_20 C  hw)
/-! FirstParts$Reader.takeToken()V -/
abbrev wp_X7_takeToken_216  (Q : Hp → Prop)  (S : Hp) : Prop :=
  Q S
abbrev wb_X7_takeToken_160  (K160 : Hp → Prop) (Q : Hp → Prop) (v0 : Nat) (S : Hp) : Prop :=
  kd S v0 = 8 ∧ kd S v0 = 8 ∧ ∃ b14, (gR S 113 v0 0) = some b14 ∧ kd S b14 = 11 ∧ (((gI S 162 b14 0) ≤ (gI S 118 v0 0) → wp_X7_takeToken_216 Q (S)) ∧ (¬ (gI S 162 b14 0) ≤ (gI S 118 v0 0) → kd S v0 = 8 ∧ kd S v0 = 8 ∧ ∃ b15, (gR S 113 v0 0) = some b15 ∧ kd S b15 = 11 ∧ wp_X10_isDigit (b15) ((gI S 118 v0 0)) S (fun e16 => ((e16 = 0 → wp_X7_takeToken_216 Q (S)) ∧ (¬ e16 = 0 → kd S v0 = 8 ∧ kd S v0 = 8 ∧ ∀ S18 : Hp, S18 = sI S 118 v0 0 ((gI S 118 v0 0) + (1 : Int32)) → K160 (S18))))))
abbrev wp_X7_takeToken_160  (Q : Hp → Prop) (v0 : Nat) (S : Hp) : Prop :=
  Lp (X := Hp) (fun K y => wb_X7_takeToken_160  (fun w0 => K (w0)) Q v0 y) (S)
abbrev wb_X7_takeToken_100  (K100 : Hp → Prop) (Q : Hp → Prop) (v0 : Nat) (S : Hp) : Prop :=
  kd S v0 = 8 ∧ kd S v0 = 8 ∧ ∃ b20, (gR S 113 v0 0) = some b20 ∧ kd S b20 = 11 ∧ (((gI S 162 b20 0) ≤ (gI S 118 v0 0) → wp_X7_takeToken_216 Q (S)) ∧ (¬ (gI S 162 b20 0) ≤ (gI S 118 v0 0) → kd S v0 = 8 ∧ kd S v0 = 8 ∧ ∃ b21, (gR S 113 v0 0) = some b21 ∧ kd S b21 = 11 ∧ wp_X10_isSmallLetter (b21) ((gI S 118 v0 0)) S (fun e22 => ((e22 = 0 → wp_X7_takeToken_216 Q (S)) ∧ (¬ e22 = 0 → kd S v0 = 8 ∧ kd S v0 = 8 ∧ ∀ S24 : Hp, S24 = sI S 118 v0 0 ((gI S 118 v0 0) + (1 : Int32)) → K100 (S24))))))
abbrev wp_X7_takeToken_100  (Q : Hp → Prop) (v0 : Nat) (S : Hp) : Prop :=
  Lp (X := Hp) (fun K y => wb_X7_takeToken_100  (fun w0 => K (w0)) Q v0 y) (S)
abbrev wp_X7_takeToken_51  (Q : Hp → Prop) (v0 : Nat) (S : Hp) : Prop :=
  kd S v0 = 8 ∧ kd S v0 = 8 ∧ ∀ S3 : Hp, S3 = sI S 118 v0 0 (gI S 117 v0 0) → kd S3 v0 = 8 ∧ kd S3 v0 = 8 ∧ ∃ b4, (gR S3 113 v0 0) = some b4 ∧ kd S3 b4 = 11 ∧ (((gI S3 117 v0 0) < (gI S3 162 b4 0) → kd S3 v0 = 8 ∧ kd S3 v0 = 8 ∧ ∃ b5, (gR S3 113 v0 0) = some b5 ∧ kd S3 b5 = 11 ∧ wp_X10_isSmallLetter (b5) ((gI S3 117 v0 0)) S3 (fun e6 => ((e6 = 0 → kd S3 v0 = 8 ∧ kd S3 v0 = 8 ∧ ∃ b8, (gR S3 113 v0 0) = some b8 ∧ kd S3 b8 = 11 ∧ wp_X10_isDigit (b8) ((gI S3 117 v0 0)) S3 (fun e9 => ((e9 = 0 → kd S3 v0 = 8 ∧ ∀ S11 : Hp, S11 = sI S3 116 v0 0 (3 : Int32) → kd S11 v0 = 8 ∧ kd S11 v0 = 8 ∧ ∀ S12 : Hp, S12 = sI S11 118 v0 0 ((gI S11 118 v0 0) + (1 : Int32)) → wp_X7_takeToken_216 Q (S12)) ∧ (¬ e9 = 0 → kd S3 v0 = 8 ∧ ∀ S13 : Hp, S13 = sI S3 116 v0 0 (2 : Int32) → wp_X7_takeToken_160 Q (v0) (S13))))) ∧ (¬ e6 = 0 → kd S3 v0 = 8 ∧ ∀ S19 : Hp, S19 = sI S3 116 v0 0 (1 : Int32) → wp_X7_takeToken_100 Q (v0) (S19))))) ∧ (¬ (gI S3 117 v0 0) < (gI S3 162 b4 0) → kd S3 v0 = 8 ∧ ∀ S25 : Hp, S25 = sI S3 116 v0 0 (0 : Int32) → wp_X7_takeToken_216 Q (S25)))
abbrev wb_X7_takeToken_8  (K8 : Hp → Prop) (Q : Hp → Prop) (v0 : Nat) (S : Hp) : Prop :=
  kd S v0 = 8 ∧ kd S v0 = 8 ∧ ∃ b2, (gR S 113 v0 0) = some b2 ∧ kd S b2 = 11 ∧ (((gI S 162 b2 0) ≤ (gI S 117 v0 0) → wp_X7_takeToken_51 Q (v0) (S)) ∧ (¬ (gI S 162 b2 0) ≤ (gI S 117 v0 0) → kd S v0 = 8 ∧ kd S v0 = 8 ∧ ∃ b26, (gR S 113 v0 0) = some b26 ∧ kd S b26 = 11 ∧ wp_X10_isSign (b26) ((gI S 117 v0 0)) ((32 : Int32)) S (fun e27 => ((e27 = 0 → wp_X7_takeToken_51 Q (v0) (S)) ∧ (¬ e27 = 0 → kd S v0 = 8 ∧ kd S v0 = 8 ∧ ∀ S29 : Hp, S29 = sI S 117 v0 0 ((gI S 117 v0 0) + (1 : Int32)) → K8 (S29))))))
abbrev wp_X7_takeToken_8  (Q : Hp → Prop) (v0 : Nat) (S : Hp) : Prop :=
  Lp (X := Hp) (fun K y => wb_X7_takeToken_8  (fun w0 => K (w0)) Q v0 y) (S)
abbrev wp_X7_takeToken (a0 : Nat) (S : Hp) (Q : Hp → Prop) : Prop :=
  kd S a0 = 8 ∧ kd S a0 = 8 ∧ ∀ S1 : Hp, S1 = sI S 117 a0 0 (gI S 118 a0 0) → wp_X7_takeToken_8 Q (a0) (S1)
set_option maxHeartbeats 4000000 in
set_option maxRecDepth 100000 in
theorem g_X7_takeToken_216 (C : Cx p s m args meth c z cX7_takeToken 1 RX7 none "takeToken")  {Q : Hp → Prop}  {S : Hp}   (hw : wp_X7_takeToken_216  Q  S) : Go p l e { frames := 1, cells := 0, slots := 0, locals := 22 } s m args below meth c z 1 (MQ below (Qx z (wV Q)) args s 0 0 (own z)) (0) (0) 216 [] [] (S) := by
  exact G_vret (pc := 216) C rfl dX7_takeToken_216 ⟨rfl, hw⟩
set_option maxHeartbeats 4000000 in
set_option maxRecDepth 100000 in
theorem gb_X7_takeToken_160 (C : Cx p s m args meth c z cX7_takeToken 1 RX7 none "takeToken") {K160 : Hp → Prop} {Q : Hp → Prop} {v0 : Nat} {S : Hp}  (hK160 : ∀  (S2 : Hp), K160  S2 → Go p l e { frames := 1, cells := 0, slots := 0, locals := 22 } s m args below meth c z 1 (MQ below (Qx z (wV Q)) args s 0 0 (own z)) (0) (0) 160 [(0, .ref (v0))] [] (S2)) (hw : wb_X7_takeToken_160  K160 Q v0 S) : Go p l e { frames := 1, cells := 0, slots := 0, locals := 22 } s m args below meth c z 1 (MQ below (Qx z (wV Q)) args s 0 0 (own z)) (0) (0) 160 [(0, .ref (v0))] [] (S) := by
  refine G_aload_n (pc := 160) C 0 dX7_takeToken_160 rfl rfl ?_
  obtain ⟨hk, hw⟩ := hw
  refine gf_RX7_22 (pc := 161) C dX7_takeToken_161 hk ?_
  refine G_aload_n (pc := 164) C 0 dX7_takeToken_164 rfl rfl ?_
  obtain ⟨hk, hw⟩ := hw
  refine gf_RX7_9 (pc := 165) C dX7_takeToken_165 hk ?_
  obtain ⟨b14, hq, hw⟩ := hw
  rw [hq]
  obtain ⟨hk, hw⟩ := hw
  refine gf_RX7_106 (pc := 168) C dX7_takeToken_168 hk ?_
  refine G_icmp_ge (pc := 171) C 216 dX7_takeToken_171 (by decide) (fun hc => ?_) (fun hc => ?_)
  · have hw := hw.1 hc
    exact G_sub [] rfl (g_X7_takeToken_216 C  hw)
  · have hw := hw.2 hc
    refine G_aload_n (pc := 174) C 0 dX7_takeToken_174 rfl rfl ?_
    obtain ⟨hk, hw⟩ := hw
    refine gf_RX7_9 (pc := 175) C dX7_takeToken_175 hk ?_
    refine G_aload_n (pc := 178) C 0 dX7_takeToken_178 rfl rfl ?_
    obtain ⟨hk, hw⟩ := hw
    refine gf_RX7_22 (pc := 179) C dX7_takeToken_179 hk ?_
    obtain ⟨b15, hq, hw⟩ := hw
    rw [hq]
    obtain ⟨hk, hw⟩ := hw
    refine cl_RX7_95 (pc := 182) C (c_X10_isDigit l z (b15) ((gI S 118 v0 0)) S _ hw) ⟨Nat.le_of_ble_eq_true rfl, Nat.le_of_ble_eq_true rfl⟩ hk dX7_takeToken_182 (Nat.le_of_ble_eq_true rfl) (fun v S' hp => ?_)
    clear hw
    obtain ⟨hS, e16, rfl, hw⟩ := hp
    subst S'
    refine G_if_eq (pc := 185) C 216 dX7_takeToken_185 (by decide) (fun hc => ?_) (fun hc => ?_)
    · have hw := hw.1 hc
      exact G_sub [] rfl (g_X7_takeToken_216 C  hw)
    · have hw := hw.2 hc
      refine G_aload_n (pc := 188) C 0 dX7_takeToken_188 rfl rfl ?_
      refine G_dup (pc := 189) C dX7_takeToken_189 rfl ?_
      obtain ⟨hk, hw⟩ := hw
      refine gf_RX7_22 (pc := 190) C dX7_takeToken_190 hk ?_
      refine G_iconst (pc := 193) C (v := 1) dX7_takeToken_193 (by decide) ?_
      refine G_iadd (pc := 194) C dX7_takeToken_194 ?_
      obtain ⟨hk, hw⟩ := hw
      refine pf_RX7_22 (pc := 195) C dX7_takeToken_195 hk ?_
      obtain ⟨S18, hS18⟩ : ∃ y : Hp, y = sI S 118 v0 0 ((gI S 118 v0 0) + (1 : Int32)) := ⟨_, rfl⟩
      have hw := hw S18 hS18
      rw [← hS18]
      clear hS18
      refine G_goto (pc := 198) C 160 dX7_takeToken_198 (by decide) ?_
      exact G_sub [0] rfl (hK160 _ hw)
set_option maxHeartbeats 4000000 in
set_option maxRecDepth 100000 in
theorem g_X7_takeToken_160 (C : Cx p s m args meth c z cX7_takeToken 1 RX7 none "takeToken")  {Q : Hp → Prop} {v0 : Nat} {S : Hp}   (hw : wp_X7_takeToken_160  Q v0 S) : Go p l e { frames := 1, cells := 0, slots := 0, locals := 22 } s m args below meth c z 1 (MQ below (Qx z (wV Q)) args s 0 0 (own z)) (0) (0) 160 [(0, .ref (v0))] [] (S) :=
  Lp_go (G := fun y : Hp => Go p l e { frames := 1, cells := 0, slots := 0, locals := 22 } s m args below meth c z 1 (MQ below (Qx z (wV Q)) args s 0 0 (own z)) (0) (0) 160 [(0, .ref (v0))] [] (y)) (fun K y hK hB => gb_X7_takeToken_160 C  (fun w0 h => hK (w0) h) hB) hw
set_option maxHeartbeats 4000000 in
set_option maxRecDepth 100000 in
theorem gb_X7_takeToken_100 (C : Cx p s m args meth c z cX7_takeToken 1 RX7 none "takeToken") {K100 : Hp → Prop} {Q : Hp → Prop} {v0 : Nat} {S : Hp}  (hK100 : ∀  (S2 : Hp), K100  S2 → Go p l e { frames := 1, cells := 0, slots := 0, locals := 22 } s m args below meth c z 1 (MQ below (Qx z (wV Q)) args s 0 0 (own z)) (0) (0) 100 [(0, .ref (v0))] [] (S2)) (hw : wb_X7_takeToken_100  K100 Q v0 S) : Go p l e { frames := 1, cells := 0, slots := 0, locals := 22 } s m args below meth c z 1 (MQ below (Qx z (wV Q)) args s 0 0 (own z)) (0) (0) 100 [(0, .ref (v0))] [] (S) := by
  refine G_aload_n (pc := 100) C 0 dX7_takeToken_100 rfl rfl ?_
  obtain ⟨hk, hw⟩ := hw
  refine gf_RX7_22 (pc := 101) C dX7_takeToken_101 hk ?_
  refine G_aload_n (pc := 104) C 0 dX7_takeToken_104 rfl rfl ?_
  obtain ⟨hk, hw⟩ := hw
  refine gf_RX7_9 (pc := 105) C dX7_takeToken_105 hk ?_
  obtain ⟨b20, hq, hw⟩ := hw
  rw [hq]
  obtain ⟨hk, hw⟩ := hw
  refine gf_RX7_106 (pc := 108) C dX7_takeToken_108 hk ?_
  refine G_icmp_ge (pc := 111) C 216 dX7_takeToken_111 (by decide) (fun hc => ?_) (fun hc => ?_)
  · have hw := hw.1 hc
    exact G_sub [] rfl (g_X7_takeToken_216 C  hw)
  · have hw := hw.2 hc
    refine G_aload_n (pc := 114) C 0 dX7_takeToken_114 rfl rfl ?_
    obtain ⟨hk, hw⟩ := hw
    refine gf_RX7_9 (pc := 115) C dX7_takeToken_115 hk ?_
    refine G_aload_n (pc := 118) C 0 dX7_takeToken_118 rfl rfl ?_
    obtain ⟨hk, hw⟩ := hw
    refine gf_RX7_22 (pc := 119) C dX7_takeToken_119 hk ?_
    obtain ⟨b21, hq, hw⟩ := hw
    rw [hq]
    obtain ⟨hk, hw⟩ := hw
    refine cl_RX7_109 (pc := 122) C (c_X10_isSmallLetter l z (b21) ((gI S 118 v0 0)) S _ hw) ⟨Nat.le_of_ble_eq_true rfl, Nat.le_of_ble_eq_true rfl⟩ hk dX7_takeToken_122 (Nat.le_of_ble_eq_true rfl) (fun v S' hp => ?_)
    clear hw
    obtain ⟨hS, e22, rfl, hw⟩ := hp
    subst S'
    refine G_if_eq (pc := 125) C 216 dX7_takeToken_125 (by decide) (fun hc => ?_) (fun hc => ?_)
    · have hw := hw.1 hc
      exact G_sub [] rfl (g_X7_takeToken_216 C  hw)
    · have hw := hw.2 hc
      refine G_aload_n (pc := 128) C 0 dX7_takeToken_128 rfl rfl ?_
      refine G_dup (pc := 129) C dX7_takeToken_129 rfl ?_
      obtain ⟨hk, hw⟩ := hw
      refine gf_RX7_22 (pc := 130) C dX7_takeToken_130 hk ?_
      refine G_iconst (pc := 133) C (v := 1) dX7_takeToken_133 (by decide) ?_
      refine G_iadd (pc := 134) C dX7_takeToken_134 ?_
      obtain ⟨hk, hw⟩ := hw
      refine pf_RX7_22 (pc := 135) C dX7_takeToken_135 hk ?_
      obtain ⟨S24, hS24⟩ : ∃ y : Hp, y = sI S 118 v0 0 ((gI S 118 v0 0) + (1 : Int32)) := ⟨_, rfl⟩
      have hw := hw S24 hS24
      rw [← hS24]
      clear hS24
      refine G_goto (pc := 138) C 100 dX7_takeToken_138 (by decide) ?_
      exact G_sub [0] rfl (hK100 _ hw)
set_option maxHeartbeats 4000000 in
set_option maxRecDepth 100000 in
theorem g_X7_takeToken_100 (C : Cx p s m args meth c z cX7_takeToken 1 RX7 none "takeToken")  {Q : Hp → Prop} {v0 : Nat} {S : Hp}   (hw : wp_X7_takeToken_100  Q v0 S) : Go p l e { frames := 1, cells := 0, slots := 0, locals := 22 } s m args below meth c z 1 (MQ below (Qx z (wV Q)) args s 0 0 (own z)) (0) (0) 100 [(0, .ref (v0))] [] (S) :=
  Lp_go (G := fun y : Hp => Go p l e { frames := 1, cells := 0, slots := 0, locals := 22 } s m args below meth c z 1 (MQ below (Qx z (wV Q)) args s 0 0 (own z)) (0) (0) 100 [(0, .ref (v0))] [] (y)) (fun K y hK hB => gb_X7_takeToken_100 C  (fun w0 h => hK (w0) h) hB) hw
set_option maxHeartbeats 4000000 in
set_option maxRecDepth 100000 in
theorem g_X7_takeToken_51 (C : Cx p s m args meth c z cX7_takeToken 1 RX7 none "takeToken")  {Q : Hp → Prop} {v0 : Nat} {S : Hp}   (hw : wp_X7_takeToken_51  Q v0 S) : Go p l e { frames := 1, cells := 0, slots := 0, locals := 22 } s m args below meth c z 1 (MQ below (Qx z (wV Q)) args s 0 0 (own z)) (0) (0) 51 [(0, .ref (v0))] [] (S) := by
  refine G_aload_n (pc := 51) C 0 dX7_takeToken_51 rfl rfl ?_
  refine G_aload_n (pc := 52) C 0 dX7_takeToken_52 rfl rfl ?_
  obtain ⟨hk, hw⟩ := hw
  refine gf_RX7_36 (pc := 53) C dX7_takeToken_53 hk ?_
  obtain ⟨hk, hw⟩ := hw
  refine pf_RX7_22 (pc := 56) C dX7_takeToken_56 hk ?_
  obtain ⟨S3, hS3⟩ : ∃ y : Hp, y = sI S 118 v0 0 (gI S 117 v0 0) := ⟨_, rfl⟩
  have hw := hw S3 hS3
  rw [← hS3]
  clear hS3
  refine G_aload_n (pc := 59) C 0 dX7_takeToken_59 rfl rfl ?_
  obtain ⟨hk, hw⟩ := hw
  refine gf_RX7_36 (pc := 60) C dX7_takeToken_60 hk ?_
  refine G_aload_n (pc := 63) C 0 dX7_takeToken_63 rfl rfl ?_
  obtain ⟨hk, hw⟩ := hw
  refine gf_RX7_9 (pc := 64) C dX7_takeToken_64 hk ?_
  obtain ⟨b4, hq, hw⟩ := hw
  rw [hq]
  obtain ⟨hk, hw⟩ := hw
  refine gf_RX7_106 (pc := 67) C dX7_takeToken_67 hk ?_
  refine G_icmp_lt (pc := 70) C 81 dX7_takeToken_70 (by decide) (fun hc => ?_) (fun hc => ?_)
  · have hw := hw.1 hc
    refine G_aload_n (pc := 81) C 0 dX7_takeToken_81 rfl rfl ?_
    obtain ⟨hk, hw⟩ := hw
    refine gf_RX7_9 (pc := 82) C dX7_takeToken_82 hk ?_
    refine G_aload_n (pc := 85) C 0 dX7_takeToken_85 rfl rfl ?_
    obtain ⟨hk, hw⟩ := hw
    refine gf_RX7_36 (pc := 86) C dX7_takeToken_86 hk ?_
    obtain ⟨b5, hq, hw⟩ := hw
    rw [hq]
    obtain ⟨hk, hw⟩ := hw
    refine cl_RX7_109 (pc := 89) C (c_X10_isSmallLetter l z (b5) ((gI S3 117 v0 0)) S3 _ hw) ⟨Nat.le_of_ble_eq_true rfl, Nat.le_of_ble_eq_true rfl⟩ hk dX7_takeToken_89 (Nat.le_of_ble_eq_true rfl) (fun v S' hp => ?_)
    clear hw
    obtain ⟨hS, e6, rfl, hw⟩ := hp
    subst S'
    refine G_if_eq (pc := 92) C 141 dX7_takeToken_92 (by decide) (fun hc => ?_) (fun hc => ?_)
    · have hw := hw.1 hc
      refine G_aload_n (pc := 141) C 0 dX7_takeToken_141 rfl rfl ?_
      obtain ⟨hk, hw⟩ := hw
      refine gf_RX7_9 (pc := 142) C dX7_takeToken_142 hk ?_
      refine G_aload_n (pc := 145) C 0 dX7_takeToken_145 rfl rfl ?_
      obtain ⟨hk, hw⟩ := hw
      refine gf_RX7_36 (pc := 146) C dX7_takeToken_146 hk ?_
      obtain ⟨b8, hq, hw⟩ := hw
      rw [hq]
      obtain ⟨hk, hw⟩ := hw
      refine cl_RX7_95 (pc := 149) C (c_X10_isDigit l z (b8) ((gI S3 117 v0 0)) S3 _ hw) ⟨Nat.le_of_ble_eq_true rfl, Nat.le_of_ble_eq_true rfl⟩ hk dX7_takeToken_149 (Nat.le_of_ble_eq_true rfl) (fun v S' hp => ?_)
      clear hw
      obtain ⟨hS, e9, rfl, hw⟩ := hp
      subst S'
      refine G_if_eq (pc := 152) C 201 dX7_takeToken_152 (by decide) (fun hc => ?_) (fun hc => ?_)
      · have hw := hw.1 hc
        refine G_aload_n (pc := 201) C 0 dX7_takeToken_201 rfl rfl ?_
        refine G_iconst (pc := 202) C (v := 3) dX7_takeToken_202 (by decide) ?_
        obtain ⟨hk, hw⟩ := hw
        refine pf_RX7_42 (pc := 203) C dX7_takeToken_203 hk ?_
        obtain ⟨S11, hS11⟩ : ∃ y : Hp, y = sI S3 116 v0 0 (3 : Int32) := ⟨_, rfl⟩
        have hw := hw S11 hS11
        rw [← hS11]
        clear hS11
        refine G_aload_n (pc := 206) C 0 dX7_takeToken_206 rfl rfl ?_
        refine G_dup (pc := 207) C dX7_takeToken_207 rfl ?_
        obtain ⟨hk, hw⟩ := hw
        refine gf_RX7_22 (pc := 208) C dX7_takeToken_208 hk ?_
        refine G_iconst (pc := 211) C (v := 1) dX7_takeToken_211 (by decide) ?_
        refine G_iadd (pc := 212) C dX7_takeToken_212 ?_
        obtain ⟨hk, hw⟩ := hw
        refine pf_RX7_22 (pc := 213) C dX7_takeToken_213 hk ?_
        obtain ⟨S12, hS12⟩ : ∃ y : Hp, y = sI S11 118 v0 0 ((gI S11 118 v0 0) + (1 : Int32)) := ⟨_, rfl⟩
        have hw := hw S12 hS12
        rw [← hS12]
        clear hS12
        exact G_sub [] rfl (g_X7_takeToken_216 C  hw)
      · have hw := hw.2 hc
        refine G_aload_n (pc := 155) C 0 dX7_takeToken_155 rfl rfl ?_
        refine G_iconst (pc := 156) C (v := 2) dX7_takeToken_156 (by decide) ?_
        obtain ⟨hk, hw⟩ := hw
        refine pf_RX7_42 (pc := 157) C dX7_takeToken_157 hk ?_
        obtain ⟨S13, hS13⟩ : ∃ y : Hp, y = sI S3 116 v0 0 (2 : Int32) := ⟨_, rfl⟩
        have hw := hw S13 hS13
        rw [← hS13]
        clear hS13
        exact G_sub [0] rfl (g_X7_takeToken_160 C  hw)
    · have hw := hw.2 hc
      refine G_aload_n (pc := 95) C 0 dX7_takeToken_95 rfl rfl ?_
      refine G_iconst (pc := 96) C (v := 1) dX7_takeToken_96 (by decide) ?_
      obtain ⟨hk, hw⟩ := hw
      refine pf_RX7_42 (pc := 97) C dX7_takeToken_97 hk ?_
      obtain ⟨S19, hS19⟩ : ∃ y : Hp, y = sI S3 116 v0 0 (1 : Int32) := ⟨_, rfl⟩
      have hw := hw S19 hS19
      rw [← hS19]
      clear hS19
      exact G_sub [0] rfl (g_X7_takeToken_100 C  hw)
  · have hw := hw.2 hc
    refine G_aload_n (pc := 73) C 0 dX7_takeToken_73 rfl rfl ?_
    refine G_iconst (pc := 74) C (v := 0) dX7_takeToken_74 (by decide) ?_
    obtain ⟨hk, hw⟩ := hw
    refine pf_RX7_42 (pc := 75) C dX7_takeToken_75 hk ?_
    obtain ⟨S25, hS25⟩ : ∃ y : Hp, y = sI S3 116 v0 0 (0 : Int32) := ⟨_, rfl⟩
    have hw := hw S25 hS25
    rw [← hS25]
    clear hS25
    refine G_goto (pc := 78) C 216 dX7_takeToken_78 (by decide) ?_
    exact G_sub [] rfl (g_X7_takeToken_216 C  hw)
set_option maxHeartbeats 4000000 in
set_option maxRecDepth 100000 in
theorem gb_X7_takeToken_8 (C : Cx p s m args meth c z cX7_takeToken 1 RX7 none "takeToken") {K8 : Hp → Prop} {Q : Hp → Prop} {v0 : Nat} {S : Hp}  (hK8 : ∀  (S2 : Hp), K8  S2 → Go p l e { frames := 1, cells := 0, slots := 0, locals := 22 } s m args below meth c z 1 (MQ below (Qx z (wV Q)) args s 0 0 (own z)) (0) (0) 8 [(0, .ref (v0))] [] (S2)) (hw : wb_X7_takeToken_8  K8 Q v0 S) : Go p l e { frames := 1, cells := 0, slots := 0, locals := 22 } s m args below meth c z 1 (MQ below (Qx z (wV Q)) args s 0 0 (own z)) (0) (0) 8 [(0, .ref (v0))] [] (S) := by
  refine G_aload_n (pc := 8) C 0 dX7_takeToken_8 rfl rfl ?_
  obtain ⟨hk, hw⟩ := hw
  refine gf_RX7_36 (pc := 9) C dX7_takeToken_9 hk ?_
  refine G_aload_n (pc := 12) C 0 dX7_takeToken_12 rfl rfl ?_
  obtain ⟨hk, hw⟩ := hw
  refine gf_RX7_9 (pc := 13) C dX7_takeToken_13 hk ?_
  obtain ⟨b2, hq, hw⟩ := hw
  rw [hq]
  obtain ⟨hk, hw⟩ := hw
  refine gf_RX7_106 (pc := 16) C dX7_takeToken_16 hk ?_
  refine G_icmp_ge (pc := 19) C 51 dX7_takeToken_19 (by decide) (fun hc => ?_) (fun hc => ?_)
  · have hw := hw.1 hc
    exact G_sub [0] rfl (g_X7_takeToken_51 C  hw)
  · have hw := hw.2 hc
    refine G_aload_n (pc := 22) C 0 dX7_takeToken_22 rfl rfl ?_
    obtain ⟨hk, hw⟩ := hw
    refine gf_RX7_9 (pc := 23) C dX7_takeToken_23 hk ?_
    refine G_aload_n (pc := 26) C 0 dX7_takeToken_26 rfl rfl ?_
    obtain ⟨hk, hw⟩ := hw
    refine gf_RX7_36 (pc := 27) C dX7_takeToken_27 hk ?_
    refine G_bipush (pc := 30) C (v := 32) dX7_takeToken_30 (by decide) ?_
    obtain ⟨b26, hq, hw⟩ := hw
    rw [hq]
    obtain ⟨hk, hw⟩ := hw
    refine cl_RX7_45 (pc := 32) C (c_X10_isSign l z (b26) ((gI S 117 v0 0)) ((32 : Int32)) S _ hw) ⟨Nat.le_of_ble_eq_true rfl, Nat.le_of_ble_eq_true rfl⟩ hk dX7_takeToken_32 (Nat.le_of_ble_eq_true rfl) (fun v S' hp => ?_)
    clear hw
    obtain ⟨hS, e27, rfl, hw⟩ := hp
    subst S'
    refine G_if_eq (pc := 35) C 51 dX7_takeToken_35 (by decide) (fun hc => ?_) (fun hc => ?_)
    · have hw := hw.1 hc
      exact G_sub [0] rfl (g_X7_takeToken_51 C  hw)
    · have hw := hw.2 hc
      refine G_aload_n (pc := 38) C 0 dX7_takeToken_38 rfl rfl ?_
      refine G_dup (pc := 39) C dX7_takeToken_39 rfl ?_
      obtain ⟨hk, hw⟩ := hw
      refine gf_RX7_36 (pc := 40) C dX7_takeToken_40 hk ?_
      refine G_iconst (pc := 43) C (v := 1) dX7_takeToken_43 (by decide) ?_
      refine G_iadd (pc := 44) C dX7_takeToken_44 ?_
      obtain ⟨hk, hw⟩ := hw
      refine pf_RX7_36 (pc := 45) C dX7_takeToken_45 hk ?_
      obtain ⟨S29, hS29⟩ : ∃ y : Hp, y = sI S 117 v0 0 ((gI S 117 v0 0) + (1 : Int32)) := ⟨_, rfl⟩
      have hw := hw S29 hS29
      rw [← hS29]
      clear hS29
      refine G_goto (pc := 48) C 8 dX7_takeToken_48 (by decide) ?_
      exact G_sub [0] rfl (hK8 _ hw)
set_option maxHeartbeats 4000000 in
set_option maxRecDepth 100000 in
theorem g_X7_takeToken_8 (C : Cx p s m args meth c z cX7_takeToken 1 RX7 none "takeToken")  {Q : Hp → Prop} {v0 : Nat} {S : Hp}   (hw : wp_X7_takeToken_8  Q v0 S) : Go p l e { frames := 1, cells := 0, slots := 0, locals := 22 } s m args below meth c z 1 (MQ below (Qx z (wV Q)) args s 0 0 (own z)) (0) (0) 8 [(0, .ref (v0))] [] (S) :=
  Lp_go (G := fun y : Hp => Go p l e { frames := 1, cells := 0, slots := 0, locals := 22 } s m args below meth c z 1 (MQ below (Qx z (wV Q)) args s 0 0 (own z)) (0) (0) 8 [(0, .ref (v0))] [] (y)) (fun K y hK hB => gb_X7_takeToken_8 C  (fun w0 h => hK (w0) h) hB) hw
set_option maxHeartbeats 4000000 in
set_option maxRecDepth 100000 in
theorem c_X7_takeToken (l : Launch) (z : Zt) (a0 : Nat) (S : Hp) (Q : Hp → Prop) (hw : wp_X7_takeToken a0 S Q) : Ct l z yX7_takeToken cX7_takeToken 1 none 1 22 0 0 [.ref (a0)] S (wV Q) := by
  refine Ct_of (by decide) (Nat.le_of_ble_eq_true rfl) ?_
  intro p e s m args below meth c C
  have C : Cx p s m args meth c z cX7_takeToken 1 RX7 none "takeToken" := C
  refine G_sub (lv' := [(0, .ref (a0))]) [0] rfl ?_
  refine G_aload_n (pc := 0) C 0 dX7_takeToken_0 rfl rfl ?_
  refine G_aload_n (pc := 1) C 0 dX7_takeToken_1 rfl rfl ?_
  obtain ⟨hk, hw⟩ := hw
  refine gf_RX7_22 (pc := 2) C dX7_takeToken_2 hk ?_
  obtain ⟨hk, hw⟩ := hw
  refine pf_RX7_36 (pc := 5) C dX7_takeToken_5 hk ?_
  obtain ⟨S1, hS1⟩ : ∃ y : Hp, y = sI S 117 a0 0 (gI S 118 a0 0) := ⟨_, rfl⟩
  have hw := hw S1 hS1
  rw [← hS1]
  clear hS1
  exact G_sub [0] rfl (g_X7_takeToken_8 C  hw)
/-! FirstParts$Reader.takeNumber(I)Z -/
abbrev wp_X7_takeNumber_30  (Q : Int32 → Hp → Prop)  (S : Hp) : Prop :=
  Q (0 : Int32) S
abbrev wp_X7_takeNumber_80 (K37 : Int32 → Hp → Prop) (Q : Int32 → Hp → Prop) (v0 : Nat) (v1 : Int32) (v2 : Int32) (s0 : Int32) (s1 : Int32) (s2 : Nat) (S : Hp) : Prop :=
  kd S s2 = 8 ∧ ∀ S10 : Hp, S10 = sI S 120 s2 0 (s1 + s0) → ∀ e11 : Int32, e11 = (v2 + 1) → K37 (e11) (S10)
abbrev wb_X7_takeNumber_37  (K37 : Int32 → Hp → Prop) (Q : Int32 → Hp → Prop) (v0 : Nat) (v1 : Int32) (v2 : Int32) (S : Hp) : Prop :=
  kd S v0 = 8 ∧ (((gI S 118 v0 0) ≤ v2 → kd S v0 = 8 ∧ wp_X11_within ((gI S 120 v0 0)) ((1 : Int32)) (v1) S (fun e5 => (e5 = 0 ∨ e5 = 1) ∧ Q e5 S)) ∧ (¬ (gI S 118 v0 0) ≤ v2 → kd S v0 = 8 ∧ kd S v0 = 8 ∧ ∃ b7, (gR S 113 v0 0) = some b7 ∧ kd S b7 = 11 ∧ wp_X10_isDigit (b7) (v2) S (fun e8 => ((e8 = 0 → wp_X7_takeNumber_80 K37 Q (v0) (v1) (v2) ((0 : Int32)) (((gI S 120 v0 0) * (10 : Int32))) (v0) (S)) ∧ (¬ e8 = 0 → kd S v0 = 8 ∧ ∃ b12, (gR S 113 v0 0) = some b12 ∧ kd S b12 = 11 ∧ ∃ b13, (gR S 161 b12 0) = some b13 ∧ kd S b13 = 20 ∧ vp_in v2 (ln S b13) ∧ wp_X7_takeNumber_80 K37 Q (v0) (v1) (v2) (((gI S 0 b13 (v2).toNatClampNeg) - (48 : Int32))) (((gI S 120 v0 0) * (10 : Int32))) (v0) (S))))))
abbrev wp_X7_takeNumber_37  (Q : Int32 → Hp → Prop) (v0 : Nat) (v1 : Int32) (v2 : Int32) (S : Hp) : Prop :=
  Lp (X := Int32 × Hp) (fun K y => wb_X7_takeNumber_37  (fun w0 w1 => K (w0, w1)) Q v0 v1 y.1 y.2) (v2, S)
abbrev wp_X7_takeNumber (a0 : Nat) (x1 : Int32) (S : Hp) (Q : Int32 → Hp → Prop) : Prop :=
  kd S a0 = 8 ∧ wp_X7_takeToken (a0) S (fun S2 => kd S2 a0 = 8 ∧ ∀ S3 : Hp, S3 = sI S2 120 a0 0 (0 : Int32) → kd S3 a0 = 8 ∧ (((gI S3 116 a0 0) ≠ (2 : Int32) → wp_X7_takeNumber_30 Q (S3)) ∧ ((gI S3 116 a0 0) = (2 : Int32) → kd S3 a0 = 8 ∧ kd S3 a0 = 8 ∧ ((((gI S3 118 a0 0) - (gI S3 117 a0 0)) ≤ (2 : Int32) → kd S3 a0 = 8 ∧ ∀ e4 : Int32, e4 = (gI S3 117 a0 0) → wp_X7_takeNumber_37 Q (a0) (x1) (e4) (S3)) ∧ (¬ ((gI S3 118 a0 0) - (gI S3 117 a0 0)) ≤ (2 : Int32) → wp_X7_takeNumber_30 Q (S3))))))
set_option maxHeartbeats 4000000 in
set_option maxRecDepth 100000 in
theorem g_X7_takeNumber_30 (C : Cx p s m args meth c z cX7_takeNumber 3 RX7 (some .boolean) "takeNumber")  {Q : Int32 → Hp → Prop}  {S : Hp}   (hw : wp_X7_takeNumber_30  Q  S) : Go p l e { frames := 2, cells := 0, slots := 0, locals := 42 } s m args below meth c z 3 (MQ below (Qx z (wI Q)) args s 0 0 (own z)) (0) (0) 30 [] [] (S) := by
  refine G_iconst (pc := 30) C (v := 0) dX7_takeNumber_30 (by decide) ?_
  exact G_zret (pc := 31) C rfl (by decide) dX7_takeNumber_31 ⟨_, rfl, hw⟩
set_option maxHeartbeats 4000000 in
set_option maxRecDepth 100000 in
theorem g_X7_takeNumber_80 (C : Cx p s m args meth c z cX7_takeNumber 3 RX7 (some .boolean) "takeNumber") {K37 : Int32 → Hp → Prop} {Q : Int32 → Hp → Prop} {v0 : Nat} {v1 : Int32} {v2 : Int32} {s0 : Int32} {s1 : Int32} {s2 : Nat} {S : Hp}  (hK37 : ∀ (w2 : Int32) (S2 : Hp), K37 w2 S2 → Go p l e { frames := 2, cells := 0, slots := 0, locals := 42 } s m args below meth c z 3 (MQ below (Qx z (wI Q)) args s 0 0 (own z)) (0) (0) 37 [(0, .ref (v0)), (1, .int (v1)), (2, .int (w2))] [] (S2)) (hw : wp_X7_takeNumber_80 K37 Q v0 v1 v2 s0 s1 s2 S) : Go p l e { frames := 2, cells := 0, slots := 0, locals := 42 } s m args below meth c z 3 (MQ below (Qx z (wI Q)) args s 0 0 (own z)) (0) (0) 80 [(0, .ref (v0)), (1, .int (v1)), (2, .int (v2))] [.int (s0), .int (s1), .ref (s2)] (S) := by
  refine G_iadd (pc := 80) C dX7_takeNumber_80 ?_
  obtain ⟨hk, hw⟩ := hw
  refine pf_RX7_86 (pc := 81) C dX7_takeNumber_81 hk ?_
  obtain ⟨S10, hS10⟩ : ∃ y : Hp, y = sI S 120 s2 0 (s1 + s0) := ⟨_, rfl⟩
  have hw := hw S10 hS10
  rw [← hS10]
  clear hS10
  obtain ⟨e11, he11⟩ : ∃ y : Int32, y = (v2 + 1) := ⟨_, rfl⟩
  have hw := hw e11 he11
  refine G_iinc (pc := 84) C [(2, .int (e11)), (0, .ref (v0)), (1, .int (v1))] 2 (v := e11) dX7_takeNumber_84 rfl (by rw [he11]; rfl) (by decide) rfl ?_
  clear he11
  refine G_goto (pc := 87) C 37 dX7_takeNumber_87 (by decide) ?_
  exact G_sub [1, 2, 0] rfl (hK37 _ _ hw)
set_option maxHeartbeats 4000000 in
set_option maxRecDepth 100000 in
theorem gb_X7_takeNumber_37 (C : Cx p s m args meth c z cX7_takeNumber 3 RX7 (some .boolean) "takeNumber") {K37 : Int32 → Hp → Prop} {Q : Int32 → Hp → Prop} {v0 : Nat} {v1 : Int32} {v2 : Int32} {S : Hp}  (hK37 : ∀ (w2 : Int32) (S2 : Hp), K37 w2 S2 → Go p l e { frames := 2, cells := 0, slots := 0, locals := 42 } s m args below meth c z 3 (MQ below (Qx z (wI Q)) args s 0 0 (own z)) (0) (0) 37 [(0, .ref (v0)), (1, .int (v1)), (2, .int (w2))] [] (S2)) (hw : wb_X7_takeNumber_37  K37 Q v0 v1 v2 S) : Go p l e { frames := 2, cells := 0, slots := 0, locals := 42 } s m args below meth c z 3 (MQ below (Qx z (wI Q)) args s 0 0 (own z)) (0) (0) 37 [(0, .ref (v0)), (1, .int (v1)), (2, .int (v2))] [] (S) := by
  refine G_iload_n (pc := 37) C 2 dX7_takeNumber_37 rfl rfl ?_
  refine G_aload_n (pc := 38) C 0 dX7_takeNumber_38 rfl rfl ?_
  obtain ⟨hk, hw⟩ := hw
  refine gf_RX7_22 (pc := 39) C dX7_takeNumber_39 hk ?_
  refine G_icmp_ge (pc := 42) C 90 dX7_takeNumber_42 (by decide) (fun hc => ?_) (fun hc => ?_)
  · have hw := hw.1 hc
    refine G_aload_n (pc := 90) C 0 dX7_takeNumber_90 rfl rfl ?_
    obtain ⟨hk, hw⟩ := hw
    refine gf_RX7_86 (pc := 91) C dX7_takeNumber_91 hk ?_
    refine G_iconst (pc := 94) C (v := 1) dX7_takeNumber_94 (by decide) ?_
    refine G_iload_n (pc := 95) C 1 dX7_takeNumber_95 rfl rfl ?_
    refine cl_RX7_102 (pc := 96) C (c_X11_within l z ((gI S 120 v0 0)) ((1 : Int32)) (v1) S _ hw) ⟨Nat.le_of_ble_eq_true rfl, Nat.le_of_ble_eq_true rfl⟩ dX7_takeNumber_96 (Nat.le_of_ble_eq_true rfl) (fun v S' hp => ?_)
    clear hw
    obtain ⟨hS, e5, rfl, hw⟩ := hp
    subst S'
    obtain ⟨hb, hw⟩ := hw
    exact G_zret (pc := 99) C rfl hb dX7_takeNumber_99 ⟨_, rfl, hw⟩
  · have hw := hw.2 hc
    refine G_aload_n (pc := 45) C 0 dX7_takeNumber_45 rfl rfl ?_
    refine G_aload_n (pc := 46) C 0 dX7_takeNumber_46 rfl rfl ?_
    obtain ⟨hk, hw⟩ := hw
    refine gf_RX7_86 (pc := 47) C dX7_takeNumber_47 hk ?_
    refine G_bipush (pc := 50) C (v := 10) dX7_takeNumber_50 (by decide) ?_
    refine G_imul (pc := 52) C dX7_takeNumber_52 ?_
    refine G_aload_n (pc := 53) C 0 dX7_takeNumber_53 rfl rfl ?_
    obtain ⟨hk, hw⟩ := hw
    refine gf_RX7_9 (pc := 54) C dX7_takeNumber_54 hk ?_
    refine G_iload_n (pc := 57) C 2 dX7_takeNumber_57 rfl rfl ?_
    obtain ⟨b7, hq, hw⟩ := hw
    rw [hq]
    obtain ⟨hk, hw⟩ := hw
    refine cl_RX7_95 (pc := 58) C (c_X10_isDigit l z (b7) (v2) S _ hw) ⟨Nat.le_of_ble_eq_true rfl, Nat.le_of_ble_eq_true rfl⟩ hk dX7_takeNumber_58 (Nat.le_of_ble_eq_true rfl) (fun v S' hp => ?_)
    clear hw
    obtain ⟨hS, e8, rfl, hw⟩ := hp
    subst S'
    refine G_if_eq (pc := 61) C 79 dX7_takeNumber_61 (by decide) (fun hc => ?_) (fun hc => ?_)
    · have hw := hw.1 hc
      refine G_iconst (pc := 79) C (v := 0) dX7_takeNumber_79 (by decide) ?_
      exact G_sub [0, 1, 2] rfl (g_X7_takeNumber_80 C hK37 hw)
    · have hw := hw.2 hc
      refine G_aload_n (pc := 64) C 0 dX7_takeNumber_64 rfl rfl ?_
      obtain ⟨hk, hw⟩ := hw
      refine gf_RX7_9 (pc := 65) C dX7_takeNumber_65 hk ?_
      obtain ⟨b12, hq, hw⟩ := hw
      rw [hq]
      obtain ⟨hk, hw⟩ := hw
      refine gf_RX7_98 (pc := 68) C dX7_takeNumber_68 hk ?_
      refine G_iload_n (pc := 71) C 2 dX7_takeNumber_71 rfl rfl ?_
      obtain ⟨b13, hq, hw⟩ := hw
      rw [hq]
      obtain ⟨hk, hi, hw⟩ := hw
      refine G_iald (pc := 72) C hk hi dX7_takeNumber_72 ?_
      refine G_bipush (pc := 73) C (v := 48) dX7_takeNumber_73 (by decide) ?_
      refine G_isub (pc := 75) C dX7_takeNumber_75 ?_
      refine G_goto (pc := 76) C 80 dX7_takeNumber_76 (by decide) ?_
      exact G_sub [0, 1, 2] rfl (g_X7_takeNumber_80 C hK37 hw)
set_option maxHeartbeats 4000000 in
set_option maxRecDepth 100000 in
theorem g_X7_takeNumber_37 (C : Cx p s m args meth c z cX7_takeNumber 3 RX7 (some .boolean) "takeNumber")  {Q : Int32 → Hp → Prop} {v0 : Nat} {v1 : Int32} {v2 : Int32} {S : Hp}   (hw : wp_X7_takeNumber_37  Q v0 v1 v2 S) : Go p l e { frames := 2, cells := 0, slots := 0, locals := 42 } s m args below meth c z 3 (MQ below (Qx z (wI Q)) args s 0 0 (own z)) (0) (0) 37 [(0, .ref (v0)), (1, .int (v1)), (2, .int (v2))] [] (S) :=
  Lp_go (G := fun y : Int32 × Hp => Go p l e { frames := 2, cells := 0, slots := 0, locals := 42 } s m args below meth c z 3 (MQ below (Qx z (wI Q)) args s 0 0 (own z)) (0) (0) 37 [(0, .ref (v0)), (1, .int (v1)), (2, .int (y.1))] [] (y.2)) (fun K y hK hB => gb_X7_takeNumber_37 C  (fun w0 w1 h => hK (w0, w1) h) hB) hw
set_option maxHeartbeats 4000000 in
set_option maxRecDepth 100000 in
theorem c_X7_takeNumber (l : Launch) (z : Zt) (a0 : Nat) (x1 : Int32) (S : Hp) (Q : Int32 → Hp → Prop) (hw : wp_X7_takeNumber a0 x1 S Q) : Ct l z yX7_takeNumber cX7_takeNumber 3 (some .boolean) 2 42 0 0 [.ref (a0), .int (x1)] S (wI Q) := by
  refine Ct_of (by decide) (Nat.le_of_ble_eq_true rfl) ?_
  intro p e s m args below meth c C
  have C : Cx p s m args meth c z cX7_takeNumber 3 RX7 (some .boolean) "takeNumber" := C
  refine G_sub (lv' := [(0, .ref (a0)), (1, .int (x1))]) [0, 1] rfl ?_
  refine G_aload_n (pc := 0) C 0 dX7_takeNumber_0 rfl rfl ?_
  obtain ⟨hk, hw⟩ := hw
  refine cl_RX7_39 (pc := 1) C (c_X7_takeToken l z (a0) S _ hw) ⟨Nat.le_of_ble_eq_true rfl, Nat.le_of_ble_eq_true rfl⟩ hk dX7_takeNumber_1 (Nat.le_of_ble_eq_true rfl) (fun v S' hp => ?_)
  clear hw
  obtain ⟨rfl, hw⟩ := hp
  generalize S' = S2 at hw ⊢
  refine G_aload_n (pc := 4) C 0 dX7_takeNumber_4 rfl rfl ?_
  refine G_iconst (pc := 5) C (v := 0) dX7_takeNumber_5 (by decide) ?_
  obtain ⟨hk, hw⟩ := hw
  refine pf_RX7_86 (pc := 6) C dX7_takeNumber_6 hk ?_
  obtain ⟨S3, hS3⟩ : ∃ y : Hp, y = sI S2 120 a0 0 (0 : Int32) := ⟨_, rfl⟩
  have hw := hw S3 hS3
  rw [← hS3]
  clear hS3
  refine G_aload_n (pc := 9) C 0 dX7_takeNumber_9 rfl rfl ?_
  obtain ⟨hk, hw⟩ := hw
  refine gf_RX7_42 (pc := 10) C dX7_takeNumber_10 hk ?_
  refine G_iconst (pc := 13) C (v := 2) dX7_takeNumber_13 (by decide) ?_
  refine G_icmp_ne (pc := 14) C 30 dX7_takeNumber_14 (by decide) (fun hc => ?_) (fun hc => ?_)
  · have hw := hw.1 hc
    exact G_sub [] rfl (g_X7_takeNumber_30 C  hw)
  · have hw := hw.2 hc
    refine G_aload_n (pc := 17) C 0 dX7_takeNumber_17 rfl rfl ?_
    obtain ⟨hk, hw⟩ := hw
    refine gf_RX7_22 (pc := 18) C dX7_takeNumber_18 hk ?_
    refine G_aload_n (pc := 21) C 0 dX7_takeNumber_21 rfl rfl ?_
    obtain ⟨hk, hw⟩ := hw
    refine gf_RX7_36 (pc := 22) C dX7_takeNumber_22 hk ?_
    refine G_isub (pc := 25) C dX7_takeNumber_25 ?_
    refine G_iconst (pc := 26) C (v := 2) dX7_takeNumber_26 (by decide) ?_
    refine G_icmp_le (pc := 27) C 32 dX7_takeNumber_27 (by decide) (fun hc => ?_) (fun hc => ?_)
    · have hw := hw.1 hc
      refine G_aload_n (pc := 32) C 0 dX7_takeNumber_32 rfl rfl ?_
      obtain ⟨hk, hw⟩ := hw
      refine gf_RX7_36 (pc := 33) C dX7_takeNumber_33 hk ?_
      refine G_topi (fun e4 he4 => ?_)
      have hw := hw e4 he4
      clear he4
      refine G_istore_n (pc := 36) C [(2, .int (e4)), (0, .ref (a0)), (1, .int (x1))] dX7_takeNumber_36 rfl (by decide) rfl ?_
      exact G_sub [1, 2, 0] rfl (g_X7_takeNumber_37 C  hw)
    · have hw := hw.2 hc
      exact G_sub [] rfl (g_X7_takeNumber_30 C  hw)
/-! FirstParts$Reader.takeFirst(LFirstParts$Clause;I)Z -/
abbrev wp_X7_takeFirst (a0 : Nat) (a1 : Nat) (x2 : Int32) (S : Hp) (Q : Int32 → Hp → Prop) : Prop :=
  kd S a0 = 8 ∧ wp_X7_takeNumber (a0) (x2) S (fun e1 S2 => kd S2 a0 = 8 ∧ kd S2 a1 = 1 ∧ ∀ S3 : Hp, S3 = sI S2 4 a1 0 (gI S2 120 a0 0) → (e1 = 0 ∨ e1 = 1) ∧ Q e1 S3)
set_option maxHeartbeats 4000000 in
set_option maxRecDepth 100000 in
theorem c_X7_takeFirst (l : Launch) (z : Zt) (a0 : Nat) (a1 : Nat) (x2 : Int32) (S : Hp) (Q : Int32 → Hp → Prop) (hw : wp_X7_takeFirst a0 a1 x2 S Q) : Ct l z yX7_takeFirst cX7_takeFirst 4 (some .boolean) 3 64 0 0 [.ref (a0), .ref (a1), .int (x2)] S (wI Q) := by
  refine Ct_of (by decide) (Nat.le_of_ble_eq_true rfl) ?_
  intro p e s m args below meth c C
  have C : Cx p s m args meth c z cX7_takeFirst 4 RX7 (some .boolean) "takeFirst" := C
  refine G_sub (lv' := [(0, .ref (a0)), (1, .ref (a1)), (2, .int (x2))]) [0, 1, 2] rfl ?_
  refine G_aload_n (pc := 0) C 0 dX7_takeFirst_0 rfl rfl ?_
  refine G_iload_n (pc := 1) C 2 dX7_takeFirst_1 rfl rfl ?_
  obtain ⟨hk, hw⟩ := hw
  refine cl_RX7_82 (pc := 2) C (c_X7_takeNumber l z (a0) (x2) S _ hw) ⟨Nat.le_of_ble_eq_true rfl, Nat.le_of_ble_eq_true rfl⟩ hk dX7_takeFirst_2 (Nat.le_of_ble_eq_true rfl) (fun v S' hp => ?_)
  clear hw
  obtain ⟨e1, rfl, hw⟩ := hp
  generalize S' = S2 at hw ⊢
  refine G_istore_n (pc := 5) C [(3, .int (e1)), (0, .ref (a0)), (1, .ref (a1)), (2, .int (x2))] dX7_takeFirst_5 rfl (by decide) rfl ?_
  refine G_aload_n (pc := 6) C 2 dX7_takeFirst_6 rfl rfl ?_
  refine G_aload_n (pc := 7) C 1 dX7_takeFirst_7 rfl rfl ?_
  obtain ⟨hk, hw⟩ := hw
  refine gf_RX7_86 (pc := 8) C dX7_takeFirst_8 hk ?_
  obtain ⟨hk, hw⟩ := hw
  refine pf_RX7_89 (pc := 11) C dX7_takeFirst_11 hk ?_
  obtain ⟨S3, hS3⟩ : ∃ y : Hp, y = sI S2 4 a1 0 (gI S2 120 a0 0) := ⟨_, rfl⟩
  have hw := hw S3 hS3
  rw [← hS3]
  clear hS3
  refine G_iload_n (pc := 14) C 0 dX7_takeFirst_14 rfl rfl ?_
  obtain ⟨hb, hw⟩ := hw
  exact G_zret (pc := 15) C rfl hb dX7_takeFirst_15 ⟨_, rfl, hw⟩
/-! FirstParts$Reader.takeWord(LFirstParts$Clause;)Z -/
abbrev wp_X7_takeWord_47  (Q : Int32 → Hp → Prop) (s0 : Int32) (S : Hp) : Prop :=
  (s0 = 0 ∨ s0 = 1) ∧ Q s0 S
abbrev wp_X7_takeWord_46  (Q : Int32 → Hp → Prop)  (S : Hp) : Prop :=
  wp_X7_takeWord_47 Q ((0 : Int32)) (S)
abbrev wp_X7_takeWord (a0 : Nat) (a1 : Nat) (S : Hp) (Q : Int32 → Hp → Prop) : Prop :=
  kd S a0 = 8 ∧ wp_X7_takeToken (a0) S (fun S2 => kd S2 a0 = 8 ∧ kd S2 a1 = 1 ∧ ∀ S3 : Hp, S3 = sI S2 2 a1 0 (gI S2 117 a0 0) → kd S3 a0 = 8 ∧ kd S3 a0 = 8 ∧ kd S3 a1 = 1 ∧ ∀ S4 : Hp, S4 = sI S3 3 a1 0 ((gI S3 118 a0 0) - (gI S3 117 a0 0)) → kd S4 a0 = 8 ∧ (((gI S4 116 a0 0) ≠ (1 : Int32) → wp_X7_takeWord_46 Q (S4)) ∧ ((gI S4 116 a0 0) = (1 : Int32) → kd S4 a1 = 1 ∧ (((12 : Int32) < (gI S4 3 a1 0) → wp_X7_takeWord_46 Q (S4)) ∧ (¬ (12 : Int32) < (gI S4 3 a1 0) → wp_X7_takeWord_47 Q ((1 : Int32)) (S4))))))
set_option maxHeartbeats 4000000 in
set_option maxRecDepth 100000 in
theorem g_X7_takeWord_47 (C : Cx p s m args meth c z cX7_takeWord 2 RX7 (some .boolean) "takeWord")  {Q : Int32 → Hp → Prop} {s0 : Int32} {S : Hp}   (hw : wp_X7_takeWord_47  Q s0 S) : Go p l e { frames := 2, cells := 0, slots := 0, locals := 42 } s m args below meth c z 2 (MQ below (Qx z (wI Q)) args s 0 0 (own z)) (0) (0) 47 [] [.int (s0)] (S) := by
  obtain ⟨hb, hw⟩ := hw
  exact G_zret (pc := 47) C rfl hb dX7_takeWord_47 ⟨_, rfl, hw⟩
set_option maxHeartbeats 4000000 in
set_option maxRecDepth 100000 in
theorem g_X7_takeWord_46 (C : Cx p s m args meth c z cX7_takeWord 2 RX7 (some .boolean) "takeWord")  {Q : Int32 → Hp → Prop}  {S : Hp}   (hw : wp_X7_takeWord_46  Q  S) : Go p l e { frames := 2, cells := 0, slots := 0, locals := 42 } s m args below meth c z 2 (MQ below (Qx z (wI Q)) args s 0 0 (own z)) (0) (0) 46 [] [] (S) := by
  refine G_iconst (pc := 46) C (v := 0) dX7_takeWord_46 (by decide) ?_
  exact G_sub [] rfl (g_X7_takeWord_47 C  hw)
set_option maxHeartbeats 4000000 in
set_option maxRecDepth 100000 in
theorem c_X7_takeWord (l : Launch) (z : Zt) (a0 : Nat) (a1 : Nat) (S : Hp) (Q : Int32 → Hp → Prop) (hw : wp_X7_takeWord a0 a1 S Q) : Ct l z yX7_takeWord cX7_takeWord 2 (some .boolean) 2 42 0 0 [.ref (a0), .ref (a1)] S (wI Q) := by
  refine Ct_of (by decide) (Nat.le_of_ble_eq_true rfl) ?_
  intro p e s m args below meth c C
  have C : Cx p s m args meth c z cX7_takeWord 2 RX7 (some .boolean) "takeWord" := C
  refine G_sub (lv' := [(0, .ref (a0)), (1, .ref (a1))]) [0, 1] rfl ?_
  refine G_aload_n (pc := 0) C 0 dX7_takeWord_0 rfl rfl ?_
  obtain ⟨hk, hw⟩ := hw
  refine cl_RX7_39 (pc := 1) C (c_X7_takeToken l z (a0) S _ hw) ⟨Nat.le_of_ble_eq_true rfl, Nat.le_of_ble_eq_true rfl⟩ hk dX7_takeWord_1 (Nat.le_of_ble_eq_true rfl) (fun v S' hp => ?_)
  clear hw
  obtain ⟨rfl, hw⟩ := hp
  generalize S' = S2 at hw ⊢
  refine G_aload_n (pc := 4) C 1 dX7_takeWord_4 rfl rfl ?_
  refine G_aload_n (pc := 5) C 0 dX7_takeWord_5 rfl rfl ?_
  obtain ⟨hk, hw⟩ := hw
  refine gf_RX7_36 (pc := 6) C dX7_takeWord_6 hk ?_
  obtain ⟨hk, hw⟩ := hw
  refine pf_RX7_76 (pc := 9) C dX7_takeWord_9 hk ?_
  obtain ⟨S3, hS3⟩ : ∃ y : Hp, y = sI S2 2 a1 0 (gI S2 117 a0 0) := ⟨_, rfl⟩
  have hw := hw S3 hS3
  rw [← hS3]
  clear hS3
  refine G_aload_n (pc := 12) C 1 dX7_takeWord_12 rfl rfl ?_
  refine G_aload_n (pc := 13) C 0 dX7_takeWord_13 rfl rfl ?_
  obtain ⟨hk, hw⟩ := hw
  refine gf_RX7_22 (pc := 14) C dX7_takeWord_14 hk ?_
  refine G_aload_n (pc := 17) C 0 dX7_takeWord_17 rfl rfl ?_
  obtain ⟨hk, hw⟩ := hw
  refine gf_RX7_36 (pc := 18) C dX7_takeWord_18 hk ?_
  refine G_isub (pc := 21) C dX7_takeWord_21 ?_
  obtain ⟨hk, hw⟩ := hw
  refine pf_RX7_79 (pc := 22) C dX7_takeWord_22 hk ?_
  obtain ⟨S4, hS4⟩ : ∃ y : Hp, y = sI S3 3 a1 0 ((gI S3 118 a0 0) - (gI S3 117 a0 0)) := ⟨_, rfl⟩
  have hw := hw S4 hS4
  rw [← hS4]
  clear hS4
  refine G_aload_n (pc := 25) C 0 dX7_takeWord_25 rfl rfl ?_
  obtain ⟨hk, hw⟩ := hw
  refine gf_RX7_42 (pc := 26) C dX7_takeWord_26 hk ?_
  refine G_iconst (pc := 29) C (v := 1) dX7_takeWord_29 (by decide) ?_
  refine G_icmp_ne (pc := 30) C 46 dX7_takeWord_30 (by decide) (fun hc => ?_) (fun hc => ?_)
  · have hw := hw.1 hc
    exact G_sub [] rfl (g_X7_takeWord_46 C  hw)
  · have hw := hw.2 hc
    refine G_aload_n (pc := 33) C 1 dX7_takeWord_33 rfl rfl ?_
    obtain ⟨hk, hw⟩ := hw
    refine gf_RX7_79 (pc := 34) C dX7_takeWord_34 hk ?_
    refine G_bipush (pc := 37) C (v := 12) dX7_takeWord_37 (by decide) ?_
    refine G_icmp_gt (pc := 39) C 46 dX7_takeWord_39 (by decide) (fun hc => ?_) (fun hc => ?_)
    · have hw := hw.1 hc
      exact G_sub [] rfl (g_X7_takeWord_46 C  hw)
    · have hw := hw.2 hc
      refine G_iconst (pc := 42) C (v := 1) dX7_takeWord_42 (by decide) ?_
      refine G_goto (pc := 43) C 47 dX7_takeWord_43 (by decide) ?_
      exact G_sub [] rfl (g_X7_takeWord_47 C  hw)
/-! FirstParts$Reader.takeSecond(LFirstParts$Clause;I)Z -/
abbrev wp_X7_takeSecond (a0 : Nat) (a1 : Nat) (x2 : Int32) (S : Hp) (Q : Int32 → Hp → Prop) : Prop :=
  kd S a0 = 8 ∧ wp_X7_takeNumber (a0) (x2) S (fun e1 S2 => kd S2 a0 = 8 ∧ kd S2 a1 = 1 ∧ ∀ S3 : Hp, S3 = sI S2 5 a1 0 (gI S2 120 a0 0) → (e1 = 0 ∨ e1 = 1) ∧ Q e1 S3)
set_option maxHeartbeats 4000000 in
set_option maxRecDepth 100000 in
theorem c_X7_takeSecond (l : Launch) (z : Zt) (a0 : Nat) (a1 : Nat) (x2 : Int32) (S : Hp) (Q : Int32 → Hp → Prop) (hw : wp_X7_takeSecond a0 a1 x2 S Q) : Ct l z yX7_takeSecond cX7_takeSecond 4 (some .boolean) 3 64 0 0 [.ref (a0), .ref (a1), .int (x2)] S (wI Q) := by
  refine Ct_of (by decide) (Nat.le_of_ble_eq_true rfl) ?_
  intro p e s m args below meth c C
  have C : Cx p s m args meth c z cX7_takeSecond 4 RX7 (some .boolean) "takeSecond" := C
  refine G_sub (lv' := [(0, .ref (a0)), (1, .ref (a1)), (2, .int (x2))]) [0, 1, 2] rfl ?_
  refine G_aload_n (pc := 0) C 0 dX7_takeSecond_0 rfl rfl ?_
  refine G_iload_n (pc := 1) C 2 dX7_takeSecond_1 rfl rfl ?_
  obtain ⟨hk, hw⟩ := hw
  refine cl_RX7_82 (pc := 2) C (c_X7_takeNumber l z (a0) (x2) S _ hw) ⟨Nat.le_of_ble_eq_true rfl, Nat.le_of_ble_eq_true rfl⟩ hk dX7_takeSecond_2 (Nat.le_of_ble_eq_true rfl) (fun v S' hp => ?_)
  clear hw
  obtain ⟨e1, rfl, hw⟩ := hp
  generalize S' = S2 at hw ⊢
  refine G_istore_n (pc := 5) C [(3, .int (e1)), (0, .ref (a0)), (1, .ref (a1)), (2, .int (x2))] dX7_takeSecond_5 rfl (by decide) rfl ?_
  refine G_aload_n (pc := 6) C 2 dX7_takeSecond_6 rfl rfl ?_
  refine G_aload_n (pc := 7) C 1 dX7_takeSecond_7 rfl rfl ?_
  obtain ⟨hk, hw⟩ := hw
  refine gf_RX7_86 (pc := 8) C dX7_takeSecond_8 hk ?_
  obtain ⟨hk, hw⟩ := hw
  refine pf_RX7_92 (pc := 11) C dX7_takeSecond_11 hk ?_
  obtain ⟨S3, hS3⟩ : ∃ y : Hp, y = sI S2 5 a1 0 (gI S2 120 a0 0) := ⟨_, rfl⟩
  have hw := hw S3 hS3
  rw [← hS3]
  clear hS3
  refine G_iload_n (pc := 14) C 0 dX7_takeSecond_14 rfl rfl ?_
  obtain ⟨hb, hw⟩ := hw
  exact G_zret (pc := 15) C rfl hb dX7_takeSecond_15 ⟨_, rfl, hw⟩
/-! FirstParts$Reader.takeClause(LFirstParts$Clause;)Z -/
abbrev wp_X7_takeClause_180  (Q : Int32 → Hp → Prop)  (S : Hp) : Prop :=
  Q (0 : Int32) S
abbrev wp_X7_takeClause_179  (Q : Int32 → Hp → Prop) (s0 : Int32) (S : Hp) : Prop :=
  (s0 = 0 ∨ s0 = 1) ∧ Q s0 S
abbrev wp_X7_takeClause_178  (Q : Int32 → Hp → Prop)  (S : Hp) : Prop :=
  wp_X7_takeClause_179 Q ((0 : Int32)) (S)
abbrev wp_X7_takeClause (a0 : Nat) (a1 : Nat) (S : Hp) (Q : Int32 → Hp → Prop) : Prop :=
  kd S a0 = 8 ∧ wp_X7_takeToken (a0) S (fun S2 => kd S2 a0 = 8 ∧ kd S2 a0 = 8 ∧ kd S2 a0 = 8 ∧ ∃ b3, (gR S2 113 a0 0) = some b3 ∧ kd S2 b3 = 11 ∧ wp_X10_says (b3) ((gI S2 117 a0 0)) ((gI S2 118 a0 0)) (0) S2 (fun e4 => ((e4 = 0 → kd S2 a0 = 8 ∧ kd S2 a0 = 8 ∧ kd S2 a0 = 8 ∧ ∃ b6, (gR S2 113 a0 0) = some b6 ∧ kd S2 b6 = 11 ∧ wp_X10_says (b6) ((gI S2 117 a0 0)) ((gI S2 118 a0 0)) (1) S2 (fun e7 => ((e7 = 0 → kd S2 a0 = 8 ∧ kd S2 a0 = 8 ∧ kd S2 a0 = 8 ∧ ∃ b9, (gR S2 113 a0 0) = some b9 ∧ kd S2 b9 = 11 ∧ wp_X10_says (b9) ((gI S2 117 a0 0)) ((gI S2 118 a0 0)) (2) S2 (fun e10 => ((e10 = 0 → kd S2 a0 = 8 ∧ kd S2 a0 = 8 ∧ kd S2 a0 = 8 ∧ ∃ b12, (gR S2 113 a0 0) = some b12 ∧ kd S2 b12 = 11 ∧ wp_X10_says (b12) ((gI S2 117 a0 0)) ((gI S2 118 a0 0)) (3) S2 (fun e13 => ((e13 = 0 → wp_X7_takeClause_180 Q (S2)) ∧ (¬ e13 = 0 → kd S2 a0 = 8 ∧ (((6 : Int32) ≤ (gI S2 119 a0 0) → wp_X7_takeClause_180 Q (S2)) ∧ (¬ (6 : Int32) ≤ (gI S2 119 a0 0) → kd S2 a1 = 1 ∧ ∀ S15 : Hp, S15 = sI S2 1 a1 0 (3 : Int32) → kd S15 a0 = 8 ∧ kd S15 a0 = 8 ∧ ∀ S16 : Hp, S16 = sI S15 119 a0 0 ((gI S15 119 a0 0) + (1 : Int32)) → kd S16 a0 = 8 ∧ wp_X7_takeWord (a0) (a1) S16 (fun e17 S18 => ((e17 = 0 → wp_X7_takeClause_178 Q (S18)) ∧ (¬ e17 = 0 → kd S18 a0 = 8 ∧ wp_X7_takeFirst (a0) (a1) ((8 : Int32)) S18 (fun e19 S20 => ((e19 = 0 → wp_X7_takeClause_178 Q (S20)) ∧ (¬ e19 = 0 → kd S20 a0 = 8 ∧ wp_X7_takeSecond (a0) (a1) ((9 : Int32)) S20 (fun e21 S22 => ((e21 = 0 → wp_X7_takeClause_178 Q (S22)) ∧ (¬ e21 = 0 → wp_X7_takeClause_179 Q ((1 : Int32)) (S22)))))))))))))))) ∧ (¬ e10 = 0 → kd S2 a1 = 1 ∧ ∀ S23 : Hp, S23 = sI S2 1 a1 0 (2 : Int32) → kd S23 a0 = 8 ∧ wp_X7_takeFirst (a0) (a1) ((40 : Int32)) S23 (fun e24 S25 => (e24 = 0 ∨ e24 = 1) ∧ Q e24 S25))))) ∧ (¬ e7 = 0 → kd S2 a1 = 1 ∧ ∀ S26 : Hp, S26 = sI S2 1 a1 0 (1 : Int32) → kd S26 a0 = 8 ∧ wp_X7_takeFirst (a0) (a1) ((8 : Int32)) S26 (fun e27 S28 => (e27 = 0 ∨ e27 = 1) ∧ Q e27 S28))))) ∧ (¬ e4 = 0 → kd S2 a1 = 1 ∧ ∀ S29 : Hp, S29 = sI S2 1 a1 0 (0 : Int32) → kd S29 a0 = 8 ∧ ∀ S30 : Hp, S30 = sI S29 119 a0 0 (0 : Int32) → Q (1 : Int32) S30))))
set_option maxHeartbeats 4000000 in
set_option maxRecDepth 100000 in
theorem g_X7_takeClause_180 (C : Cx p s m args meth c z cX7_takeClause 2 RX7 (some .boolean) "takeClause")  {Q : Int32 → Hp → Prop}  {S : Hp}   (hw : wp_X7_takeClause_180  Q  S) : Go p l e { frames := 5, cells := 0, slots := 0, locals := 109 } s m args below meth c z 2 (MQ below (Qx z (wI Q)) args s 0 0 (own z)) (0) (0) 180 [] [] (S) := by
  refine G_iconst (pc := 180) C (v := 0) dX7_takeClause_180 (by decide) ?_
  exact G_zret (pc := 181) C rfl (by decide) dX7_takeClause_181 ⟨_, rfl, hw⟩
set_option maxHeartbeats 4000000 in
set_option maxRecDepth 100000 in
theorem g_X7_takeClause_179 (C : Cx p s m args meth c z cX7_takeClause 2 RX7 (some .boolean) "takeClause")  {Q : Int32 → Hp → Prop} {s0 : Int32} {S : Hp}   (hw : wp_X7_takeClause_179  Q s0 S) : Go p l e { frames := 5, cells := 0, slots := 0, locals := 109 } s m args below meth c z 2 (MQ below (Qx z (wI Q)) args s 0 0 (own z)) (0) (0) 179 [] [.int (s0)] (S) := by
  obtain ⟨hb, hw⟩ := hw
  exact G_zret (pc := 179) C rfl hb dX7_takeClause_179 ⟨_, rfl, hw⟩
set_option maxHeartbeats 4000000 in
set_option maxRecDepth 100000 in
theorem g_X7_takeClause_178 (C : Cx p s m args meth c z cX7_takeClause 2 RX7 (some .boolean) "takeClause")  {Q : Int32 → Hp → Prop}  {S : Hp}   (hw : wp_X7_takeClause_178  Q  S) : Go p l e { frames := 5, cells := 0, slots := 0, locals := 109 } s m args below meth c z 2 (MQ below (Qx z (wI Q)) args s 0 0 (own z)) (0) (0) 178 [] [] (S) := by
  refine G_iconst (pc := 178) C (v := 0) dX7_takeClause_178 (by decide) ?_
  exact G_sub [] rfl (g_X7_takeClause_179 C  hw)
set_option maxHeartbeats 4000000 in
set_option maxRecDepth 100000 in
theorem c_X7_takeClause (l : Launch) (z : Zt) (a0 : Nat) (a1 : Nat) (S : Hp) (Q : Int32 → Hp → Prop) (hw : wp_X7_takeClause a0 a1 S Q) : Ct l z yX7_takeClause cX7_takeClause 2 (some .boolean) 5 109 0 0 [.ref (a0), .ref (a1)] S (wI Q) := by
  refine Ct_of (by decide) (Nat.le_of_ble_eq_true rfl) ?_
  intro p e s m args below meth c C
  have C : Cx p s m args meth c z cX7_takeClause 2 RX7 (some .boolean) "takeClause" := C
  refine G_sub (lv' := [(0, .ref (a0)), (1, .ref (a1))]) [0, 1] rfl ?_
  refine G_aload_n (pc := 0) C 0 dX7_takeClause_0 rfl rfl ?_
  obtain ⟨hk, hw⟩ := hw
  refine cl_RX7_39 (pc := 1) C (c_X7_takeToken l z (a0) S _ hw) ⟨Nat.le_of_ble_eq_true rfl, Nat.le_of_ble_eq_true rfl⟩ hk dX7_takeClause_1 (Nat.le_of_ble_eq_true rfl) (fun v S' hp => ?_)
  clear hw
  obtain ⟨rfl, hw⟩ := hp
  generalize S' = S2 at hw ⊢
  refine G_aload_n (pc := 4) C 0 dX7_takeClause_4 rfl rfl ?_
  obtain ⟨hk, hw⟩ := hw
  refine gf_RX7_9 (pc := 5) C dX7_takeClause_5 hk ?_
  refine G_aload_n (pc := 8) C 0 dX7_takeClause_8 rfl rfl ?_
  obtain ⟨hk, hw⟩ := hw
  refine gf_RX7_36 (pc := 9) C dX7_takeClause_9 hk ?_
  refine G_aload_n (pc := 12) C 0 dX7_takeClause_12 rfl rfl ?_
  obtain ⟨hk, hw⟩ := hw
  refine gf_RX7_22 (pc := 13) C dX7_takeClause_13 hk ?_
  refine G_ldcS (pc := 16) C 0 rfl rfl dX7_takeClause_16 ?_
  obtain ⟨b3, hq, hw⟩ := hw
  rw [hq]
  obtain ⟨hk, hw⟩ := hw
  refine cl_RX7_53 (pc := 18) C (c_X10_says l z (b3) ((gI S2 117 a0 0)) ((gI S2 118 a0 0)) (0) S2 _ hw) ⟨Nat.le_of_ble_eq_true rfl, Nat.le_of_ble_eq_true rfl⟩ hk dX7_takeClause_18 (Nat.le_of_ble_eq_true rfl) (fun v S' hp => ?_)
  clear hw
  obtain ⟨hS, e4, rfl, hw⟩ := hp
  subst S'
  refine G_if_eq (pc := 21) C 36 dX7_takeClause_21 (by decide) (fun hc => ?_) (fun hc => ?_)
  · have hw := hw.1 hc
    refine G_aload_n (pc := 36) C 0 dX7_takeClause_36 rfl rfl ?_
    obtain ⟨hk, hw⟩ := hw
    refine gf_RX7_9 (pc := 37) C dX7_takeClause_37 hk ?_
    refine G_aload_n (pc := 40) C 0 dX7_takeClause_40 rfl rfl ?_
    obtain ⟨hk, hw⟩ := hw
    refine gf_RX7_36 (pc := 41) C dX7_takeClause_41 hk ?_
    refine G_aload_n (pc := 44) C 0 dX7_takeClause_44 rfl rfl ?_
    obtain ⟨hk, hw⟩ := hw
    refine gf_RX7_22 (pc := 45) C dX7_takeClause_45 hk ?_
    refine G_ldcS (pc := 48) C 1 rfl rfl dX7_takeClause_48 ?_
    obtain ⟨b6, hq, hw⟩ := hw
    rw [hq]
    obtain ⟨hk, hw⟩ := hw
    refine cl_RX7_53 (pc := 50) C (c_X10_says l z (b6) ((gI S2 117 a0 0)) ((gI S2 118 a0 0)) (1) S2 _ hw) ⟨Nat.le_of_ble_eq_true rfl, Nat.le_of_ble_eq_true rfl⟩ hk dX7_takeClause_50 (Nat.le_of_ble_eq_true rfl) (fun v S' hp => ?_)
    clear hw
    obtain ⟨hS, e7, rfl, hw⟩ := hp
    subst S'
    refine G_if_eq (pc := 53) C 69 dX7_takeClause_53 (by decide) (fun hc => ?_) (fun hc => ?_)
    · have hw := hw.1 hc
      refine G_aload_n (pc := 69) C 0 dX7_takeClause_69 rfl rfl ?_
      obtain ⟨hk, hw⟩ := hw
      refine gf_RX7_9 (pc := 70) C dX7_takeClause_70 hk ?_
      refine G_aload_n (pc := 73) C 0 dX7_takeClause_73 rfl rfl ?_
      obtain ⟨hk, hw⟩ := hw
      refine gf_RX7_36 (pc := 74) C dX7_takeClause_74 hk ?_
      refine G_aload_n (pc := 77) C 0 dX7_takeClause_77 rfl rfl ?_
      obtain ⟨hk, hw⟩ := hw
      refine gf_RX7_22 (pc := 78) C dX7_takeClause_78 hk ?_
      refine G_ldcS (pc := 81) C 2 rfl rfl dX7_takeClause_81 ?_
      obtain ⟨b9, hq, hw⟩ := hw
      rw [hq]
      obtain ⟨hk, hw⟩ := hw
      refine cl_RX7_53 (pc := 83) C (c_X10_says l z (b9) ((gI S2 117 a0 0)) ((gI S2 118 a0 0)) (2) S2 _ hw) ⟨Nat.le_of_ble_eq_true rfl, Nat.le_of_ble_eq_true rfl⟩ hk dX7_takeClause_83 (Nat.le_of_ble_eq_true rfl) (fun v S' hp => ?_)
      clear hw
      obtain ⟨hS, e10, rfl, hw⟩ := hp
      subst S'
      refine G_if_eq (pc := 86) C 102 dX7_takeClause_86 (by decide) (fun hc => ?_) (fun hc => ?_)
      · have hw := hw.1 hc
        refine G_aload_n (pc := 102) C 0 dX7_takeClause_102 rfl rfl ?_
        obtain ⟨hk, hw⟩ := hw
        refine gf_RX7_9 (pc := 103) C dX7_takeClause_103 hk ?_
        refine G_aload_n (pc := 106) C 0 dX7_takeClause_106 rfl rfl ?_
        obtain ⟨hk, hw⟩ := hw
        refine gf_RX7_36 (pc := 107) C dX7_takeClause_107 hk ?_
        refine G_aload_n (pc := 110) C 0 dX7_takeClause_110 rfl rfl ?_
        obtain ⟨hk, hw⟩ := hw
        refine gf_RX7_22 (pc := 111) C dX7_takeClause_111 hk ?_
        refine G_ldcS (pc := 114) C 3 rfl rfl dX7_takeClause_114 ?_
        obtain ⟨b12, hq, hw⟩ := hw
        rw [hq]
        obtain ⟨hk, hw⟩ := hw
        refine cl_RX7_53 (pc := 116) C (c_X10_says l z (b12) ((gI S2 117 a0 0)) ((gI S2 118 a0 0)) (3) S2 _ hw) ⟨Nat.le_of_ble_eq_true rfl, Nat.le_of_ble_eq_true rfl⟩ hk dX7_takeClause_116 (Nat.le_of_ble_eq_true rfl) (fun v S' hp => ?_)
        clear hw
        obtain ⟨hS, e13, rfl, hw⟩ := hp
        subst S'
        refine G_if_eq (pc := 119) C 180 dX7_takeClause_119 (by decide) (fun hc => ?_) (fun hc => ?_)
        · have hw := hw.1 hc
          exact G_sub [] rfl (g_X7_takeClause_180 C  hw)
        · have hw := hw.2 hc
          refine G_aload_n (pc := 122) C 0 dX7_takeClause_122 rfl rfl ?_
          obtain ⟨hk, hw⟩ := hw
          refine gf_RX7_29 (pc := 123) C dX7_takeClause_123 hk ?_
          refine G_bipush (pc := 126) C (v := 6) dX7_takeClause_126 (by decide) ?_
          refine G_icmp_ge (pc := 128) C 180 dX7_takeClause_128 (by decide) (fun hc => ?_) (fun hc => ?_)
          · have hw := hw.1 hc
            exact G_sub [] rfl (g_X7_takeClause_180 C  hw)
          · have hw := hw.2 hc
            refine G_aload_n (pc := 131) C 1 dX7_takeClause_131 rfl rfl ?_
            refine G_iconst (pc := 132) C (v := 3) dX7_takeClause_132 (by decide) ?_
            obtain ⟨hk, hw⟩ := hw
            refine pf_RX7_57 (pc := 133) C dX7_takeClause_133 hk ?_
            obtain ⟨S15, hS15⟩ : ∃ y : Hp, y = sI S2 1 a1 0 (3 : Int32) := ⟨_, rfl⟩
            have hw := hw S15 hS15
            rw [← hS15]
            clear hS15
            refine G_aload_n (pc := 136) C 0 dX7_takeClause_136 rfl rfl ?_
            refine G_dup (pc := 137) C dX7_takeClause_137 rfl ?_
            obtain ⟨hk, hw⟩ := hw
            refine gf_RX7_29 (pc := 138) C dX7_takeClause_138 hk ?_
            refine G_iconst (pc := 141) C (v := 1) dX7_takeClause_141 (by decide) ?_
            refine G_iadd (pc := 142) C dX7_takeClause_142 ?_
            obtain ⟨hk, hw⟩ := hw
            refine pf_RX7_29 (pc := 143) C dX7_takeClause_143 hk ?_
            obtain ⟨S16, hS16⟩ : ∃ y : Hp, y = sI S15 119 a0 0 ((gI S15 119 a0 0) + (1 : Int32)) := ⟨_, rfl⟩
            have hw := hw S16 hS16
            rw [← hS16]
            clear hS16
            refine G_aload_n (pc := 146) C 0 dX7_takeClause_146 rfl rfl ?_
            refine G_aload_n (pc := 147) C 1 dX7_takeClause_147 rfl rfl ?_
            obtain ⟨hk, hw⟩ := hw
            refine cl_RX7_70 (pc := 148) C (c_X7_takeWord l z (a0) (a1) S16 _ hw) ⟨Nat.le_of_ble_eq_true rfl, Nat.le_of_ble_eq_true rfl⟩ hk dX7_takeClause_148 (Nat.le_of_ble_eq_true rfl) (fun v S' hp => ?_)
            clear hw
            obtain ⟨e17, rfl, hw⟩ := hp
            generalize S' = S18 at hw ⊢
            refine G_if_eq (pc := 151) C 178 dX7_takeClause_151 (by decide) (fun hc => ?_) (fun hc => ?_)
            · have hw := hw.1 hc
              exact G_sub [] rfl (g_X7_takeClause_178 C  hw)
            · have hw := hw.2 hc
              refine G_aload_n (pc := 154) C 0 dX7_takeClause_154 rfl rfl ?_
              refine G_aload_n (pc := 155) C 1 dX7_takeClause_155 rfl rfl ?_
              refine G_bipush (pc := 156) C (v := 8) dX7_takeClause_156 (by decide) ?_
              obtain ⟨hk, hw⟩ := hw
              refine cl_RX7_62 (pc := 158) C (c_X7_takeFirst l z (a0) (a1) ((8 : Int32)) S18 _ hw) ⟨Nat.le_of_ble_eq_true rfl, Nat.le_of_ble_eq_true rfl⟩ hk dX7_takeClause_158 (Nat.le_of_ble_eq_true rfl) (fun v S' hp => ?_)
              clear hw
              obtain ⟨e19, rfl, hw⟩ := hp
              generalize S' = S20 at hw ⊢
              refine G_if_eq (pc := 161) C 178 dX7_takeClause_161 (by decide) (fun hc => ?_) (fun hc => ?_)
              · have hw := hw.1 hc
                exact G_sub [] rfl (g_X7_takeClause_178 C  hw)
              · have hw := hw.2 hc
                refine G_aload_n (pc := 164) C 0 dX7_takeClause_164 rfl rfl ?_
                refine G_aload_n (pc := 165) C 1 dX7_takeClause_165 rfl rfl ?_
                refine G_bipush (pc := 166) C (v := 9) dX7_takeClause_166 (by decide) ?_
                obtain ⟨hk, hw⟩ := hw
                refine cl_RX7_73 (pc := 168) C (c_X7_takeSecond l z (a0) (a1) ((9 : Int32)) S20 _ hw) ⟨Nat.le_of_ble_eq_true rfl, Nat.le_of_ble_eq_true rfl⟩ hk dX7_takeClause_168 (Nat.le_of_ble_eq_true rfl) (fun v S' hp => ?_)
                clear hw
                obtain ⟨e21, rfl, hw⟩ := hp
                generalize S' = S22 at hw ⊢
                refine G_if_eq (pc := 171) C 178 dX7_takeClause_171 (by decide) (fun hc => ?_) (fun hc => ?_)
                · have hw := hw.1 hc
                  exact G_sub [] rfl (g_X7_takeClause_178 C  hw)
                · have hw := hw.2 hc
                  refine G_iconst (pc := 174) C (v := 1) dX7_takeClause_174 (by decide) ?_
                  refine G_goto (pc := 175) C 179 dX7_takeClause_175 (by decide) ?_
                  exact G_sub [] rfl (g_X7_takeClause_179 C  hw)
      · have hw := hw.2 hc
        refine G_aload_n (pc := 89) C 1 dX7_takeClause_89 rfl rfl ?_
        refine G_iconst (pc := 90) C (v := 2) dX7_takeClause_90 (by decide) ?_
        obtain ⟨hk, hw⟩ := hw
        refine pf_RX7_57 (pc := 91) C dX7_takeClause_91 hk ?_
        obtain ⟨S23, hS23⟩ : ∃ y : Hp, y = sI S2 1 a1 0 (2 : Int32) := ⟨_, rfl⟩
        have hw := hw S23 hS23
        rw [← hS23]
        clear hS23
        refine G_aload_n (pc := 94) C 0 dX7_takeClause_94 rfl rfl ?_
        refine G_aload_n (pc := 95) C 1 dX7_takeClause_95 rfl rfl ?_
        refine G_bipush (pc := 96) C (v := 40) dX7_takeClause_96 (by decide) ?_
        obtain ⟨hk, hw⟩ := hw
        refine cl_RX7_62 (pc := 98) C (c_X7_takeFirst l z (a0) (a1) ((40 : Int32)) S23 _ hw) ⟨Nat.le_of_ble_eq_true rfl, Nat.le_of_ble_eq_true rfl⟩ hk dX7_takeClause_98 (Nat.le_of_ble_eq_true rfl) (fun v S' hp => ?_)
        clear hw
        obtain ⟨e24, rfl, hw⟩ := hp
        generalize S' = S25 at hw ⊢
        obtain ⟨hb, hw⟩ := hw
        exact G_zret (pc := 101) C rfl hb dX7_takeClause_101 ⟨_, rfl, hw⟩
    · have hw := hw.2 hc
      refine G_aload_n (pc := 56) C 1 dX7_takeClause_56 rfl rfl ?_
      refine G_iconst (pc := 57) C (v := 1) dX7_takeClause_57 (by decide) ?_
      obtain ⟨hk, hw⟩ := hw
      refine pf_RX7_57 (pc := 58) C dX7_takeClause_58 hk ?_
      obtain ⟨S26, hS26⟩ : ∃ y : Hp, y = sI S2 1 a1 0 (1 : Int32) := ⟨_, rfl⟩
      have hw := hw S26 hS26
      rw [← hS26]
      clear hS26
      refine G_aload_n (pc := 61) C 0 dX7_takeClause_61 rfl rfl ?_
      refine G_aload_n (pc := 62) C 1 dX7_takeClause_62 rfl rfl ?_
      refine G_bipush (pc := 63) C (v := 8) dX7_takeClause_63 (by decide) ?_
      obtain ⟨hk, hw⟩ := hw
      refine cl_RX7_62 (pc := 65) C (c_X7_takeFirst l z (a0) (a1) ((8 : Int32)) S26 _ hw) ⟨Nat.le_of_ble_eq_true rfl, Nat.le_of_ble_eq_true rfl⟩ hk dX7_takeClause_65 (Nat.le_of_ble_eq_true rfl) (fun v S' hp => ?_)
      clear hw
      obtain ⟨e27, rfl, hw⟩ := hp
      generalize S' = S28 at hw ⊢
      obtain ⟨hb, hw⟩ := hw
      exact G_zret (pc := 68) C rfl hb dX7_takeClause_68 ⟨_, rfl, hw⟩
  · have hw := hw.2 hc
    refine G_aload_n (pc := 24) C 1 dX7_takeClause_24 rfl rfl ?_
    refine G_iconst (pc := 25) C (v := 0) dX7_takeClause_25 (by decide) ?_
    obtain ⟨hk, hw⟩ := hw
    refine pf_RX7_57 (pc := 26) C dX7_takeClause_26 hk ?_
    obtain ⟨S29, hS29⟩ : ∃ y : Hp, y = sI S2 1 a1 0 (0 : Int32) := ⟨_, rfl⟩
    have hw := hw S29 hS29
    rw [← hS29]
    clear hS29
    refine G_aload_n (pc := 29) C 0 dX7_takeClause_29 rfl rfl ?_
    refine G_iconst (pc := 30) C (v := 0) dX7_takeClause_30 (by decide) ?_
    obtain ⟨hk, hw⟩ := hw
    refine pf_RX7_29 (pc := 31) C dX7_takeClause_31 hk ?_
    obtain ⟨S30, hS30⟩ : ∃ y : Hp, y = sI S29 119 a0 0 (0 : Int32) := ⟨_, rfl⟩
    have hw := hw S30 hS30
    rw [← hS30]
    clear hS30
    refine G_iconst (pc := 34) C (v := 1) dX7_takeClause_34 (by decide) ?_
    exact G_zret (pc := 35) C rfl (by decide) dX7_takeClause_35 ⟨_, rfl, hw⟩
/-! FirstParts$Reader.firstFault(I)I -/
abbrev wb_X7_firstFault_17  (K17 : Int32 → Hp → Prop) (Q : Int32 → Hp → Prop) (v0 : Nat) (v2 : Int32) (S : Hp) : Prop :=
  (((24 : Int32) ≤ v2 → kd S v0 = 8 ∧ Q (gI S 117 v0 0) S) ∧ (¬ (24 : Int32) ≤ v2 → kd S v0 = 8 ∧ ∃ b4, (gR S 114 v0 0) = some b4 ∧ kd S b4 = 21 ∧ vp_in v2 (ln S b4) ∧ ∃ b5, (gR S 0 b4 (v2).toNatClampNeg) = some b5 ∧ kd S v0 = 8 ∧ wp_X7_takeClause (v0) (b5) S (fun e6 S7 => ((e6 ≠ 0 → kd S7 v0 = 8 ∧ kd S7 v0 = 8 ∧ ∀ S8 : Hp, S8 = sI S7 115 v0 0 ((gI S7 115 v0 0) + (1 : Int32)) → kd S8 v0 = 8 ∧ wp_X7_takeToken (v0) S8 (fun S10 => kd S10 v0 = 8 ∧ (((gI S10 116 v0 0) ≠ 0 → kd S10 v0 = 8 ∧ kd S10 v0 = 8 ∧ ∃ b11, (gR S10 113 v0 0) = some b11 ∧ kd S10 b11 = 11 ∧ wp_X10_isSign (b11) ((gI S10 117 v0 0)) ((59 : Int32)) S10 (fun e12 => ((e12 ≠ 0 → ∀ e14 : Int32, e14 = (v2 + 1) → K17 (e14) (S10)) ∧ (e12 = 0 → kd S10 v0 = 8 ∧ Q (gI S10 117 v0 0) S10)))) ∧ ((gI S10 116 v0 0) = 0 → Q (-1 : Int32) S10)))) ∧ (e6 = 0 → kd S7 v0 = 8 ∧ Q (gI S7 117 v0 0) S7)))))
abbrev wp_X7_firstFault_17  (Q : Int32 → Hp → Prop) (v0 : Nat) (v2 : Int32) (S : Hp) : Prop :=
  Lp (X := Int32 × Hp) (fun K y => wb_X7_firstFault_17  (fun w0 w1 => K (w0, w1)) Q v0 y.1 y.2) (v2, S)
abbrev wp_X7_firstFault (a0 : Nat) (x1 : Int32) (S : Hp) (Q : Int32 → Hp → Prop) : Prop :=
  kd S a0 = 8 ∧ ∀ S1 : Hp, S1 = sI S 118 a0 0 (0 : Int32) → kd S1 a0 = 8 ∧ ∀ S2 : Hp, S2 = sI S1 115 a0 0 (0 : Int32) → kd S2 a0 = 8 ∧ ∀ S3 : Hp, S3 = sI S2 119 a0 0 x1 → wp_X7_firstFault_17 Q (a0) ((0 : Int32)) (S3)
set_option maxHeartbeats 4000000 in
set_option maxRecDepth 100000 in
theorem gb_X7_firstFault_17 (C : Cx p s m args meth c z cX7_firstFault 3 RX7 (some .int) "firstFault") {K17 : Int32 → Hp → Prop} {Q : Int32 → Hp → Prop} {v0 : Nat} {v2 : Int32} {S : Hp}  (hK17 : ∀ (w2 : Int32) (S2 : Hp), K17 w2 S2 → Go p l e { frames := 6, cells := 0, slots := 0, locals := 130 } s m args below meth c z 3 (MQ below (Qx z (wI Q)) args s 0 0 (own z)) (0) (0) 17 [(0, .ref (v0)), (2, .int (w2))] [] (S2)) (hw : wb_X7_firstFault_17  K17 Q v0 v2 S) : Go p l e { frames := 6, cells := 0, slots := 0, locals := 130 } s m args below meth c z 3 (MQ below (Qx z (wI Q)) args s 0 0 (own z)) (0) (0) 17 [(0, .ref (v0)), (2, .int (v2))] [] (S) := by
  refine G_iload_n (pc := 17) C 1 dX7_firstFault_17 rfl rfl ?_
  refine G_bipush (pc := 18) C (v := 24) dX7_firstFault_18 (by decide) ?_
  refine G_icmp_ge (pc := 20) C 91 dX7_firstFault_20 (by decide) (fun hc => ?_) (fun hc => ?_)
  · have hw := hw.1 hc
    refine G_aload_n (pc := 91) C 0 dX7_firstFault_91 rfl rfl ?_
    obtain ⟨hk, hw⟩ := hw
    refine gf_RX7_36 (pc := 92) C dX7_firstFault_92 hk ?_
    exact G_iret (pc := 95) C rfl dX7_firstFault_95 ⟨_, rfl, hw⟩
  · have hw := hw.2 hc
    refine G_aload_n (pc := 23) C 0 dX7_firstFault_23 rfl rfl ?_
    refine G_aload_n (pc := 24) C 0 dX7_firstFault_24 rfl rfl ?_
    obtain ⟨hk, hw⟩ := hw
    refine gf_RX7_17 (pc := 25) C dX7_firstFault_25 hk ?_
    refine G_iload_n (pc := 28) C 1 dX7_firstFault_28 rfl rfl ?_
    obtain ⟨b4, hq, hw⟩ := hw
    rw [hq]
    obtain ⟨hk, hi, hw⟩ := hw
    refine G_aald (pc := 29) C 1 rfl (by decide) rfl hk hi dX7_firstFault_29 ?_
    obtain ⟨b5, hq, hw⟩ := hw
    rw [hq]
    obtain ⟨hk, hw⟩ := hw
    refine cl_RX7_32 (pc := 30) C (c_X7_takeClause l z (v0) (b5) S _ hw) ⟨Nat.le_of_ble_eq_true rfl, Nat.le_of_ble_eq_true rfl⟩ hk dX7_firstFault_30 (Nat.le_of_ble_eq_true rfl) (fun v S' hp => ?_)
    clear hw
    obtain ⟨e6, rfl, hw⟩ := hp
    generalize S' = S7 at hw ⊢
    refine G_if_ne (pc := 33) C 41 dX7_firstFault_33 (by decide) (fun hc => ?_) (fun hc => ?_)
    · have hw := hw.1 hc
      refine G_aload_n (pc := 41) C 0 dX7_firstFault_41 rfl rfl ?_
      refine G_dup (pc := 42) C dX7_firstFault_42 rfl ?_
      obtain ⟨hk, hw⟩ := hw
      refine gf_RX7_26 (pc := 43) C dX7_firstFault_43 hk ?_
      refine G_iconst (pc := 46) C (v := 1) dX7_firstFault_46 (by decide) ?_
      refine G_iadd (pc := 47) C dX7_firstFault_47 ?_
      obtain ⟨hk, hw⟩ := hw
      refine pf_RX7_26 (pc := 48) C dX7_firstFault_48 hk ?_
      obtain ⟨S8, hS8⟩ : ∃ y : Hp, y = sI S7 115 v0 0 ((gI S7 115 v0 0) + (1 : Int32)) := ⟨_, rfl⟩
      have hw := hw S8 hS8
      rw [← hS8]
      clear hS8
      refine G_aload_n (pc := 51) C 0 dX7_firstFault_51 rfl rfl ?_
      obtain ⟨hk, hw⟩ := hw
      refine cl_RX7_39 (pc := 52) C (c_X7_takeToken l z (v0) S8 _ hw) ⟨Nat.le_of_ble_eq_true rfl, Nat.le_of_ble_eq_true rfl⟩ hk dX7_firstFault_52 (Nat.le_of_ble_eq_true rfl) (fun v S' hp => ?_)
      clear hw
      obtain ⟨rfl, hw⟩ := hp
      generalize S' = S10 at hw ⊢
      refine G_aload_n (pc := 55) C 0 dX7_firstFault_55 rfl rfl ?_
      obtain ⟨hk, hw⟩ := hw
      refine gf_RX7_42 (pc := 56) C dX7_firstFault_56 hk ?_
      refine G_if_ne (pc := 59) C 64 dX7_firstFault_59 (by decide) (fun hc => ?_) (fun hc => ?_)
      · have hw := hw.1 hc
        refine G_aload_n (pc := 64) C 0 dX7_firstFault_64 rfl rfl ?_
        obtain ⟨hk, hw⟩ := hw
        refine gf_RX7_9 (pc := 65) C dX7_firstFault_65 hk ?_
        refine G_aload_n (pc := 68) C 0 dX7_firstFault_68 rfl rfl ?_
        obtain ⟨hk, hw⟩ := hw
        refine gf_RX7_36 (pc := 69) C dX7_firstFault_69 hk ?_
        refine G_bipush (pc := 72) C (v := 59) dX7_firstFault_72 (by decide) ?_
        obtain ⟨b11, hq, hw⟩ := hw
        rw [hq]
        obtain ⟨hk, hw⟩ := hw
        refine cl_RX7_45 (pc := 74) C (c_X10_isSign l z (b11) ((gI S10 117 v0 0)) ((59 : Int32)) S10 _ hw) ⟨Nat.le_of_ble_eq_true rfl, Nat.le_of_ble_eq_true rfl⟩ hk dX7_firstFault_74 (Nat.le_of_ble_eq_true rfl) (fun v S' hp => ?_)
        clear hw
        obtain ⟨hS, e12, rfl, hw⟩ := hp
        subst S'
        refine G_if_ne (pc := 77) C 85 dX7_firstFault_77 (by decide) (fun hc => ?_) (fun hc => ?_)
        · have hw := hw.1 hc
          obtain ⟨e14, he14⟩ : ∃ y : Int32, y = (v2 + 1) := ⟨_, rfl⟩
          have hw := hw e14 he14
          refine G_iinc (pc := 85) C [(2, .int (e14)), (0, .ref (v0))] 1 (v := e14) dX7_firstFault_85 rfl (by rw [he14]; rfl) (by decide) rfl ?_
          clear he14
          refine G_goto (pc := 88) C 17 dX7_firstFault_88 (by decide) ?_
          exact G_sub [1, 0] rfl (hK17 _ _ hw)
        · have hw := hw.2 hc
          refine G_aload_n (pc := 80) C 0 dX7_firstFault_80 rfl rfl ?_
          obtain ⟨hk, hw⟩ := hw
          refine gf_RX7_36 (pc := 81) C dX7_firstFault_81 hk ?_
          exact G_iret (pc := 84) C rfl dX7_firstFault_84 ⟨_, rfl, hw⟩
      · have hw := hw.2 hc
        refine G_iconst (pc := 62) C (v := -1) dX7_firstFault_62 (by decide) ?_
        exact G_iret (pc := 63) C rfl dX7_firstFault_63 ⟨_, rfl, hw⟩
    · have hw := hw.2 hc
      refine G_aload_n (pc := 36) C 0 dX7_firstFault_36 rfl rfl ?_
      obtain ⟨hk, hw⟩ := hw
      refine gf_RX7_36 (pc := 37) C dX7_firstFault_37 hk ?_
      exact G_iret (pc := 40) C rfl dX7_firstFault_40 ⟨_, rfl, hw⟩
set_option maxHeartbeats 4000000 in
set_option maxRecDepth 100000 in
theorem g_X7_firstFault_17 (C : Cx p s m args meth c z cX7_firstFault 3 RX7 (some .int) "firstFault")  {Q : Int32 → Hp → Prop} {v0 : Nat} {v2 : Int32} {S : Hp}   (hw : wp_X7_firstFault_17  Q v0 v2 S) : Go p l e { frames := 6, cells := 0, slots := 0, locals := 130 } s m args below meth c z 3 (MQ below (Qx z (wI Q)) args s 0 0 (own z)) (0) (0) 17 [(0, .ref (v0)), (2, .int (v2))] [] (S) :=
  Lp_go (G := fun y : Int32 × Hp => Go p l e { frames := 6, cells := 0, slots := 0, locals := 130 } s m args below meth c z 3 (MQ below (Qx z (wI Q)) args s 0 0 (own z)) (0) (0) 17 [(0, .ref (v0)), (2, .int (y.1))] [] (y.2)) (fun K y hK hB => gb_X7_firstFault_17 C  (fun w0 w1 h => hK (w0, w1) h) hB) hw
set_option maxHeartbeats 4000000 in
set_option maxRecDepth 100000 in
theorem c_X7_firstFault (l : Launch) (z : Zt) (a0 : Nat) (x1 : Int32) (S : Hp) (Q : Int32 → Hp → Prop) (hw : wp_X7_firstFault a0 x1 S Q) : Ct l z yX7_firstFault cX7_firstFault 3 (some .int) 6 130 0 0 [.ref (a0), .int (x1)] S (wI Q) := by
  refine Ct_of (by decide) (Nat.le_of_ble_eq_true rfl) ?_
  intro p e s m args below meth c C
  have C : Cx p s m args meth c z cX7_firstFault 3 RX7 (some .int) "firstFault" := C
  refine G_sub (lv' := [(0, .ref (a0)), (1, .int (x1))]) [0, 1] rfl ?_
  refine G_aload_n (pc := 0) C 0 dX7_firstFault_0 rfl rfl ?_
  refine G_iconst (pc := 1) C (v := 0) dX7_firstFault_1 (by decide) ?_
  obtain ⟨hk, hw⟩ := hw
  refine pf_RX7_22 (pc := 2) C dX7_firstFault_2 hk ?_
  obtain ⟨S1, hS1⟩ : ∃ y : Hp, y = sI S 118 a0 0 (0 : Int32) := ⟨_, rfl⟩
  have hw := hw S1 hS1
  rw [← hS1]
  clear hS1
  refine G_aload_n (pc := 5) C 0 dX7_firstFault_5 rfl rfl ?_
  refine G_iconst (pc := 6) C (v := 0) dX7_firstFault_6 (by decide) ?_
  obtain ⟨hk, hw⟩ := hw
  refine pf_RX7_26 (pc := 7) C dX7_firstFault_7 hk ?_
  obtain ⟨S2, hS2⟩ : ∃ y : Hp, y = sI S1 115 a0 0 (0 : Int32) := ⟨_, rfl⟩
  have hw := hw S2 hS2
  rw [← hS2]
  clear hS2
  refine G_aload_n (pc := 10) C 0 dX7_firstFault_10 rfl rfl ?_
  refine G_iload_n (pc := 11) C 1 dX7_firstFault_11 rfl rfl ?_
  obtain ⟨hk, hw⟩ := hw
  refine pf_RX7_29 (pc := 12) C dX7_firstFault_12 hk ?_
  obtain ⟨S3, hS3⟩ : ∃ y : Hp, y = sI S2 119 a0 0 x1 := ⟨_, rfl⟩
  have hw := hw S3 hS3
  rw [← hS3]
  clear hS3
  refine G_iconst (pc := 15) C (v := 0) dX7_firstFault_15 (by decide) ?_
  refine G_istore_n (pc := 16) C [(2, .int ((0 : Int32))), (0, .ref (a0)), (1, .int (x1))] dX7_firstFault_16 rfl (by decide) rfl ?_
  exact G_sub [1, 0] rfl (g_X7_firstFault_17 C  hw)
end W20readerleantxt
