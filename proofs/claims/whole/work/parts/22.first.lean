section W22firstleantxt
variable {p : Program} {l : Launch} {e : Env} {R : Room} {s : State} {m : MethodId} {args : Array Value} {below : List Frame} {meth : Method} {c : Code} {z : Zt} {cc : ByteArray} {nL : Nat} {ow : String} {ret : Option FieldType} {nm : String} {Q : State → Prop} {bc bs pc : Nat} {lv : List (Nat × Value)} {st : List Value} {S : Hp}
theorem dsc_X10_init : dsc yX10_init 0 := ⟨by decide, by decide, by decide +kernel⟩
theorem cl_RX11_9 (C : Cx p s m args meth c z cc nL RX11 ret nm) {a : Nat}  {rest : List Value} {post : Option Value → Hp → Prop} (hm : Ct l z yX10_init cX10_init 1 none 1 20 1 200 [.ref a] S post) (hR : 1 + 1 ≤ R.frames ∧ 8 + (1 + 11) + 20 ≤ R.locals) (hd : decode cc pc = .ok (.invokespecial 9, 3)) (hW : (rest.map fun v => v.category).sum ≤ 8) (k : ∀ (v : Option Value) (S' : Hp), post v S' → Go p l e R s m args below meth c z nL Q bc bs (pc + 3) lv (v.toList ++ rest) S') : Go p l e R s m args below meth c z nL Q (bc + 1) (bs + 200) pc lv (.ref a :: rest) S := G_callI C rfl (gt_t 31 (by decide +kernel) rfl) (gt_t 32 (by decide +kernel) rfl) (gt_t 2 (by decide +kernel) rfl) (gt_t 33 (by decide +kernel) rfl) (dsc_X10_init) hm rfl hR rfl hW hd k
theorem dsc_X7_init : dsc yX7_init 1 := ⟨by decide, by decide, by decide +kernel⟩
theorem cl_RX11_18 (C : Cx p s m args meth c z cc nL RX11 ret nm) {a : Nat} {q0 : Nat} {rest : List Value} {post : Option Value → Hp → Prop} (hm : Ct l z yX7_init cX7_init 3 none 2 40 25 144 [.ref a, .ref (q0)] S post) (hR : 2 + 1 ≤ R.frames ∧ 8 + (3 + 11) + 40 ≤ R.locals) (hd : decode cc pc = .ok (.invokespecial 18, 3)) (hW : (rest.map fun v => v.category).sum ≤ 8) (k : ∀ (v : Option Value) (S' : Hp), post v S' → Go p l e R s m args below meth c z nL Q bc bs (pc + 3) lv (v.toList ++ rest) S') : Go p l e R s m args below meth c z nL Q (bc + 25) (bs + 144) pc lv (.ref (q0) :: .ref a :: rest) S := G_callI C rfl (gt_t 48 (by decide +kernel) rfl) (gt_t 49 (by decide +kernel) rfl) (gt_t 3 (by decide +kernel) rfl) (gt_t 50 (by decide +kernel) rfl) (dsc_X7_init) hm rfl hR rfl hW hd k
theorem cl_RX11_27 (C : Cx p s m args meth c z cc nL RX11 ret nm) {a : Nat}  {rest : List Value} {post : Option Value → Hp → Prop} (hm : Ct l z yX2_init cX2_init 3 none 2 43 3 9 [.ref a] S post) (hR : 2 + 1 ≤ R.frames ∧ 8 + (3 + 11) + 43 ≤ R.locals) (hd : decode cc pc = .ok (.invokespecial 27, 3)) (hW : (rest.map fun v => v.category).sum ≤ 8) (k : ∀ (v : Option Value) (S' : Hp), post v S' → Go p l e R s m args below meth c z nL Q bc bs (pc + 3) lv (v.toList ++ rest) S') : Go p l e R s m args below meth c z nL Q (bc + 3) (bs + 9) pc lv (.ref a :: rest) S := G_callI C rfl (gt_t 109 (by decide +kernel) rfl) (gt_t 110 (by decide +kernel) rfl) (gt_t 5 (by decide +kernel) rfl) (gt_t 111 (by decide +kernel) rfl) (dsc_X2_init) hm rfl hR rfl hW hd k
theorem dsc_X6_init : dsc yX6_init 0 := ⟨by decide, by decide, by decide +kernel⟩
theorem cl_RX11_34 (C : Cx p s m args meth c z cc nL RX11 ret nm) {a : Nat}  {rest : List Value} {post : Option Value → Hp → Prop} (hm : Ct l z yX6_init cX6_init 1 none 1 20 9 300 [.ref a] S post) (hR : 1 + 1 ≤ R.frames ∧ 8 + (1 + 11) + 20 ≤ R.locals) (hd : decode cc pc = .ok (.invokespecial 34, 3)) (hW : (rest.map fun v => v.category).sum ≤ 8) (k : ∀ (v : Option Value) (S' : Hp), post v S' → Go p l e R s m args below meth c z nL Q bc bs (pc + 3) lv (v.toList ++ rest) S') : Go p l e R s m args below meth c z nL Q (bc + 9) (bs + 300) pc lv (.ref a :: rest) S := G_callI C rfl (gt_t 163 (by decide +kernel) rfl) (gt_t 164 (by decide +kernel) rfl) (gt_t 7 (by decide +kernel) rfl) (gt_t 165 (by decide +kernel) rfl) (dsc_X6_init) hm rfl hR rfl hW hd k
theorem dsc_X1_init : dsc yX1_init 0 := ⟨by decide, by decide, by decide +kernel⟩
theorem cl_RX11_41 (C : Cx p s m args meth c z cc nL RX11 ret nm) {a : Nat}  {rest : List Value} {post : Option Value → Hp → Prop} (hm : Ct l z yX1_init cX1_init 1 none 1 20 5 40 [.ref a] S post) (hR : 1 + 1 ≤ R.frames ∧ 8 + (1 + 11) + 20 ≤ R.locals) (hd : decode cc pc = .ok (.invokespecial 41, 3)) (hW : (rest.map fun v => v.category).sum ≤ 8) (k : ∀ (v : Option Value) (S' : Hp), post v S' → Go p l e R s m args below meth c z nL Q bc bs (pc + 3) lv (v.toList ++ rest) S') : Go p l e R s m args below meth c z nL Q (bc + 5) (bs + 40) pc lv (.ref a :: rest) S := G_callI C rfl (gt_t 183 (by decide +kernel) rfl) (gt_t 184 (by decide +kernel) rfl) (gt_t 8 (by decide +kernel) rfl) (gt_t 185 (by decide +kernel) rfl) (dsc_X1_init) hm rfl hR rfl hW hd k
theorem dsc_X3_init : dsc yX3_init 3 := ⟨by decide, by decide, by decide +kernel⟩
theorem cl_RX11_48 (C : Cx p s m args meth c z cc nL RX11 ret nm) {a : Nat} {q0 : Nat} {q1 : Int32} {q2 : Int32} {rest : List Value} {post : Option Value → Hp → Prop} (hm : Ct l z yX3_init cX3_init 5 none 3 73 27 692 [.ref a, .ref (q0), .int (q1), .int (q2)] S post) (hR : 3 + 1 ≤ R.frames ∧ 8 + (5 + 11) + 73 ≤ R.locals) (hd : decode cc pc = .ok (.invokespecial 48, 3)) (hW : (rest.map fun v => v.category).sum ≤ 8) (k : ∀ (v : Option Value) (S' : Hp), post v S' → Go p l e R s m args below meth c z nL Q bc bs (pc + 3) lv (v.toList ++ rest) S') : Go p l e R s m args below meth c z nL Q (bc + 27) (bs + 692) pc lv (.int (q2) :: .int (q1) :: .ref (q0) :: .ref a :: rest) S := G_callI C rfl (gt_t 212 (by decide +kernel) rfl) (gt_t 213 (by decide +kernel) rfl) (gt_t 9 (by decide +kernel) rfl) (gt_t 214 (by decide +kernel) rfl) (dsc_X3_init) hm rfl hR rfl hW hd k
theorem dsc_X9_init : dsc yX9_init 1 := ⟨by decide, by decide, by decide +kernel⟩
theorem cl_RX11_57 (C : Cx p s m args meth c z cc nL RX11 ret nm) {a : Nat} {q0 : Nat} {rest : List Value} {post : Option Value → Hp → Prop} (hm : Ct l z yX9_init cX9_init 3 none 4 86 49 480 [.ref a, .ref (q0)] S post) (hR : 4 + 1 ≤ R.frames ∧ 8 + (3 + 11) + 86 ≤ R.locals) (hd : decode cc pc = .ok (.invokespecial 57, 3)) (hW : (rest.map fun v => v.category).sum ≤ 8) (k : ∀ (v : Option Value) (S' : Hp), post v S' → Go p l e R s m args below meth c z nL Q bc bs (pc + 3) lv (v.toList ++ rest) S') : Go p l e R s m args below meth c z nL Q (bc + 49) (bs + 480) pc lv (.ref (q0) :: .ref a :: rest) S := G_callI C rfl (gt_t 308 (by decide +kernel) rfl) (gt_t 309 (by decide +kernel) rfl) (gt_t 12 (by decide +kernel) rfl) (gt_t 310 (by decide +kernel) rfl) (dsc_X9_init) hm rfl hR rfl hW hd k
theorem gf_RX11_10 (C : Cx p s m args meth c z cc nL RX11 ret nm) {a : Nat} (hd : decode cc pc = .ok (.getfield 10, 3)) (hk : kd S a = 12) (k : Go p l e R s m args below meth c z nL Q bc bs (pc + 3) lv (va_rf (gR S 177 a 0) :: st) S) : Go p l e R s m args below meth c z nL Q bc bs pc lv (.ref a :: st) S := G_getR C 11 0 7 rfl rfl (by decide) in_X11 rfl rfl (gt_t 352 (by decide +kernel) rfl) hd hk k
theorem gf_RX11_28 (C : Cx p s m args meth c z cc nL RX11 ret nm) {a : Nat} (hd : decode cc pc = .ok (.getfield 28, 3)) (hk : kd S a = 12) (k : Go p l e R s m args below meth c z nL Q bc bs (pc + 3) lv (va_rf (gR S 179 a 0) :: st) S) : Go p l e R s m args below meth c z nL Q bc bs pc lv (.ref a :: st) S := G_getR C 11 2 7 rfl rfl (by decide) in_X11 rfl rfl (gt_t 354 (by decide +kernel) rfl) hd hk k
theorem gf_RX11_51 (C : Cx p s m args meth c z cc nL RX11 ret nm) {a : Nat} (hd : decode cc pc = .ok (.getfield 51, 3)) (hk : kd S a = 12) (k : Go p l e R s m args below meth c z nL Q bc bs (pc + 3) lv (va_rf (gR S 183 a 0) :: st) S) : Go p l e R s m args below meth c z nL Q bc bs pc lv (.ref a :: st) S := G_getR C 11 6 7 rfl rfl (by decide) in_X11 rfl rfl (gt_t 358 (by decide +kernel) rfl) hd hk k
theorem nw_RX11_7 (C : Cx p s m args meth c z cc nL RX11 ret nm) (hd : decode cc pc = .ok (.new 7, 3)) (k : Go p l e R s m args below meth c z nL Q bc bs (pc + 3) lv (.ref (sz S) :: st) (nw S 11 0)) : Go p l e R s m args below meth c z nL Q (bc + 1) (bs + 2) pc lv st S := G_new C 10 2 rfl rfl in_X10 tyX10 tyX10_ok (by decide) (gt_t 29 (by decide +kernel) rfl) (gt_t 30 (by decide +kernel) rfl) (gt_t 2 (by decide +kernel) rfl) hd k
theorem nw_RX11_16 (C : Cx p s m args meth c z cc nL RX11 ret nm) (hd : decode cc pc = .ok (.new 16, 3)) (k : Go p l e R s m args below meth c z nL Q bc bs (pc + 3) lv (.ref (sz S) :: st) (nw S 8 0)) : Go p l e R s m args below meth c z nL Q (bc + 1) (bs + 8) pc lv st S := G_new C 7 8 rfl rfl in_X7 tyX7 tyX7_ok (by decide) (gt_t 46 (by decide +kernel) rfl) (gt_t 47 (by decide +kernel) rfl) (gt_t 3 (by decide +kernel) rfl) hd k
theorem nw_RX11_25 (C : Cx p s m args meth c z cc nL RX11 ret nm) (hd : decode cc pc = .ok (.new 25, 3)) (k : Go p l e R s m args below meth c z nL Q bc bs (pc + 3) lv (.ref (sz S) :: st) (nw S 3 0)) : Go p l e R s m args below meth c z nL Q (bc + 1) (bs + 4) pc lv st S := G_new C 2 4 rfl rfl in_X2 tyX2 tyX2_ok (by decide) (gt_t 107 (by decide +kernel) rfl) (gt_t 108 (by decide +kernel) rfl) (gt_t 5 (by decide +kernel) rfl) hd k
theorem nw_RX11_32 (C : Cx p s m args meth c z cc nL RX11 ret nm) (hd : decode cc pc = .ok (.new 32, 3)) (k : Go p l e R s m args below meth c z nL Q bc bs (pc + 3) lv (.ref (sz S) :: st) (nw S 7 0)) : Go p l e R s m args below meth c z nL Q (bc + 1) (bs + 3) pc lv st S := G_new C 6 3 rfl rfl in_X6 tyX6 tyX6_ok (by decide) (gt_t 161 (by decide +kernel) rfl) (gt_t 162 (by decide +kernel) rfl) (gt_t 7 (by decide +kernel) rfl) hd k
theorem nw_RX11_39 (C : Cx p s m args meth c z cc nL RX11 ret nm) (hd : decode cc pc = .ok (.new 39, 3)) (k : Go p l e R s m args below meth c z nL Q bc bs (pc + 3) lv (.ref (sz S) :: st) (nw S 2 0)) : Go p l e R s m args below meth c z nL Q (bc + 1) (bs + 7) pc lv st S := G_new C 1 7 rfl rfl in_X1 tyX1 tyX1_ok (by decide) (gt_t 181 (by decide +kernel) rfl) (gt_t 182 (by decide +kernel) rfl) (gt_t 8 (by decide +kernel) rfl) hd k
theorem nw_RX11_46 (C : Cx p s m args meth c z cc nL RX11 ret nm) (hd : decode cc pc = .ok (.new 46, 3)) (k : Go p l e R s m args below meth c z nL Q bc bs (pc + 3) lv (.ref (sz S) :: st) (nw S 4 0)) : Go p l e R s m args below meth c z nL Q (bc + 1) (bs + 6) pc lv st S := G_new C 3 6 rfl rfl in_X3 tyX3 tyX3_ok (by decide) (gt_t 210 (by decide +kernel) rfl) (gt_t 211 (by decide +kernel) rfl) (gt_t 9 (by decide +kernel) rfl) hd k
theorem nw_RX11_55 (C : Cx p s m args meth c z cc nL RX11 ret nm) (hd : decode cc pc = .ok (.new 55, 3)) (k : Go p l e R s m args below meth c z nL Q bc bs (pc + 3) lv (.ref (sz S) :: st) (nw S 10 0)) : Go p l e R s m args below meth c z nL Q (bc + 1) (bs + 3) pc lv st S := G_new C 9 3 rfl rfl in_X9 tyX9 tyX9_ok (by decide) (gt_t 306 (by decide +kernel) rfl) (gt_t 307 (by decide +kernel) rfl) (gt_t 12 (by decide +kernel) rfl) hd k
theorem oi_RX11_1 : Cond.methodLink RX11 1 Lib.objectInit ∈ gt := gt_t 26 (by decide +kernel) rfl
theorem pf_RX11_10 (C : Cx p s m args meth c z cc nL RX11 ret nm) {a : Nat} {v : Option Nat} (hfn : nm = "<init>") (hd : decode cc pc = .ok (.putfield 10, 3)) (hk : kd S a = 12) (k : Go p l e R s m args below meth c z nL Q bc bs (pc + 3) lv st (sR S 177 a 0 v)) : Go p l e R s m args below meth c z nL Q bc bs pc lv (va_rf v :: .ref a :: st) S := G_putR C 11 0 7 rfl rfl (by decide) in_X11 tyX11 tyX11_ok nmX11 rfl rfl (gt_t 352 (by decide +kernel) rfl) (Or.inr ⟨rfl, hfn, rfl⟩) (fun _ => rfl) rfl (fun _ => rfl) rfl hd hk k
theorem pf_RX11_21 (C : Cx p s m args meth c z cc nL RX11 ret nm) {a : Nat} {v : Option Nat} (hfn : nm = "<init>") (hd : decode cc pc = .ok (.putfield 21, 3)) (hk : kd S a = 12) (k : Go p l e R s m args below meth c z nL Q bc bs (pc + 3) lv st (sR S 178 a 0 v)) : Go p l e R s m args below meth c z nL Q bc bs pc lv (va_rf v :: .ref a :: st) S := G_putR C 11 1 7 rfl rfl (by decide) in_X11 tyX11 tyX11_ok nmX11 rfl rfl (gt_t 353 (by decide +kernel) rfl) (Or.inr ⟨rfl, hfn, rfl⟩) (fun _ => rfl) rfl (fun _ => rfl) rfl hd hk k
theorem pf_RX11_28 (C : Cx p s m args meth c z cc nL RX11 ret nm) {a : Nat} {v : Option Nat} (hfn : nm = "<init>") (hd : decode cc pc = .ok (.putfield 28, 3)) (hk : kd S a = 12) (k : Go p l e R s m args below meth c z nL Q bc bs (pc + 3) lv st (sR S 179 a 0 v)) : Go p l e R s m args below meth c z nL Q bc bs pc lv (va_rf v :: .ref a :: st) S := G_putR C 11 2 7 rfl rfl (by decide) in_X11 tyX11 tyX11_ok nmX11 rfl rfl (gt_t 354 (by decide +kernel) rfl) (Or.inr ⟨rfl, hfn, rfl⟩) (fun _ => rfl) rfl (fun _ => rfl) rfl hd hk k
theorem pf_RX11_35 (C : Cx p s m args meth c z cc nL RX11 ret nm) {a : Nat} {v : Option Nat} (hfn : nm = "<init>") (hd : decode cc pc = .ok (.putfield 35, 3)) (hk : kd S a = 12) (k : Go p l e R s m args below meth c z nL Q bc bs (pc + 3) lv st (sR S 181 a 0 v)) : Go p l e R s m args below meth c z nL Q bc bs pc lv (va_rf v :: .ref a :: st) S := G_putR C 11 4 7 rfl rfl (by decide) in_X11 tyX11 tyX11_ok nmX11 rfl rfl (gt_t 356 (by decide +kernel) rfl) (Or.inr ⟨rfl, hfn, rfl⟩) (fun _ => rfl) rfl (fun _ => rfl) rfl hd hk k
theorem pf_RX11_42 (C : Cx p s m args meth c z cc nL RX11 ret nm) {a : Nat} {v : Option Nat} (hfn : nm = "<init>") (hd : decode cc pc = .ok (.putfield 42, 3)) (hk : kd S a = 12) (k : Go p l e R s m args below meth c z nL Q bc bs (pc + 3) lv st (sR S 182 a 0 v)) : Go p l e R s m args below meth c z nL Q bc bs pc lv (va_rf v :: .ref a :: st) S := G_putR C 11 5 7 rfl rfl (by decide) in_X11 tyX11 tyX11_ok nmX11 rfl rfl (gt_t 357 (by decide +kernel) rfl) (Or.inr ⟨rfl, hfn, rfl⟩) (fun _ => rfl) rfl (fun _ => rfl) rfl hd hk k
theorem pf_RX11_51 (C : Cx p s m args meth c z cc nL RX11 ret nm) {a : Nat} {v : Option Nat} (hd : decode cc pc = .ok (.putfield 51, 3)) (hk : kd S a = 12) (k : Go p l e R s m args below meth c z nL Q bc bs (pc + 3) lv st (sR S 183 a 0 v)) : Go p l e R s m args below meth c z nL Q bc bs pc lv (va_rf v :: .ref a :: st) S := G_putR C 11 6 7 rfl rfl (by decide) in_X11 tyX11 tyX11_ok nmX11 rfl rfl (gt_t 358 (by decide +kernel) rfl) (Or.inl rfl) (fun _ => rfl) rfl (fun _ => rfl) rfl hd hk k
theorem pf_RX11_60 (C : Cx p s m args meth c z cc nL RX11 ret nm) {a : Nat} {v : Option Nat} (hfn : nm = "<init>") (hd : decode cc pc = .ok (.putfield 60, 3)) (hk : kd S a = 12) (k : Go p l e R s m args below meth c z nL Q bc bs (pc + 3) lv st (sR S 180 a 0 v)) : Go p l e R s m args below meth c z nL Q bc bs pc lv (va_rf v :: .ref a :: st) S := G_putR C 11 3 7 rfl rfl (by decide) in_X11 tyX11 tyX11_ok nmX11 rfl rfl (gt_t 355 (by decide +kernel) rfl) (Or.inr ⟨rfl, hfn, rfl⟩) (fun _ => rfl) rfl (fun _ => rfl) rfl hd hk k
theorem dsc_X10_add : dsc yX10_add 1 := ⟨by decide, by decide, by decide +kernel⟩
theorem cl_RX11_68 (C : Cx p s m args meth c z cc nL RX11 ret nm) {a : Nat} {q0 : Int32} {rest : List Value} {post : Option Value → Hp → Prop} (hm : Ct l z yX10_add cX10_add 2 (some .boolean) 0 0 0 0 [.ref a, .int (q0)] S post) (hR : 0 + 1 ≤ R.frames ∧ 8 + (2 + 11) + 0 ≤ R.locals) (hk : kd S a = 11) (hd : decode cc pc = .ok (.invokevirtual 68, 3)) (hW : (rest.map fun v => v.category).sum ≤ 8) (k : ∀ (v : Option Value) (S' : Hp), post v S' → Go p l e R s m args below meth c z nL Q bc bs (pc + 3) lv (v.toList ++ rest) S') : Go p l e R s m args below meth c z nL Q bc bs pc lv (.int (q0) :: .ref a :: rest) S := G_callV C 10 2 rfl rfl (gt_t 378 (by decide +kernel) rfl) (gt_t 379 (by decide +kernel) rfl) (gt_t 380 (by decide +kernel) rfl) (gt_t 2 (by decide +kernel) rfl) (gt_t 381 (by decide +kernel) rfl) (dsc_X10_add) hm rfl hR hk rfl hW hd k
theorem gf_RX11_72 (C : Cx p s m args meth c z cc nL RX11 ret nm) {a : Nat} (hd : decode cc pc = .ok (.getfield 72, 3)) (hk : kd S a = 11) (k : Go p l e R s m args below meth c z nL Q bc bs (pc + 3) lv (.int (gI S 162 a 0) :: st) S) : Go p l e R s m args below meth c z nL Q bc bs pc lv (.ref a :: st) S := G_getI C 10 1 2 rfl rfl (by decide) in_X10 rfl rfl (gt_t 38 (by decide +kernel) rfl) hd hk k
theorem pf_RX11_72 (C : Cx p s m args meth c z cc nL RX11 ret nm) {a : Nat} {v : Int32} (hd : decode cc pc = .ok (.putfield 72, 3)) (hk : kd S a = 11) (k : Go p l e R s m args below meth c z nL Q bc bs (pc + 3) lv st (sI S 162 a 0 v)) : Go p l e R s m args below meth c z nL Q bc bs pc lv (.int v :: .ref a :: st) S := G_putI C 10 1 2 rfl rfl (by decide) in_X10 tyX10 tyX10_ok nmX10 rfl rfl (gt_t 38 (by decide +kernel) rfl) (Or.inl rfl) rfl rfl hd hk k
theorem dsc_X7_firstFault : dsc yX7_firstFault 1 := ⟨by decide, by decide, by decide +kernel⟩
theorem cl_RX11_79 (C : Cx p s m args meth c z cc nL RX11 ret nm) {a : Nat} {q0 : Int32} {rest : List Value} {post : Option Value → Hp → Prop} (hm : Ct l z yX7_firstFault cX7_firstFault 3 (some .int) 6 130 0 0 [.ref a, .int (q0)] S post) (hR : 6 + 1 ≤ R.frames ∧ 8 + (3 + 11) + 130 ≤ R.locals) (hk : kd S a = 8) (hd : decode cc pc = .ok (.invokevirtual 79, 3)) (hW : (rest.map fun v => v.category).sum ≤ 8) (k : ∀ (v : Option Value) (S' : Hp), post v S' → Go p l e R s m args below meth c z nL Q bc bs (pc + 3) lv (v.toList ++ rest) S') : Go p l e R s m args below meth c z nL Q bc bs pc lv (.int (q0) :: .ref a :: rest) S := G_callV C 7 8 rfl rfl (gt_t 390 (by decide +kernel) rfl) (gt_t 391 (by decide +kernel) rfl) (gt_t 392 (by decide +kernel) rfl) (gt_t 3 (by decide +kernel) rfl) (gt_t 393 (by decide +kernel) rfl) (dsc_X7_firstFault) hm rfl hR hk rfl hW hd k
theorem gf_RX11_21 (C : Cx p s m args meth c z cc nL RX11 ret nm) {a : Nat} (hd : decode cc pc = .ok (.getfield 21, 3)) (hk : kd S a = 12) (k : Go p l e R s m args below meth c z nL Q bc bs (pc + 3) lv (va_rf (gR S 178 a 0) :: st) S) : Go p l e R s m args below meth c z nL Q bc bs pc lv (.ref a :: st) S := G_getR C 11 1 7 rfl rfl (by decide) in_X11 rfl rfl (gt_t 353 (by decide +kernel) rfl) hd hk k
theorem gf_RX11_76 (C : Cx p s m args meth c z cc nL RX11 ret nm) {a : Nat} (hd : decode cc pc = .ok (.getfield 76, 3)) (hk : kd S a = 3) (k : Go p l e R s m args below meth c z nL Q bc bs (pc + 3) lv (.int (gI S 34 a 0) :: st) S) : Go p l e R s m args below meth c z nL Q bc bs pc lv (.ref a :: st) S := G_getI C 2 1 4 rfl rfl (by decide) in_X2 rfl rfl (gt_t 145 (by decide +kernel) rfl) hd hk k
theorem cl_RX11_133 (C : Cx p s m args meth c z cc nL RX11 ret nm) {a : Nat} {q0 : Nat} {q1 : Int32} {q2 : Int32} {rest : List Value} {post : Option Value → Hp → Prop} (hm : Ct l z yX5_init cX5_init 4 none 1 20 0 0 [.ref a, .ref (q0), .int (q1), .int (q2)] S post) (hR : 1 + 1 ≤ R.frames ∧ 8 + (4 + 11) + 20 ≤ R.locals) (hd : decode cc pc = .ok (.invokespecial 133, 3)) (hW : (rest.map fun v => v.category).sum ≤ 8) (k : ∀ (v : Option Value) (S' : Hp), post v S' → Go p l e R s m args below meth c z nL Q bc bs (pc + 3) lv (v.toList ++ rest) S') : Go p l e R s m args below meth c z nL Q bc bs pc lv (.int (q2) :: .int (q1) :: .ref (q0) :: .ref a :: rest) S := G_callI C rfl (gt_t 512 (by decide +kernel) rfl) (gt_t 117 (by decide +kernel) rfl) (gt_t 6 (by decide +kernel) rfl) (gt_t 118 (by decide +kernel) rfl) (dsc_X5_init) hm rfl hR rfl hW hd k
theorem dsc_X10_wordAt : dsc yX10_wordAt 2 := ⟨by decide, by decide, by decide +kernel⟩
theorem cl_RX11_279 (C : Cx p s m args meth c z cc nL RX11 ret nm) {a : Nat} {q0 : Int32} {q1 : Int32} {rest : List Value} {post : Option Value → Hp → Prop} (hm : Ct l z yX10_wordAt cX10_wordAt 5 (some (.array .int)) 1 22 1 12 [.ref a, .int (q0), .int (q1)] S post) (hR : 1 + 1 ≤ R.frames ∧ 8 + (5 + 11) + 22 ≤ R.locals) (hk : kd S a = 11) (hd : decode cc pc = .ok (.invokevirtual 279, 3)) (hW : (rest.map fun v => v.category).sum ≤ 8) (k : ∀ (v : Option Value) (S' : Hp), post v S' → Go p l e R s m args below meth c z nL Q bc bs (pc + 3) lv (v.toList ++ rest) S') : Go p l e R s m args below meth c z nL Q (bc + 1) (bs + 12) pc lv (.int (q1) :: .int (q0) :: .ref a :: rest) S := G_callV C 10 2 rfl rfl (gt_t 505 (by decide +kernel) rfl) (gt_t 506 (by decide +kernel) rfl) (gt_t 507 (by decide +kernel) rfl) (gt_t 2 (by decide +kernel) rfl) (gt_t 508 (by decide +kernel) rfl) (dsc_X10_wordAt) hm rfl hR hk rfl hW hd k
theorem gf_RX11_263 (C : Cx p s m args meth c z cc nL RX11 ret nm) {a : Nat} (hd : decode cc pc = .ok (.getfield 263, 3)) (hk : kd S a = 1) (k : Go p l e R s m args below meth c z nL Q bc bs (pc + 3) lv (.int (gI S 4 a 0) :: st) S) : Go p l e R s m args below meth c z nL Q bc bs pc lv (.ref a :: st) S := G_getI C 0 3 5 rfl rfl (by decide) in_X0 rfl rfl (gt_t 66 (by decide +kernel) rfl) hd hk k
theorem gf_RX11_273 (C : Cx p s m args meth c z cc nL RX11 ret nm) {a : Nat} (hd : decode cc pc = .ok (.getfield 273, 3)) (hk : kd S a = 1) (k : Go p l e R s m args below meth c z nL Q bc bs (pc + 3) lv (.int (gI S 2 a 0) :: st) S) : Go p l e R s m args below meth c z nL Q bc bs pc lv (.ref a :: st) S := G_getI C 0 1 5 rfl rfl (by decide) in_X0 rfl rfl (gt_t 62 (by decide +kernel) rfl) hd hk k
theorem gf_RX11_276 (C : Cx p s m args meth c z cc nL RX11 ret nm) {a : Nat} (hd : decode cc pc = .ok (.getfield 276, 3)) (hk : kd S a = 1) (k : Go p l e R s m args below meth c z nL Q bc bs (pc + 3) lv (.int (gI S 3 a 0) :: st) S) : Go p l e R s m args below meth c z nL Q bc bs pc lv (.ref a :: st) S := G_getI C 0 2 5 rfl rfl (by decide) in_X0 rfl rfl (gt_t 64 (by decide +kernel) rfl) hd hk k
theorem gf_RX11_283 (C : Cx p s m args meth c z cc nL RX11 ret nm) {a : Nat} (hd : decode cc pc = .ok (.getfield 283, 3)) (hk : kd S a = 1) (k : Go p l e R s m args below meth c z nL Q bc bs (pc + 3) lv (.int (gI S 5 a 0) :: st) S) : Go p l e R s m args below meth c z nL Q bc bs pc lv (.ref a :: st) S := G_getI C 0 4 5 rfl rfl (by decide) in_X0 rfl rfl (gt_t 68 (by decide +kernel) rfl) hd hk k
theorem nw_RX11_105 (C : Cx p s m args meth c z cc nL RX11 ret nm) (hd : decode cc pc = .ok (.new 105, 3)) (k : Go p l e R s m args below meth c z nL Q bc bs (pc + 3) lv (.ref (sz S) :: st) (nw S 6 0)) : Go p l e R s m args below meth c z nL Q (bc + 1) (bs + 3) pc lv st S := G_new C 5 3 rfl rfl in_X5 tyX5 tyX5_ok (by decide) (gt_t 511 (by decide +kernel) rfl) (gt_t 115 (by decide +kernel) rfl) (gt_t 6 (by decide +kernel) rfl) hd k
theorem dsc_X2_beginAnew : dsc yX2_beginAnew 0 := ⟨by decide, by decide, by decide +kernel⟩
theorem cl_RX11_260 (C : Cx p s m args meth c z cc nL RX11 ret nm) {a : Nat}  {rest : List Value} {post : Option Value → Hp → Prop} (hm : Ct l z yX2_beginAnew cX2_beginAnew 1 none 0 0 0 0 [.ref a] S post) (hR : 0 + 1 ≤ R.frames ∧ 8 + (1 + 11) + 0 ≤ R.locals) (hk : kd S a = 3) (hd : decode cc pc = .ok (.invokevirtual 260, 3)) (hW : (rest.map fun v => v.category).sum ≤ 8) (k : ∀ (v : Option Value) (S' : Hp), post v S' → Go p l e R s m args below meth c z nL Q bc bs (pc + 3) lv (v.toList ++ rest) S') : Go p l e R s m args below meth c z nL Q bc bs pc lv (.ref a :: rest) S := G_callV C 2 4 rfl rfl (gt_t 497 (by decide +kernel) rfl) (gt_t 498 (by decide +kernel) rfl) (gt_t 499 (by decide +kernel) rfl) (gt_t 5 (by decide +kernel) rfl) (gt_t 500 (by decide +kernel) rfl) (dsc_X2_beginAnew) hm rfl hR hk rfl hW hd k
theorem dsc_X11_partOf : dsc yX11_partOf 1 := ⟨by decide, by decide, by decide +kernel⟩
theorem cl_RX11_265 (C : Cx p s m args meth c z cc nL RX11 ret nm) {a : Nat} {q0 : Nat} {rest : List Value} {post : Option Value → Hp → Prop} (hm : Ct l z yX11_partOf cX11_partOf 3 (some (.object "FirstParts$Part")) 2 46 2 15 [.ref a, .ref (q0)] S post) (hR : 2 + 1 ≤ R.frames ∧ 8 + (3 + 11) + 46 ≤ R.locals) (hk : kd S a = 12) (hd : decode cc pc = .ok (.invokevirtual 265, 3)) (hW : (rest.map fun v => v.category).sum ≤ 8) (k : ∀ (v : Option Value) (S' : Hp), post v S' → Go p l e R s m args below meth c z nL Q bc bs (pc + 3) lv (v.toList ++ rest) S') : Go p l e R s m args below meth c z nL Q (bc + 2) (bs + 15) pc lv (.ref (q0) :: .ref a :: rest) S := G_callV C 11 7 rfl rfl (gt_t 501 (by decide +kernel) rfl) (gt_t 503 (by decide +kernel) rfl) (gt_s 9 (by decide +kernel) rfl) (gt_t 1 (by decide +kernel) rfl) (gt_t 504 (by decide +kernel) rfl) (dsc_X11_partOf) hm rfl hR hk rfl hW hd k
theorem dsc_X2_append : dsc yX2_append 1 := ⟨by decide, by decide, by decide +kernel⟩
theorem cl_RX11_269 (C : Cx p s m args meth c z cc nL RX11 ret nm) {a : Nat} {q0 : Nat} {rest : List Value} {post : Option Value → Hp → Prop} (hm : Ct l z yX2_append cX2_append 2 none 0 0 0 0 [.ref a, .ref (q0)] S post) (hR : 0 + 1 ≤ R.frames ∧ 8 + (2 + 11) + 0 ≤ R.locals) (hk : kd S a = 3) (hd : decode cc pc = .ok (.invokevirtual 269, 3)) (hW : (rest.map fun v => v.category).sum ≤ 8) (k : ∀ (v : Option Value) (S' : Hp), post v S' → Go p l e R s m args below meth c z nL Q bc bs (pc + 3) lv (v.toList ++ rest) S') : Go p l e R s m args below meth c z nL Q bc bs pc lv (.ref (q0) :: .ref a :: rest) S := G_callV C 2 4 rfl rfl (gt_t 513 (by decide +kernel) rfl) (gt_t 514 (by decide +kernel) rfl) (gt_t 515 (by decide +kernel) rfl) (gt_t 5 (by decide +kernel) rfl) (gt_t 516 (by decide +kernel) rfl) (dsc_X2_append) hm rfl hR hk rfl hW hd k
theorem gf_RX11_255 (C : Cx p s m args meth c z cc nL RX11 ret nm) {a : Nat} (hd : decode cc pc = .ok (.getfield 255, 3)) (hk : kd S a = 1) (k : Go p l e R s m args below meth c z nL Q bc bs (pc + 3) lv (.int (gI S 1 a 0) :: st) S) : Go p l e R s m args below meth c z nL Q bc bs pc lv (.ref a :: st) S := G_getI C 0 0 5 rfl rfl (by decide) in_X0 rfl rfl (gt_t 60 (by decide +kernel) rfl) hd hk k
theorem pf_RX11_127 (C : Cx p s m args meth c z cc nL RX11 ret nm) {a : Nat} {v : Int32} (hd : decode cc pc = .ok (.putfield 127, 3)) (hk : kd S a = 3) (k : Go p l e R s m args below meth c z nL Q bc bs (pc + 3) lv st (sI S 35 a 0 v)) : Go p l e R s m args below meth c z nL Q bc bs pc lv (.int v :: .ref a :: st) S := G_putI C 2 2 4 rfl rfl (by decide) in_X2 tyX2 tyX2_ok nmX2 rfl rfl (gt_t 148 (by decide +kernel) rfl) (Or.inl rfl) rfl rfl hd hk k
theorem pf_RX11_130 (C : Cx p s m args meth c z cc nL RX11 ret nm) {a : Nat} {v : Int32} (hd : decode cc pc = .ok (.putfield 130, 3)) (hk : kd S a = 3) (k : Go p l e R s m args below meth c z nL Q bc bs (pc + 3) lv st (sI S 36 a 0 v)) : Go p l e R s m args below meth c z nL Q bc bs pc lv (.int v :: .ref a :: st) S := G_putI C 2 3 4 rfl rfl (by decide) in_X2 tyX2 tyX2_ok nmX2 rfl rfl (gt_t 151 (by decide +kernel) rfl) (Or.inl rfl) rfl rfl hd hk k
theorem dsc_X11_carryOut : dsc yX11_carryOut 1 := ⟨by decide, by decide, by decide +kernel⟩
theorem cl_RX11_90 (C : Cx p s m args meth c z cc nL RX11 ret nm) {a : Nat} {q0 : Nat} {rest : List Value} {post : Option Value → Hp → Prop} (hm : Ct l z yX11_carryOut cX11_carryOut 2 none 3 68 2 15 [.ref a, .ref (q0)] S post) (hR : 3 + 1 ≤ R.frames ∧ 8 + (2 + 11) + 68 ≤ R.locals) (hk : kd S a = 12) (hd : decode cc pc = .ok (.invokevirtual 90, 3)) (hW : (rest.map fun v => v.category).sum ≤ 8) (k : ∀ (v : Option Value) (S' : Hp), post v S' → Go p l e R s m args below meth c z nL Q bc bs (pc + 3) lv (v.toList ++ rest) S') : Go p l e R s m args below meth c z nL Q (bc + 2) (bs + 15) pc lv (.ref (q0) :: .ref a :: rest) S := G_callV C 11 7 rfl rfl (gt_t 493 (by decide +kernel) rfl) (gt_t 495 (by decide +kernel) rfl) (gt_s 8 (by decide +kernel) rfl) (gt_t 1 (by decide +kernel) rfl) (gt_t 496 (by decide +kernel) rfl) (dsc_X11_carryOut) hm rfl hR hk rfl hW hd k
theorem dsc_X9_forget : dsc yX9_forget 0 := ⟨by decide, by decide, by decide +kernel⟩
theorem cl_RX11_94 (C : Cx p s m args meth c z cc nL RX11 ret nm) {a : Nat}  {rest : List Value} {post : Option Value → Hp → Prop} (hm : Ct l z yX9_forget cX9_forget 1 none 0 0 0 0 [.ref a] S post) (hR : 0 + 1 ≤ R.frames ∧ 8 + (1 + 11) + 0 ≤ R.locals) (hk : kd S a = 10) (hd : decode cc pc = .ok (.invokevirtual 94, 3)) (hW : (rest.map fun v => v.category).sum ≤ 8) (k : ∀ (v : Option Value) (S' : Hp), post v S' → Go p l e R s m args below meth c z nL Q bc bs (pc + 3) lv (v.toList ++ rest) S') : Go p l e R s m args below meth c z nL Q bc bs pc lv (.ref a :: rest) S := G_callV C 9 3 rfl rfl (gt_t 517 (by decide +kernel) rfl) (gt_t 518 (by decide +kernel) rfl) (gt_t 519 (by decide +kernel) rfl) (gt_t 12 (by decide +kernel) rfl) (gt_t 520 (by decide +kernel) rfl) (dsc_X9_forget) hm rfl hR hk rfl hW hd k
theorem gf_RX11_60 (C : Cx p s m args meth c z cc nL RX11 ret nm) {a : Nat} (hd : decode cc pc = .ok (.getfield 60, 3)) (hk : kd S a = 12) (k : Go p l e R s m args below meth c z nL Q bc bs (pc + 3) lv (va_rf (gR S 180 a 0) :: st) S) : Go p l e R s m args below meth c z nL Q bc bs pc lv (.ref a :: st) S := G_getR C 11 3 7 rfl rfl (by decide) in_X11 rfl rfl (gt_t 355 (by decide +kernel) rfl) hd hk k
theorem gf_RX11_83 (C : Cx p s m args meth c z cc nL RX11 ret nm) {a : Nat} (hd : decode cc pc = .ok (.getfield 83, 3)) (hk : kd S a = 8) (k : Go p l e R s m args below meth c z nL Q bc bs (pc + 3) lv (.int (gI S 115 a 0) :: st) S) : Go p l e R s m args below meth c z nL Q bc bs pc lv (.ref a :: st) S := G_getI C 7 2 8 rfl rfl (by decide) in_X7 rfl rfl (gt_t 84 (by decide +kernel) rfl) hd hk k
theorem gf_RX11_86 (C : Cx p s m args meth c z cc nL RX11 ret nm) {a : Nat} (hd : decode cc pc = .ok (.getfield 86, 3)) (hk : kd S a = 8) (k : Go p l e R s m args below meth c z nL Q bc bs (pc + 3) lv (va_rf (gR S 114 a 0) :: st) S) : Go p l e R s m args below meth c z nL Q bc bs pc lv (.ref a :: st) S := G_getR C 7 1 8 rfl rfl (by decide) in_X7 rfl rfl (gt_t 82 (by decide +kernel) rfl) hd hk k
theorem dsc_X2_has : dsc yX2_has 1 := ⟨by decide, by decide, by decide +kernel⟩
theorem cl_RX11_97 (C : Cx p s m args meth c z cc nL RX11 ret nm) {a : Nat} {q0 : Int32} {rest : List Value} {post : Option Value → Hp → Prop} (hm : Ct l z yX2_has cX2_has 2 (some .boolean) 1 22 0 0 [.ref a, .int (q0)] S post) (hR : 1 + 1 ≤ R.frames ∧ 8 + (2 + 11) + 22 ≤ R.locals) (hk : kd S a = 3) (hd : decode cc pc = .ok (.invokevirtual 97, 3)) (hW : (rest.map fun v => v.category).sum ≤ 8) (k : ∀ (v : Option Value) (S' : Hp), post v S' → Go p l e R s m args below meth c z nL Q bc bs (pc + 3) lv (v.toList ++ rest) S') : Go p l e R s m args below meth c z nL Q bc bs pc lv (.int (q0) :: .ref a :: rest) S := G_callV C 2 4 rfl rfl (gt_t 525 (by decide +kernel) rfl) (gt_t 526 (by decide +kernel) rfl) (gt_t 527 (by decide +kernel) rfl) (gt_t 5 (by decide +kernel) rfl) (gt_t 528 (by decide +kernel) rfl) (dsc_X2_has) hm rfl hR hk rfl hW hd k
theorem cl_RX11_116 (C : Cx p s m args meth c z cc nL RX11 ret nm) {a : Nat}  {rest : List Value} {post : Option Value → Hp → Prop} (hm : Ct l z yX5_stripes cX5_stripes 1 (some .int) 1 21 0 0 [.ref a] S post) (hR : 1 + 1 ≤ R.frames ∧ 8 + (1 + 11) + 21 ≤ R.locals) (hk : kd S a = 6) (hd : decode cc pc = .ok (.invokevirtual 116, 3)) (hW : (rest.map fun v => v.category).sum ≤ 8) (k : ∀ (v : Option Value) (S' : Hp), post v S' → Go p l e R s m args below meth c z nL Q bc bs (pc + 3) lv (v.toList ++ rest) S') : Go p l e R s m args below meth c z nL Q bc bs pc lv (.ref a :: rest) S := G_callV C 5 3 rfl rfl (gt_t 530 (by decide +kernel) rfl) (gt_t 228 (by decide +kernel) rfl) (gt_t 229 (by decide +kernel) rfl) (gt_t 6 (by decide +kernel) rfl) (gt_t 230 (by decide +kernel) rfl) (dsc_X5_stripes) hm rfl hR hk rfl hW hd k
theorem gf_RX11_100 (C : Cx p s m args meth c z cc nL RX11 ret nm) {a : Nat} (hd : decode cc pc = .ok (.getfield 100, 3)) (hk : kd S a = 3) (k : Go p l e R s m args below meth c z nL Q bc bs (pc + 3) lv (va_rf (gR S 33 a 0) :: st) S) : Go p l e R s m args below meth c z nL Q bc bs pc lv (.ref a :: st) S := G_getR C 2 0 4 rfl rfl (by decide) in_X2 rfl rfl (gt_t 142 (by decide +kernel) rfl) hd hk k
theorem gf_RX11_104 (C : Cx p s m args meth c z cc nL RX11 ret nm) {a : Nat} (hd : decode cc pc = .ok (.getfield 104, 3)) (hk : kd S a = 6) (k : Go p l e R s m args below meth c z nL Q bc bs (pc + 3) lv (va_rf (gR S 81 a 0) :: st) S) : Go p l e R s m args below meth c z nL Q bc bs pc lv (.ref a :: st) S := G_getR C 5 0 3 rfl rfl (by decide) in_X5 rfl rfl (gt_t 123 (by decide +kernel) rfl) hd hk k
theorem gf_RX11_110 (C : Cx p s m args meth c z cc nL RX11 ret nm) {a : Nat} (hd : decode cc pc = .ok (.getfield 110, 3)) (hk : kd S a = 6) (k : Go p l e R s m args below meth c z nL Q bc bs (pc + 3) lv (.int (gI S 82 a 0) :: st) S) : Go p l e R s m args below meth c z nL Q bc bs pc lv (.ref a :: st) S := G_getI C 5 1 3 rfl rfl (by decide) in_X5 rfl rfl (gt_t 126 (by decide +kernel) rfl) hd hk k
theorem gf_RX11_113 (C : Cx p s m args meth c z cc nL RX11 ret nm) {a : Nat} (hd : decode cc pc = .ok (.getfield 113, 3)) (hk : kd S a = 6) (k : Go p l e R s m args below meth c z nL Q bc bs (pc + 3) lv (.int (gI S 83 a 0) :: st) S) : Go p l e R s m args below meth c z nL Q bc bs pc lv (.ref a :: st) S := G_getI C 5 2 3 rfl rfl (by decide) in_X5 rfl rfl (gt_t 130 (by decide +kernel) rfl) hd hk k
theorem dsc_X5_hasLetter : dsc yX5_hasLetter 1 := ⟨by decide, by decide, by decide +kernel⟩
theorem cl_RX11_120 (C : Cx p s m args meth c z cc nL RX11 ret nm) {a : Nat} {q0 : Int32} {rest : List Value} {post : Option Value → Hp → Prop} (hm : Ct l z yX5_hasLetter cX5_hasLetter 2 (some .boolean) 1 22 0 0 [.ref a, .int (q0)] S post) (hR : 1 + 1 ≤ R.frames ∧ 8 + (2 + 11) + 22 ≤ R.locals) (hk : kd S a = 6) (hd : decode cc pc = .ok (.invokevirtual 120, 3)) (hW : (rest.map fun v => v.category).sum ≤ 8) (k : ∀ (v : Option Value) (S' : Hp), post v S' → Go p l e R s m args below meth c z nL Q bc bs (pc + 3) lv (v.toList ++ rest) S') : Go p l e R s m args below meth c z nL Q bc bs pc lv (.int (q0) :: .ref a :: rest) S := G_callV C 5 3 rfl rfl (gt_t 535 (by decide +kernel) rfl) (gt_t 536 (by decide +kernel) rfl) (gt_t 537 (by decide +kernel) rfl) (gt_t 6 (by decide +kernel) rfl) (gt_t 538 (by decide +kernel) rfl) (dsc_X5_hasLetter) hm rfl hR hk rfl hW hd k
theorem dsc_X9_keep : dsc yX9_keep 3 := ⟨by decide, by decide, by decide +kernel⟩
theorem cl_RX11_123 (C : Cx p s m args meth c z cc nL RX11 ret nm) {a : Nat} {q0 : Nat} {q1 : Nat} {q2 : Option Nat} {rest : List Value} {post : Option Value → Hp → Prop} (hm : Ct l z yX9_keep cX9_keep 4 none 2 55 0 0 [.ref a, .ref (q0), .ref (q1), va_rf (q2)] S post) (hR : 2 + 1 ≤ R.frames ∧ 8 + (4 + 11) + 55 ≤ R.locals) (hk : kd S a = 10) (hd : decode cc pc = .ok (.invokevirtual 123, 3)) (hW : (rest.map fun v => v.category).sum ≤ 8) (k : ∀ (v : Option Value) (S' : Hp), post v S' → Go p l e R s m args below meth c z nL Q bc bs (pc + 3) lv (v.toList ++ rest) S') : Go p l e R s m args below meth c z nL Q bc bs pc lv (va_rf (q2) :: .ref (q1) :: .ref (q0) :: .ref a :: rest) S := G_callV C 9 3 rfl rfl (gt_t 544 (by decide +kernel) rfl) (gt_t 545 (by decide +kernel) rfl) (gt_t 546 (by decide +kernel) rfl) (gt_t 12 (by decide +kernel) rfl) (gt_t 547 (by decide +kernel) rfl) (dsc_X9_keep) hm rfl hR hk rfl hW hd k
theorem gf_RX11_127 (C : Cx p s m args meth c z cc nL RX11 ret nm) {a : Nat} (hd : decode cc pc = .ok (.getfield 127, 3)) (hk : kd S a = 3) (k : Go p l e R s m args below meth c z nL Q bc bs (pc + 3) lv (.int (gI S 35 a 0) :: st) S) : Go p l e R s m args below meth c z nL Q bc bs pc lv (.ref a :: st) S := G_getI C 2 2 4 rfl rfl (by decide) in_X2 rfl rfl (gt_t 148 (by decide +kernel) rfl) hd hk k
theorem gf_RX11_130 (C : Cx p s m args meth c z cc nL RX11 ret nm) {a : Nat} (hd : decode cc pc = .ok (.getfield 130, 3)) (hk : kd S a = 3) (k : Go p l e R s m args below meth c z nL Q bc bs (pc + 3) lv (.int (gI S 36 a 0) :: st) S) : Go p l e R s m args below meth c z nL Q bc bs pc lv (.ref a :: st) S := G_getI C 2 3 4 rfl rfl (by decide) in_X2 rfl rfl (gt_t 151 (by decide +kernel) rfl) hd hk k
theorem dsc_X2_takeOut : dsc yX2_takeOut 1 := ⟨by decide, by decide, by decide +kernel⟩
theorem cl_RX11_136 (C : Cx p s m args meth c z cc nL RX11 ret nm) {a : Nat} {q0 : Int32} {rest : List Value} {post : Option Value → Hp → Prop} (hm : Ct l z yX2_takeOut cX2_takeOut 3 none 0 0 0 0 [.ref a, .int (q0)] S post) (hR : 0 + 1 ≤ R.frames ∧ 8 + (3 + 11) + 0 ≤ R.locals) (hk : kd S a = 3) (hd : decode cc pc = .ok (.invokevirtual 136, 3)) (hW : (rest.map fun v => v.category).sum ≤ 8) (k : ∀ (v : Option Value) (S' : Hp), post v S' → Go p l e R s m args below meth c z nL Q bc bs (pc + 3) lv (v.toList ++ rest) S') : Go p l e R s m args below meth c z nL Q bc bs pc lv (.int (q0) :: .ref a :: rest) S := G_callV C 2 4 rfl rfl (gt_t 576 (by decide +kernel) rfl) (gt_t 577 (by decide +kernel) rfl) (gt_t 578 (by decide +kernel) rfl) (gt_t 5 (by decide +kernel) rfl) (gt_t 579 (by decide +kernel) rfl) (dsc_X2_takeOut) hm rfl hR hk rfl hW hd k
theorem dsc_X2_fits : dsc yX2_fits 0 := ⟨by decide, by decide, by decide +kernel⟩
theorem cl_RX11_140 (C : Cx p s m args meth c z cc nL RX11 ret nm) {a : Nat}  {rest : List Value} {post : Option Value → Hp → Prop} (hm : Ct l z yX2_fits cX2_fits 2 (some .boolean) 3 63 0 0 [.ref a] S post) (hR : 3 + 1 ≤ R.frames ∧ 8 + (2 + 11) + 63 ≤ R.locals) (hk : kd S a = 3) (hd : decode cc pc = .ok (.invokevirtual 140, 3)) (hW : (rest.map fun v => v.category).sum ≤ 8) (k : ∀ (v : Option Value) (S' : Hp), post v S' → Go p l e R s m args below meth c z nL Q bc bs (pc + 3) lv (v.toList ++ rest) S') : Go p l e R s m args below meth c z nL Q bc bs pc lv (.ref a :: rest) S := G_callV C 2 4 rfl rfl (gt_t 584 (by decide +kernel) rfl) (gt_t 585 (by decide +kernel) rfl) (gt_t 586 (by decide +kernel) rfl) (gt_t 5 (by decide +kernel) rfl) (gt_t 587 (by decide +kernel) rfl) (dsc_X2_fits) hm rfl hR hk rfl hW hd k
theorem gf_RX11_144 (C : Cx p s m args meth c z cc nL RX11 ret nm) {a : Nat} (hd : decode cc pc = .ok (.getfield 144, 3)) (hk : kd S a = 4) (k : Go p l e R s m args below meth c z nL Q bc bs (pc + 3) lv (.int (gI S 54 a 0) :: st) S) : Go p l e R s m args below meth c z nL Q bc bs pc lv (.ref a :: st) S := G_getI C 3 5 6 rfl rfl (by decide) in_X3 rfl rfl (gt_t 292 (by decide +kernel) rfl) hd hk k
theorem dsc_X3_hasPacket : dsc yX3_hasPacket 1 := ⟨by decide, by decide, by decide +kernel⟩
theorem cl_RX11_145 (C : Cx p s m args meth c z cc nL RX11 ret nm) {a : Nat} {q0 : Int32} {rest : List Value} {post : Option Value → Hp → Prop} (hm : Ct l z yX3_hasPacket cX3_hasPacket 2 (some .boolean) 1 22 0 0 [.ref a, .int (q0)] S post) (hR : 1 + 1 ≤ R.frames ∧ 8 + (2 + 11) + 22 ≤ R.locals) (hk : kd S a = 4) (hd : decode cc pc = .ok (.invokevirtual 145, 3)) (hW : (rest.map fun v => v.category).sum ≤ 8) (k : ∀ (v : Option Value) (S' : Hp), post v S' → Go p l e R s m args below meth c z nL Q bc bs (pc + 3) lv (v.toList ++ rest) S') : Go p l e R s m args below meth c z nL Q bc bs pc lv (.int (q0) :: .ref a :: rest) S := G_callV C 3 6 rfl rfl (gt_t 597 (by decide +kernel) rfl) (gt_t 598 (by decide +kernel) rfl) (gt_t 599 (by decide +kernel) rfl) (gt_t 9 (by decide +kernel) rfl) (gt_t 600 (by decide +kernel) rfl) (dsc_X3_hasPacket) hm rfl hR hk rfl hW hd k
theorem gf_RX11_148 (C : Cx p s m args meth c z cc nL RX11 ret nm) {a : Nat} (hd : decode cc pc = .ok (.getfield 148, 3)) (hk : kd S a = 4) (k : Go p l e R s m args below meth c z nL Q bc bs (pc + 3) lv (va_rf (gR S 52 a 0) :: st) S) : Go p l e R s m args below meth c z nL Q bc bs pc lv (.ref a :: st) S := G_getR C 3 3 6 rfl rfl (by decide) in_X3 rfl rfl (gt_t 288 (by decide +kernel) rfl) hd hk k
theorem gf_RX11_151 (C : Cx p s m args meth c z cc nL RX11 ret nm) {a : Nat} (hd : decode cc pc = .ok (.getfield 151, 3)) (hk : kd S a = 5) (k : Go p l e R s m args below meth c z nL Q bc bs (pc + 3) lv (.int (gI S 68 a 0) :: st) S) : Go p l e R s m args below meth c z nL Q bc bs pc lv (.ref a :: st) S := G_getI C 4 3 4 rfl rfl (by decide) in_X4 rfl rfl (gt_t 252 (by decide +kernel) rfl) hd hk k
theorem gf_RX11_157 (C : Cx p s m args meth c z cc nL RX11 ret nm) {a : Nat} (hd : decode cc pc = .ok (.getfield 157, 3)) (hk : kd S a = 5) (k : Go p l e R s m args below meth c z nL Q bc bs (pc + 3) lv (.int (gI S 67 a 0) :: st) S) : Go p l e R s m args below meth c z nL Q bc bs pc lv (.ref a :: st) S := G_getI C 4 2 4 rfl rfl (by decide) in_X4 rfl rfl (gt_t 249 (by decide +kernel) rfl) hd hk k
theorem pf_RX11_151 (C : Cx p s m args meth c z cc nL RX11 ret nm) {a : Nat} {v : Int32} (hd : decode cc pc = .ok (.putfield 151, 3)) (hk : kd S a = 5) (hb : v = 0 ∨ v = 1) (k : Go p l e R s m args below meth c z nL Q bc bs (pc + 3) lv st (sI S 68 a 0 v)) : Go p l e R s m args below meth c z nL Q bc bs pc lv (.int v :: .ref a :: st) S := G_putI C 4 3 4 rfl rfl (by decide) in_X4 tyX4 tyX4_ok nmX4 rfl rfl (gt_t 252 (by decide +kernel) rfl) (Or.inl rfl) (by rcases hb with rfl | rfl <;> rfl) (by rcases hb with rfl | rfl <;> rfl) hd hk k
theorem pf_RX11_157 (C : Cx p s m args meth c z cc nL RX11 ret nm) {a : Nat} {v : Int32} (hd : decode cc pc = .ok (.putfield 157, 3)) (hk : kd S a = 5) (k : Go p l e R s m args below meth c z nL Q bc bs (pc + 3) lv st (sI S 67 a 0 v)) : Go p l e R s m args below meth c z nL Q bc bs pc lv (.int v :: .ref a :: st) S := G_putI C 4 2 4 rfl rfl (by decide) in_X4 tyX4 tyX4_ok nmX4 rfl rfl (gt_t 249 (by decide +kernel) rfl) (Or.inl rfl) rfl rfl hd hk k
theorem cl_RX11_160 (C : Cx p s m args meth c z cc nL RX11 ret nm) {a : Nat} {q0 : Int32} {rest : List Value} {post : Option Value → Hp → Prop} (hm : Ct l z yX4_holds cX4_holds 2 (some .boolean) 1 22 0 0 [.ref a, .int (q0)] S post) (hR : 1 + 1 ≤ R.frames ∧ 8 + (2 + 11) + 22 ≤ R.locals) (hk : kd S a = 5) (hd : decode cc pc = .ok (.invokevirtual 160, 3)) (hW : (rest.map fun v => v.category).sum ≤ 8) (k : ∀ (v : Option Value) (S' : Hp), post v S' → Go p l e R s m args below meth c z nL Q bc bs (pc + 3) lv (v.toList ++ rest) S') : Go p l e R s m args below meth c z nL Q bc bs pc lv (.int (q0) :: .ref a :: rest) S := G_callV C 4 4 rfl rfl (gt_t 610 (by decide +kernel) rfl) (gt_t 611 (by decide +kernel) rfl) (gt_t 612 (by decide +kernel) rfl) (gt_t 11 (by decide +kernel) rfl) (gt_t 613 (by decide +kernel) rfl) (dsc_X4_holds) hm rfl hR hk rfl hW hd k
theorem gf_RX11_163 (C : Cx p s m args meth c z cc nL RX11 ret nm) {a : Nat} (hd : decode cc pc = .ok (.getfield 163, 3)) (hk : kd S a = 5) (k : Go p l e R s m args below meth c z nL Q bc bs (pc + 3) lv (va_rf (gR S 66 a 0) :: st) S) : Go p l e R s m args below meth c z nL Q bc bs pc lv (.ref a :: st) S := G_getR C 4 1 4 rfl rfl (by decide) in_X4 rfl rfl (gt_t 246 (by decide +kernel) rfl) hd hk k
theorem dsc_X4_sendAgain : dsc yX4_sendAgain 1 := ⟨by decide, by decide, by decide +kernel⟩
theorem cl_RX11_166 (C : Cx p s m args meth c z cc nL RX11 ret nm) {a : Nat} {q0 : Int32} {rest : List Value} {post : Option Value → Hp → Prop} (hm : Ct l z yX4_sendAgain cX4_sendAgain 4 (some .int) 2 43 0 0 [.ref a, .int (q0)] S post) (hR : 2 + 1 ≤ R.frames ∧ 8 + (4 + 11) + 43 ≤ R.locals) (hk : kd S a = 5) (hd : decode cc pc = .ok (.invokevirtual 166, 3)) (hW : (rest.map fun v => v.category).sum ≤ 8) (k : ∀ (v : Option Value) (S' : Hp), post v S' → Go p l e R s m args below meth c z nL Q bc bs (pc + 3) lv (v.toList ++ rest) S') : Go p l e R s m args below meth c z nL Q bc bs pc lv (.int (q0) :: .ref a :: rest) S := G_callV C 4 4 rfl rfl (gt_t 618 (by decide +kernel) rfl) (gt_t 619 (by decide +kernel) rfl) (gt_t 620 (by decide +kernel) rfl) (gt_t 11 (by decide +kernel) rfl) (gt_t 621 (by decide +kernel) rfl) (dsc_X4_sendAgain) hm rfl hR hk rfl hW hd k
theorem dsc_X9_takeBack : dsc yX9_takeBack 0 := ⟨by decide, by decide, by decide +kernel⟩
theorem cl_RX11_172 (C : Cx p s m args meth c z cc nL RX11 ret nm) {a : Nat}  {rest : List Value} {post : Option Value → Hp → Prop} (hm : Ct l z yX9_takeBack cX9_takeBack 1 (some (.object "FirstParts$Step")) 1 21 0 0 [.ref a] S post) (hR : 1 + 1 ≤ R.frames ∧ 8 + (1 + 11) + 21 ≤ R.locals) (hk : kd S a = 10) (hd : decode cc pc = .ok (.invokevirtual 172, 3)) (hW : (rest.map fun v => v.category).sum ≤ 8) (k : ∀ (v : Option Value) (S' : Hp), post v S' → Go p l e R s m args below meth c z nL Q bc bs (pc + 3) lv (v.toList ++ rest) S') : Go p l e R s m args below meth c z nL Q bc bs pc lv (.ref a :: rest) S := G_callV C 9 3 rfl rfl (gt_t 627 (by decide +kernel) rfl) (gt_t 628 (by decide +kernel) rfl) (gt_t 629 (by decide +kernel) rfl) (gt_t 12 (by decide +kernel) rfl) (gt_t 630 (by decide +kernel) rfl) (dsc_X9_takeBack) hm rfl hR hk rfl hW hd k
theorem dsc_X8_giveBack : dsc yX8_giveBack 1 := ⟨by decide, by decide, by decide +kernel⟩
theorem cl_RX11_176 (C : Cx p s m args meth c z cc nL RX11 ret nm) {a : Nat} {q0 : Nat} {rest : List Value} {post : Option Value → Hp → Prop} (hm : Ct l z yX8_giveBack cX8_giveBack 2 none 1 32 0 0 [.ref a, .ref (q0)] S post) (hR : 1 + 1 ≤ R.frames ∧ 8 + (2 + 11) + 32 ≤ R.locals) (hk : kd S a = 9) (hd : decode cc pc = .ok (.invokevirtual 176, 3)) (hW : (rest.map fun v => v.category).sum ≤ 8) (k : ∀ (v : Option Value) (S' : Hp), post v S' → Go p l e R s m args below meth c z nL Q bc bs (pc + 3) lv (v.toList ++ rest) S') : Go p l e R s m args below meth c z nL Q bc bs pc lv (.ref (q0) :: .ref a :: rest) S := G_callV C 8 6 rfl rfl (gt_t 632 (by decide +kernel) rfl) (gt_t 633 (by decide +kernel) rfl) (gt_t 634 (by decide +kernel) rfl) (gt_t 13 (by decide +kernel) rfl) (gt_t 635 (by decide +kernel) rfl) (dsc_X8_giveBack) hm rfl hR hk rfl hW hd k
theorem gf_RX11_169 (C : Cx p s m args meth c z cc nL RX11 ret nm) {a : Nat} (hd : decode cc pc = .ok (.getfield 169, 3)) (hk : kd S a = 10) (k : Go p l e R s m args below meth c z nL Q bc bs (pc + 3) lv (.int (gI S 147 a 0) :: st) S) : Go p l e R s m args below meth c z nL Q bc bs pc lv (.ref a :: st) S := G_getI C 9 2 3 rfl rfl (by decide) in_X9 rfl rfl (gt_t 344 (by decide +kernel) rfl) hd hk k
theorem gf_RX11_182 (C : Cx p s m args meth c z cc nL RX11 ret nm) {a : Nat} (hd : decode cc pc = .ok (.getfield 182, 3)) (hk : kd S a = 9) (k : Go p l e R s m args below meth c z nL Q bc bs (pc + 3) lv (va_rf (gR S 130 a 0) :: st) S) : Go p l e R s m args below meth c z nL Q bc bs pc lv (.ref a :: st) S := G_getR C 8 1 6 rfl rfl (by decide) in_X8 rfl rfl (gt_t 323 (by decide +kernel) rfl) hd hk k
theorem dsc_X3_hasPart : dsc yX3_hasPart 1 := ⟨by decide, by decide, by decide +kernel⟩
theorem cl_RX11_183 (C : Cx p s m args meth c z cc nL RX11 ret nm) {a : Nat} {q0 : Int32} {rest : List Value} {post : Option Value → Hp → Prop} (hm : Ct l z yX3_hasPart cX3_hasPart 2 (some .boolean) 1 22 0 0 [.ref a, .int (q0)] S post) (hR : 1 + 1 ≤ R.frames ∧ 8 + (2 + 11) + 22 ≤ R.locals) (hk : kd S a = 4) (hd : decode cc pc = .ok (.invokevirtual 183, 3)) (hW : (rest.map fun v => v.category).sum ≤ 8) (k : ∀ (v : Option Value) (S' : Hp), post v S' → Go p l e R s m args below meth c z nL Q bc bs (pc + 3) lv (v.toList ++ rest) S') : Go p l e R s m args below meth c z nL Q bc bs pc lv (.int (q0) :: .ref a :: rest) S := G_callV C 3 6 rfl rfl (gt_t 644 (by decide +kernel) rfl) (gt_t 645 (by decide +kernel) rfl) (gt_t 646 (by decide +kernel) rfl) (gt_t 9 (by decide +kernel) rfl) (gt_t 647 (by decide +kernel) rfl) (dsc_X3_hasPart) hm rfl hR hk rfl hW hd k
theorem cl_RX11_186 (C : Cx p s m args meth c z cc nL RX11 ret nm) {a : Nat} {q0 : Int32} {q1 : Nat} {rest : List Value} {post : Option Value → Hp → Prop} (hm : Ct l z yX3_stateOf cX3_stateOf 5 (some .int) 4 88 0 0 [.ref a, .int (q0), .ref (q1)] S post) (hR : 4 + 1 ≤ R.frames ∧ 8 + (5 + 11) + 88 ≤ R.locals) (hk : kd S a = 4) (hd : decode cc pc = .ok (.invokevirtual 186, 3)) (hW : (rest.map fun v => v.category).sum ≤ 8) (k : ∀ (v : Option Value) (S' : Hp), post v S' → Go p l e R s m args below meth c z nL Q bc bs (pc + 3) lv (v.toList ++ rest) S') : Go p l e R s m args below meth c z nL Q bc bs pc lv (.ref (q1) :: .int (q0) :: .ref a :: rest) S := G_callV C 3 6 rfl rfl (gt_t 648 (by decide +kernel) rfl) (gt_t 649 (by decide +kernel) rfl) (gt_t 650 (by decide +kernel) rfl) (gt_t 9 (by decide +kernel) rfl) (gt_t 651 (by decide +kernel) rfl) (dsc_X3_stateOf) hm rfl hR hk rfl hW hd k
theorem dsc_X3_fewestHolders : dsc yX3_fewestHolders 1 := ⟨by decide, by decide, by decide +kernel⟩
theorem cl_RX11_194 (C : Cx p s m args meth c z cc nL RX11 ret nm) {a : Nat} {q0 : Int32} {rest : List Value} {post : Option Value → Hp → Prop} (hm : Ct l z yX3_fewestHolders cX3_fewestHolders 4 (some .int) 3 66 0 0 [.ref a, .int (q0)] S post) (hR : 3 + 1 ≤ R.frames ∧ 8 + (4 + 11) + 66 ≤ R.locals) (hk : kd S a = 4) (hd : decode cc pc = .ok (.invokevirtual 194, 3)) (hW : (rest.map fun v => v.category).sum ≤ 8) (k : ∀ (v : Option Value) (S' : Hp), post v S' → Go p l e R s m args below meth c z nL Q bc bs (pc + 3) lv (v.toList ++ rest) S') : Go p l e R s m args below meth c z nL Q bc bs pc lv (.int (q0) :: .ref a :: rest) S := G_callV C 3 6 rfl rfl (gt_t 695 (by decide +kernel) rfl) (gt_t 696 (by decide +kernel) rfl) (gt_t 697 (by decide +kernel) rfl) (gt_t 9 (by decide +kernel) rfl) (gt_t 698 (by decide +kernel) rfl) (dsc_X3_fewestHolders) hm rfl hR hk rfl hW hd k
theorem dsc_X3_openingSets : dsc yX3_openingSets 1 := ⟨by decide, by decide, by decide +kernel⟩
theorem cl_RX11_197 (C : Cx p s m args meth c z cc nL RX11 ret nm) {a : Nat} {q0 : Int32} {rest : List Value} {post : Option Value → Hp → Prop} (hm : Ct l z yX3_openingSets cX3_openingSets 4 (some .int) 1 20 0 0 [.ref a, .int (q0)] S post) (hR : 1 + 1 ≤ R.frames ∧ 8 + (4 + 11) + 20 ≤ R.locals) (hk : kd S a = 4) (hd : decode cc pc = .ok (.invokevirtual 197, 3)) (hW : (rest.map fun v => v.category).sum ≤ 8) (k : ∀ (v : Option Value) (S' : Hp), post v S' → Go p l e R s m args below meth c z nL Q bc bs (pc + 3) lv (v.toList ++ rest) S') : Go p l e R s m args below meth c z nL Q bc bs pc lv (.int (q0) :: .ref a :: rest) S := G_callV C 3 6 rfl rfl (gt_t 703 (by decide +kernel) rfl) (gt_t 704 (by decide +kernel) rfl) (gt_t 705 (by decide +kernel) rfl) (gt_t 9 (by decide +kernel) rfl) (gt_t 706 (by decide +kernel) rfl) (dsc_X3_openingSets) hm rfl hR hk rfl hW hd k
theorem gf_RX11_42 (C : Cx p s m args meth c z cc nL RX11 ret nm) {a : Nat} (hd : decode cc pc = .ok (.getfield 42, 3)) (hk : kd S a = 12) (k : Go p l e R s m args below meth c z nL Q bc bs (pc + 3) lv (va_rf (gR S 182 a 0) :: st) S) : Go p l e R s m args below meth c z nL Q bc bs pc lv (.ref a :: st) S := G_getR C 11 5 7 rfl rfl (by decide) in_X11 rfl rfl (gt_t 357 (by decide +kernel) rfl) hd hk k
theorem gf_RX11_190 (C : Cx p s m args meth c z cc nL RX11 ret nm) {a : Nat} (hd : decode cc pc = .ok (.getfield 190, 3)) (hk : kd S a = 4) (k : Go p l e R s m args below meth c z nL Q bc bs (pc + 3) lv (va_rf (gR S 49 a 0) :: st) S) : Go p l e R s m args below meth c z nL Q bc bs pc lv (.ref a :: st) S := G_getR C 3 0 6 rfl rfl (by decide) in_X3 rfl rfl (gt_t 282 (by decide +kernel) rfl) hd hk k
theorem gf_RX11_191 (C : Cx p s m args meth c z cc nL RX11 ret nm) {a : Nat} (hd : decode cc pc = .ok (.getfield 191, 3)) (hk : kd S a = 4) (k : Go p l e R s m args below meth c z nL Q bc bs (pc + 3) lv (va_rf (gR S 51 a 0) :: st) S) : Go p l e R s m args below meth c z nL Q bc bs pc lv (.ref a :: st) S := G_getR C 3 2 6 rfl rfl (by decide) in_X3 rfl rfl (gt_t 286 (by decide +kernel) rfl) hd hk k
theorem dsc_X5_stripeOf : dsc yX5_stripeOf 1 := ⟨by decide, by decide, by decide +kernel⟩
theorem cl_RX11_200 (C : Cx p s m args meth c z cc nL RX11 ret nm) {a : Nat} {q0 : Int32} {rest : List Value} {post : Option Value → Hp → Prop} (hm : Ct l z yX5_stripeOf cX5_stripeOf 2 (some .int) 0 0 0 0 [.ref a, .int (q0)] S post) (hR : 0 + 1 ≤ R.frames ∧ 8 + (2 + 11) + 0 ≤ R.locals) (hk : kd S a = 6) (hd : decode cc pc = .ok (.invokevirtual 200, 3)) (hW : (rest.map fun v => v.category).sum ≤ 8) (k : ∀ (v : Option Value) (S' : Hp), post v S' → Go p l e R s m args below meth c z nL Q bc bs (pc + 3) lv (v.toList ++ rest) S') : Go p l e R s m args below meth c z nL Q bc bs pc lv (.int (q0) :: .ref a :: rest) S := G_callV C 5 3 rfl rfl (gt_t 717 (by decide +kernel) rfl) (gt_t 718 (by decide +kernel) rfl) (gt_t 719 (by decide +kernel) rfl) (gt_t 6 (by decide +kernel) rfl) (gt_t 720 (by decide +kernel) rfl) (dsc_X5_stripeOf) hm rfl hR hk rfl hW hd k
theorem cl_RX11_203 (C : Cx p s m args meth c z cc nL RX11 ret nm) {a : Nat} {q0 : Int32} {q1 : Int32} {q2 : Nat} {rest : List Value} {post : Option Value → Hp → Prop} (hm : Ct l z yX3_gather cX3_gather 6 none 2 43 0 0 [.ref a, .int (q0), .int (q1), .ref (q2)] S post) (hR : 2 + 1 ≤ R.frames ∧ 8 + (6 + 11) + 43 ≤ R.locals) (hk : kd S a = 4) (hd : decode cc pc = .ok (.invokevirtual 203, 3)) (hW : (rest.map fun v => v.category).sum ≤ 8) (k : ∀ (v : Option Value) (S' : Hp), post v S' → Go p l e R s m args below meth c z nL Q bc bs (pc + 3) lv (v.toList ++ rest) S') : Go p l e R s m args below meth c z nL Q bc bs pc lv (.ref (q2) :: .int (q1) :: .int (q0) :: .ref a :: rest) S := G_callV C 3 6 rfl rfl (gt_t 721 (by decide +kernel) rfl) (gt_t 653 (by decide +kernel) rfl) (gt_t 654 (by decide +kernel) rfl) (gt_t 9 (by decide +kernel) rfl) (gt_t 655 (by decide +kernel) rfl) (dsc_X3_gather) hm rfl hR hk rfl hW hd k
theorem cl_RX11_207 (C : Cx p s m args meth c z cc nL RX11 ret nm) {a : Nat}  {rest : List Value} {post : Option Value → Hp → Prop} (hm : Ct l z yX1_hasEnough cX1_hasEnough 1 (some .boolean) 0 0 0 0 [.ref a] S post) (hR : 0 + 1 ≤ R.frames ∧ 8 + (1 + 11) + 0 ≤ R.locals) (hk : kd S a = 2) (hd : decode cc pc = .ok (.invokevirtual 207, 3)) (hW : (rest.map fun v => v.category).sum ≤ 8) (k : ∀ (v : Option Value) (S' : Hp), post v S' → Go p l e R s m args below meth c z nL Q bc bs (pc + 3) lv (v.toList ++ rest) S') : Go p l e R s m args below meth c z nL Q bc bs pc lv (.ref a :: rest) S := G_callV C 1 7 rfl rfl (gt_t 722 (by decide +kernel) rfl) (gt_t 668 (by decide +kernel) rfl) (gt_t 669 (by decide +kernel) rfl) (gt_t 8 (by decide +kernel) rfl) (gt_t 670 (by decide +kernel) rfl) (dsc_X1_hasEnough) hm rfl hR hk rfl hW hd k
theorem cl_RX11_210 (C : Cx p s m args meth c z cc nL RX11 ret nm) {a : Nat}  {rest : List Value} {post : Option Value → Hp → Prop} (hm : Ct l z yX1_goThroughFirst cX1_goThroughFirst 1 none 3 68 0 0 [.ref a] S post) (hR : 3 + 1 ≤ R.frames ∧ 8 + (1 + 11) + 68 ≤ R.locals) (hk : kd S a = 2) (hd : decode cc pc = .ok (.invokevirtual 210, 3)) (hW : (rest.map fun v => v.category).sum ≤ 8) (k : ∀ (v : Option Value) (S' : Hp), post v S' → Go p l e R s m args below meth c z nL Q bc bs (pc + 3) lv (v.toList ++ rest) S') : Go p l e R s m args below meth c z nL Q bc bs pc lv (.ref a :: rest) S := G_callV C 1 7 rfl rfl (gt_t 723 (by decide +kernel) rfl) (gt_t 672 (by decide +kernel) rfl) (gt_t 673 (by decide +kernel) rfl) (gt_t 8 (by decide +kernel) rfl) (gt_t 674 (by decide +kernel) rfl) (dsc_X1_goThroughFirst) hm rfl hR hk rfl hW hd k
theorem dsc_X5_placeInStripe : dsc yX5_placeInStripe 1 := ⟨by decide, by decide, by decide +kernel⟩
theorem cl_RX11_213 (C : Cx p s m args meth c z cc nL RX11 ret nm) {a : Nat} {q0 : Int32} {rest : List Value} {post : Option Value → Hp → Prop} (hm : Ct l z yX5_placeInStripe cX5_placeInStripe 2 (some .int) 0 0 0 0 [.ref a, .int (q0)] S post) (hR : 0 + 1 ≤ R.frames ∧ 8 + (2 + 11) + 0 ≤ R.locals) (hk : kd S a = 6) (hd : decode cc pc = .ok (.invokevirtual 213, 3)) (hW : (rest.map fun v => v.category).sum ≤ 8) (k : ∀ (v : Option Value) (S' : Hp), post v S' → Go p l e R s m args below meth c z nL Q bc bs (pc + 3) lv (v.toList ++ rest) S') : Go p l e R s m args below meth c z nL Q bc bs pc lv (.int (q0) :: .ref a :: rest) S := G_callV C 5 3 rfl rfl (gt_t 724 (by decide +kernel) rfl) (gt_t 725 (by decide +kernel) rfl) (gt_t 726 (by decide +kernel) rfl) (gt_t 6 (by decide +kernel) rfl) (gt_t 727 (by decide +kernel) rfl) (dsc_X5_placeInStripe) hm rfl hR hk rfl hW hd k
theorem dsc_X1_coefficient : dsc yX1_coefficient 1 := ⟨by decide, by decide, by decide +kernel⟩
theorem cl_RX11_216 (C : Cx p s m args meth c z cc nL RX11 ret nm) {a : Nat} {q0 : Int32} {rest : List Value} {post : Option Value → Hp → Prop} (hm : Ct l z yX1_coefficient cX1_coefficient 2 (some .int) 1 22 0 0 [.ref a, .int (q0)] S post) (hR : 1 + 1 ≤ R.frames ∧ 8 + (2 + 11) + 22 ≤ R.locals) (hk : kd S a = 2) (hd : decode cc pc = .ok (.invokevirtual 216, 3)) (hW : (rest.map fun v => v.category).sum ≤ 8) (k : ∀ (v : Option Value) (S' : Hp), post v S' → Go p l e R s m args below meth c z nL Q bc bs (pc + 3) lv (v.toList ++ rest) S') : Go p l e R s m args below meth c z nL Q bc bs pc lv (.int (q0) :: .ref a :: rest) S := G_callV C 1 7 rfl rfl (gt_t 728 (by decide +kernel) rfl) (gt_t 729 (by decide +kernel) rfl) (gt_t 730 (by decide +kernel) rfl) (gt_t 8 (by decide +kernel) rfl) (gt_t 731 (by decide +kernel) rfl) (dsc_X1_coefficient) hm rfl hR hk rfl hW hd k
theorem cl_RX11_219 (C : Cx p s m args meth c z cc nL RX11 ret nm) {a : Nat}  {rest : List Value} {post : Option Value → Hp → Prop} (hm : Ct l z yX1_mend cX1_mend 3 (some .boolean) 3 70 0 0 [.ref a] S post) (hR : 3 + 1 ≤ R.frames ∧ 8 + (3 + 11) + 70 ≤ R.locals) (hk : kd S a = 2) (hd : decode cc pc = .ok (.invokevirtual 219, 3)) (hW : (rest.map fun v => v.category).sum ≤ 8) (k : ∀ (v : Option Value) (S' : Hp), post v S' → Go p l e R s m args below meth c z nL Q bc bs (pc + 3) lv (v.toList ++ rest) S') : Go p l e R s m args below meth c z nL Q bc bs pc lv (.ref a :: rest) S := G_callV C 1 7 rfl rfl (gt_t 737 (by decide +kernel) rfl) (gt_t 738 (by decide +kernel) rfl) (gt_t 739 (by decide +kernel) rfl) (gt_t 8 (by decide +kernel) rfl) (gt_t 740 (by decide +kernel) rfl) (dsc_X1_mend) hm rfl hR hk rfl hW hd k
theorem dsc_X3_timesBlamed : dsc yX3_timesBlamed 2 := ⟨by decide, by decide, by decide +kernel⟩
theorem cl_RX11_222 (C : Cx p s m args meth c z cc nL RX11 ret nm) {a : Nat} {q0 : Int32} {q1 : Nat} {rest : List Value} {post : Option Value → Hp → Prop} (hm : Ct l z yX3_timesBlamed cX3_timesBlamed 6 (some .int) 5 117 0 0 [.ref a, .int (q0), .ref (q1)] S post) (hR : 5 + 1 ≤ R.frames ∧ 8 + (6 + 11) + 117 ≤ R.locals) (hk : kd S a = 4) (hd : decode cc pc = .ok (.invokevirtual 222, 3)) (hW : (rest.map fun v => v.category).sum ≤ 8) (k : ∀ (v : Option Value) (S' : Hp), post v S' → Go p l e R s m args below meth c z nL Q bc bs (pc + 3) lv (v.toList ++ rest) S') : Go p l e R s m args below meth c z nL Q bc bs pc lv (.ref (q1) :: .int (q0) :: .ref a :: rest) S := G_callV C 3 6 rfl rfl (gt_t 747 (by decide +kernel) rfl) (gt_t 748 (by decide +kernel) rfl) (gt_t 749 (by decide +kernel) rfl) (gt_t 9 (by decide +kernel) rfl) (gt_t 750 (by decide +kernel) rfl) (dsc_X3_timesBlamed) hm rfl hR hk rfl hW hd k
theorem dsc_X3_openedBy : dsc yX3_openedBy 1 := ⟨by decide, by decide, by decide +kernel⟩
theorem cl_RX11_225 (C : Cx p s m args meth c z cc nL RX11 ret nm) {a : Nat} {q0 : Int32} {rest : List Value} {post : Option Value → Hp → Prop} (hm : Ct l z yX3_openedBy cX3_openedBy 4 (some .int) 0 0 0 0 [.ref a, .int (q0)] S post) (hR : 0 + 1 ≤ R.frames ∧ 8 + (4 + 11) + 0 ≤ R.locals) (hk : kd S a = 4) (hd : decode cc pc = .ok (.invokevirtual 225, 3)) (hW : (rest.map fun v => v.category).sum ≤ 8) (k : ∀ (v : Option Value) (S' : Hp), post v S' → Go p l e R s m args below meth c z nL Q bc bs (pc + 3) lv (v.toList ++ rest) S') : Go p l e R s m args below meth c z nL Q bc bs pc lv (.int (q0) :: .ref a :: rest) S := G_callV C 3 6 rfl rfl (gt_t 764 (by decide +kernel) rfl) (gt_t 765 (by decide +kernel) rfl) (gt_t 766 (by decide +kernel) rfl) (gt_t 9 (by decide +kernel) rfl) (gt_t 767 (by decide +kernel) rfl) (dsc_X3_openedBy) hm rfl hR hk rfl hW hd k
theorem dsc_X6_makePlan : dsc yX6_makePlan 1 := ⟨by decide, by decide, by decide +kernel⟩
theorem cl_RX11_228 (C : Cx p s m args meth c z cc nL RX11 ret nm) {a : Nat} {q0 : Nat} {rest : List Value} {post : Option Value → Hp → Prop} (hm : Ct l z yX6_makePlan cX6_makePlan 5 (some .boolean) 3 71 0 0 [.ref a, .ref (q0)] S post) (hR : 3 + 1 ≤ R.frames ∧ 8 + (5 + 11) + 71 ≤ R.locals) (hk : kd S a = 7) (hd : decode cc pc = .ok (.invokevirtual 228, 3)) (hW : (rest.map fun v => v.category).sum ≤ 8) (k : ∀ (v : Option Value) (S' : Hp), post v S' → Go p l e R s m args below meth c z nL Q bc bs (pc + 3) lv (v.toList ++ rest) S') : Go p l e R s m args below meth c z nL Q bc bs pc lv (.ref (q0) :: .ref a :: rest) S := G_callV C 6 3 rfl rfl (gt_t 772 (by decide +kernel) rfl) (gt_t 773 (by decide +kernel) rfl) (gt_t 774 (by decide +kernel) rfl) (gt_t 7 (by decide +kernel) rfl) (gt_t 775 (by decide +kernel) rfl) (dsc_X6_makePlan) hm rfl hR hk rfl hW hd k
theorem gf_RX11_35 (C : Cx p s m args meth c z cc nL RX11 ret nm) {a : Nat} (hd : decode cc pc = .ok (.getfield 35, 3)) (hk : kd S a = 12) (k : Go p l e R s m args below meth c z nL Q bc bs (pc + 3) lv (va_rf (gR S 181 a 0) :: st) S) : Go p l e R s m args below meth c z nL Q bc bs pc lv (.ref a :: st) S := G_getR C 11 4 7 rfl rfl (by decide) in_X11 rfl rfl (gt_t 356 (by decide +kernel) rfl) hd hk k
theorem gf_RX11_232 (C : Cx p s m args meth c z cc nL RX11 ret nm) {a : Nat} (hd : decode cc pc = .ok (.getfield 232, 3)) (hk : kd S a = 7) (k : Go p l e R s m args below meth c z nL Q bc bs (pc + 3) lv (va_rf (gR S 98 a 0) :: st) S) : Go p l e R s m args below meth c z nL Q bc bs pc lv (.ref a :: st) S := G_getR C 6 1 3 rfl rfl (by decide) in_X6 rfl rfl (gt_t 171 (by decide +kernel) rfl) hd hk k
theorem dsc_X2_heaviestWithin : dsc yX2_heaviestWithin 1 := ⟨by decide, by decide, by decide +kernel⟩
theorem cl_RX11_235 (C : Cx p s m args meth c z cc nL RX11 ret nm) {a : Nat} {q0 : Int32} {rest : List Value} {post : Option Value → Hp → Prop} (hm : Ct l z yX2_heaviestWithin cX2_heaviestWithin 6 (some .int) 3 66 0 0 [.ref a, .int (q0)] S post) (hR : 3 + 1 ≤ R.frames ∧ 8 + (6 + 11) + 66 ≤ R.locals) (hk : kd S a = 3) (hd : decode cc pc = .ok (.invokevirtual 235, 3)) (hW : (rest.map fun v => v.category).sum ≤ 8) (k : ∀ (v : Option Value) (S' : Hp), post v S' → Go p l e R s m args below meth c z nL Q bc bs (pc + 3) lv (v.toList ++ rest) S') : Go p l e R s m args below meth c z nL Q bc bs pc lv (.int (q0) :: .ref a :: rest) S := G_callV C 2 4 rfl rfl (gt_t 796 (by decide +kernel) rfl) (gt_t 797 (by decide +kernel) rfl) (gt_t 798 (by decide +kernel) rfl) (gt_t 5 (by decide +kernel) rfl) (gt_t 799 (by decide +kernel) rfl) (dsc_X2_heaviestWithin) hm rfl hR hk rfl hW hd k
theorem cl_RX11_238 (C : Cx p s m args meth c z cc nL RX11 ret nm) {a : Nat}  {rest : List Value} {post : Option Value → Hp → Prop} (hm : Ct l z yX2_length cX2_length 3 (some .int) 2 41 0 0 [.ref a] S post) (hR : 2 + 1 ≤ R.frames ∧ 8 + (3 + 11) + 41 ≤ R.locals) (hk : kd S a = 3) (hd : decode cc pc = .ok (.invokevirtual 238, 3)) (hW : (rest.map fun v => v.category).sum ≤ 8) (k : ∀ (v : Option Value) (S' : Hp), post v S' → Go p l e R s m args below meth c z nL Q bc bs (pc + 3) lv (v.toList ++ rest) S') : Go p l e R s m args below meth c z nL Q bc bs pc lv (.ref a :: rest) S := G_callV C 2 4 rfl rfl (gt_t 808 (by decide +kernel) rfl) (gt_t 589 (by decide +kernel) rfl) (gt_t 590 (by decide +kernel) rfl) (gt_t 5 (by decide +kernel) rfl) (gt_t 591 (by decide +kernel) rfl) (dsc_X2_length) hm rfl hR hk rfl hW hd k
theorem dsc_X2_cost : dsc yX2_cost 0 := ⟨by decide, by decide, by decide +kernel⟩
theorem cl_RX11_240 (C : Cx p s m args meth c z cc nL RX11 ret nm) {a : Nat}  {rest : List Value} {post : Option Value → Hp → Prop} (hm : Ct l z yX2_cost cX2_cost 3 (some .int) 0 0 0 0 [.ref a] S post) (hR : 0 + 1 ≤ R.frames ∧ 8 + (3 + 11) + 0 ≤ R.locals) (hk : kd S a = 3) (hd : decode cc pc = .ok (.invokevirtual 240, 3)) (hW : (rest.map fun v => v.category).sum ≤ 8) (k : ∀ (v : Option Value) (S' : Hp), post v S' → Go p l e R s m args below meth c z nL Q bc bs (pc + 3) lv (v.toList ++ rest) S') : Go p l e R s m args below meth c z nL Q bc bs pc lv (.ref a :: rest) S := G_callV C 2 4 rfl rfl (gt_t 809 (by decide +kernel) rfl) (gt_t 810 (by decide +kernel) rfl) (gt_t 811 (by decide +kernel) rfl) (gt_t 5 (by decide +kernel) rfl) (gt_t 812 (by decide +kernel) rfl) (dsc_X2_cost) hm rfl hR hk rfl hW hd k
theorem dsc_X3_lostPackets : dsc yX3_lostPackets 0 := ⟨by decide, by decide, by decide +kernel⟩
theorem cl_RX11_249 (C : Cx p s m args meth c z cc nL RX11 ret nm) {a : Nat}  {rest : List Value} {post : Option Value → Hp → Prop} (hm : Ct l z yX3_lostPackets cX3_lostPackets 3 (some .int) 0 0 0 0 [.ref a] S post) (hR : 0 + 1 ≤ R.frames ∧ 8 + (3 + 11) + 0 ≤ R.locals) (hk : kd S a = 4) (hd : decode cc pc = .ok (.invokevirtual 249, 3)) (hW : (rest.map fun v => v.category).sum ≤ 8) (k : ∀ (v : Option Value) (S' : Hp), post v S' → Go p l e R s m args below meth c z nL Q bc bs (pc + 3) lv (v.toList ++ rest) S') : Go p l e R s m args below meth c z nL Q bc bs pc lv (.ref a :: rest) S := G_callV C 3 6 rfl rfl (gt_t 813 (by decide +kernel) rfl) (gt_t 814 (by decide +kernel) rfl) (gt_t 815 (by decide +kernel) rfl) (gt_t 9 (by decide +kernel) rfl) (gt_t 816 (by decide +kernel) rfl) (dsc_X3_lostPackets) hm rfl hR hk rfl hW hd k
theorem dsc_X3_partsInState : dsc yX3_partsInState 2 := ⟨by decide, by decide, by decide +kernel⟩
theorem cl_RX11_252 (C : Cx p s m args meth c z cc nL RX11 ret nm) {a : Nat} {q0 : Int32} {q1 : Nat} {rest : List Value} {post : Option Value → Hp → Prop} (hm : Ct l z yX3_partsInState cX3_partsInState 5 (some .int) 5 112 0 0 [.ref a, .int (q0), .ref (q1)] S post) (hR : 5 + 1 ≤ R.frames ∧ 8 + (5 + 11) + 112 ≤ R.locals) (hk : kd S a = 4) (hd : decode cc pc = .ok (.invokevirtual 252, 3)) (hW : (rest.map fun v => v.category).sum ≤ 8) (k : ∀ (v : Option Value) (S' : Hp), post v S' → Go p l e R s m args below meth c z nL Q bc bs (pc + 3) lv (v.toList ++ rest) S') : Go p l e R s m args below meth c z nL Q bc bs pc lv (.ref (q1) :: .int (q0) :: .ref a :: rest) S := G_callV C 3 6 rfl rfl (gt_t 817 (by decide +kernel) rfl) (gt_t 818 (by decide +kernel) rfl) (gt_t 819 (by decide +kernel) rfl) (gt_t 9 (by decide +kernel) rfl) (gt_t 820 (by decide +kernel) rfl) (dsc_X3_partsInState) hm rfl hR hk rfl hW hd k
theorem gf_RX11_243 (C : Cx p s m args meth c z cc nL RX11 ret nm) {a : Nat} (hd : decode cc pc = .ok (.getfield 243, 3)) (hk : kd S a = 7) (k : Go p l e R s m args below meth c z nL Q bc bs (pc + 3) lv (.int (gI S 99 a 0) :: st) S) : Go p l e R s m args below meth c z nL Q bc bs pc lv (.ref a :: st) S := G_getI C 6 2 3 rfl rfl (by decide) in_X6 rfl rfl (gt_t 173 (by decide +kernel) rfl) hd hk k
theorem gf_RX11_245 (C : Cx p s m args meth c z cc nL RX11 ret nm) {a : Nat} (hd : decode cc pc = .ok (.getfield 245, 3)) (hk : kd S a = 4) (k : Go p l e R s m args below meth c z nL Q bc bs (pc + 3) lv (.int (gI S 50 a 0) :: st) S) : Go p l e R s m args below meth c z nL Q bc bs pc lv (.ref a :: st) S := G_getI C 3 1 6 rfl rfl (by decide) in_X3 rfl rfl (gt_t 284 (by decide +kernel) rfl) hd hk k
theorem gf_RX11_246 (C : Cx p s m args meth c z cc nL RX11 ret nm) {a : Nat} (hd : decode cc pc = .ok (.getfield 246, 3)) (hk : kd S a = 4) (k : Go p l e R s m args below meth c z nL Q bc bs (pc + 3) lv (.int (gI S 53 a 0) :: st) S) : Go p l e R s m args below meth c z nL Q bc bs pc lv (.ref a :: st) S := G_getI C 3 4 6 rfl rfl (by decide) in_X3 rfl rfl (gt_t 290 (by decide +kernel) rfl) hd hk k
/-! FirstParts.<init>()V -/
abbrev wp_X11_init (a0 : Nat) (S : Hp) (Q : Hp → Prop) : Prop :=
  1 ≤ 126 ∧ 2 ≤ 1898 ∧ ∀ n1 : Nat, n1 = sz S → ∀ S2 : Hp, S2 = nw S 11 (0) → 1 ≤ (126 - 1) ∧ 200 ≤ (1898 - 2) ∧ wp_X10_init (n1) S2 (fun S4 => kd S4 a0 = 12 ∧ ∀ S5 : Hp, S5 = sR S4 177 a0 0 (some n1) → 1 ≤ ((126 - 1) - 1) ∧ 8 ≤ ((1898 - 2) - 200) ∧ ∀ n6 : Nat, n6 = sz S5 → ∀ S7 : Hp, S7 = nw S5 8 (0) → kd S7 a0 = 12 ∧ ∃ b8, (gR S7 177 a0 0) = some b8 ∧ 25 ≤ (((126 - 1) - 1) - 1) ∧ 144 ≤ (((1898 - 2) - 200) - 8) ∧ wp_X7_init (n6) (b8) S7 (fun S10 => kd S10 a0 = 12 ∧ ∀ S11 : Hp, S11 = sR S10 178 a0 0 (some n6) → 1 ≤ ((((126 - 1) - 1) - 1) - 25) ∧ 4 ≤ ((((1898 - 2) - 200) - 8) - 144) ∧ ∀ n12 : Nat, n12 = sz S11 → ∀ S13 : Hp, S13 = nw S11 3 (0) → 3 ≤ (((((126 - 1) - 1) - 1) - 25) - 1) ∧ 9 ≤ (((((1898 - 2) - 200) - 8) - 144) - 4) ∧ wp_X2_init (n12) S13 (fun S15 => kd S15 a0 = 12 ∧ ∀ S16 : Hp, S16 = sR S15 179 a0 0 (some n12) → 1 ≤ ((((((126 - 1) - 1) - 1) - 25) - 1) - 3) ∧ 3 ≤ ((((((1898 - 2) - 200) - 8) - 144) - 4) - 9) ∧ ∀ n17 : Nat, n17 = sz S16 → ∀ S18 : Hp, S18 = nw S16 7 (0) → 9 ≤ (((((((126 - 1) - 1) - 1) - 25) - 1) - 3) - 1) ∧ 300 ≤ (((((((1898 - 2) - 200) - 8) - 144) - 4) - 9) - 3) ∧ wp_X6_init (n17) S18 (fun S20 => kd S20 a0 = 12 ∧ ∀ S21 : Hp, S21 = sR S20 181 a0 0 (some n17) → 1 ≤ ((((((((126 - 1) - 1) - 1) - 25) - 1) - 3) - 1) - 9) ∧ 7 ≤ ((((((((1898 - 2) - 200) - 8) - 144) - 4) - 9) - 3) - 300) ∧ ∀ n22 : Nat, n22 = sz S21 → ∀ S23 : Hp, S23 = nw S21 2 (0) → 5 ≤ (((((((((126 - 1) - 1) - 1) - 25) - 1) - 3) - 1) - 9) - 1) ∧ 40 ≤ (((((((((1898 - 2) - 200) - 8) - 144) - 4) - 9) - 3) - 300) - 7) ∧ wp_X1_init (n22) S23 (fun S25 => kd S25 a0 = 12 ∧ ∀ S26 : Hp, S26 = sR S25 182 a0 0 (some n22) → 1 ≤ ((((((((((126 - 1) - 1) - 1) - 25) - 1) - 3) - 1) - 9) - 1) - 5) ∧ 6 ≤ ((((((((((1898 - 2) - 200) - 8) - 144) - 4) - 9) - 3) - 300) - 7) - 40) ∧ ∀ n27 : Nat, n27 = sz S26 → ∀ S28 : Hp, S28 = nw S26 4 (0) → kd S28 a0 = 12 ∧ ∃ b29, (gR S28 179 a0 0) = some b29 ∧ 27 ≤ (((((((((((126 - 1) - 1) - 1) - 25) - 1) - 3) - 1) - 9) - 1) - 5) - 1) ∧ 692 ≤ (((((((((((1898 - 2) - 200) - 8) - 144) - 4) - 9) - 3) - 300) - 7) - 40) - 6) ∧ wp_X3_init (n27) (b29) ((0 : Int32)) ((0 : Int32)) S28 (fun S31 => kd S31 a0 = 12 ∧ ∀ S32 : Hp, S32 = sR S31 183 a0 0 (some n27) → 1 ≤ ((((((((((((126 - 1) - 1) - 1) - 25) - 1) - 3) - 1) - 9) - 1) - 5) - 1) - 27) ∧ 3 ≤ ((((((((((((1898 - 2) - 200) - 8) - 144) - 4) - 9) - 3) - 300) - 7) - 40) - 6) - 692) ∧ ∀ n33 : Nat, n33 = sz S32 → ∀ S34 : Hp, S34 = nw S32 10 (0) → kd S34 a0 = 12 ∧ ∃ b35, (gR S34 183 a0 0) = some b35 ∧ 49 ≤ (((((((((((((126 - 1) - 1) - 1) - 25) - 1) - 3) - 1) - 9) - 1) - 5) - 1) - 27) - 1) ∧ 480 ≤ (((((((((((((1898 - 2) - 200) - 8) - 144) - 4) - 9) - 3) - 300) - 7) - 40) - 6) - 692) - 3) ∧ wp_X9_init (n33) (b35) S34 (fun S37 => kd S37 a0 = 12 ∧ ∀ S38 : Hp, S38 = sR S37 180 a0 0 (some n33) → Q S38)))))))
set_option maxHeartbeats 4000000 in
set_option maxRecDepth 100000 in
theorem c_X11_init (l : Launch) (z : Zt) (a0 : Nat) (S : Hp) (Q : Hp → Prop) (hw : wp_X11_init a0 S Q) : Ct l z yX11_init cX11_init 1 none 5 108 126 1898 [.ref (a0)] S (wV Q) := by
  refine Ct_of (by decide) (Nat.le_of_ble_eq_true rfl) ?_
  intro p e s m args below meth c C
  have C : Cx p s m args meth c z cX11_init 1 RX11 none "<init>" := C
  refine G_sub (lv' := [(0, .ref (a0))]) [0] rfl ?_
  refine G_aload_n (pc := 0) C 0 dX11_init_0 rfl rfl ?_
  refine G_objInit (pc := 1) C oi_RX11_1 (by decide) (by decide) dX11_init_1 ?_
  refine G_aload_n (pc := 4) C 0 dX11_init_4 rfl rfl ?_
  obtain ⟨hb1, hb2, hw⟩ := hw
  refine G_less (bc' := (126 - 1) + 1) (bs' := (1898 - 2) + 2) (by omega) (by omega) ?_
  refine nw_RX11_7 (pc := 5) C dX11_init_5 ?_
  obtain ⟨n1, hn1⟩ : ∃ y : Nat, y = sz S := ⟨_, rfl⟩
  obtain ⟨S2, hS2⟩ : ∃ y : Hp, y = nw S 11 (0) := ⟨_, rfl⟩
  have hw := hw n1 hn1 S2 hS2
  rw [← hn1]
  rw [← hS2]
  clear hn1 hS2
  refine G_dup (pc := 8) C dX11_init_8 rfl ?_
  obtain ⟨hb1, hb2, hw⟩ := hw
  refine G_less (bc' := ((126 - 1) - 1) + 1) (bs' := ((1898 - 2) - 200) + 200) (by omega) (by omega) ?_
  refine cl_RX11_9 (pc := 9) C (c_X10_init l z (n1) S2 _ hw) ⟨Nat.le_of_ble_eq_true rfl, Nat.le_of_ble_eq_true rfl⟩ dX11_init_9 (Nat.le_of_ble_eq_true rfl) (fun v S' hp => ?_)
  clear hw
  obtain ⟨rfl, hw⟩ := hp
  generalize S' = S4 at hw ⊢
  obtain ⟨hk, hw⟩ := hw
  refine pf_RX11_10 (pc := 12) C rfl (v := some n1) dX11_init_12 hk ?_
  obtain ⟨S5, hS5⟩ : ∃ y : Hp, y = sR S4 177 a0 0 (some n1) := ⟨_, rfl⟩
  have hw := hw S5 hS5
  rw [← hS5]
  clear hS5
  refine G_aload_n (pc := 15) C 0 dX11_init_15 rfl rfl ?_
  obtain ⟨hb1, hb2, hw⟩ := hw
  refine G_less (bc' := (((126 - 1) - 1) - 1) + 1) (bs' := (((1898 - 2) - 200) - 8) + 8) (by omega) (by omega) ?_
  refine nw_RX11_16 (pc := 16) C dX11_init_16 ?_
  obtain ⟨n6, hn6⟩ : ∃ y : Nat, y = sz S5 := ⟨_, rfl⟩
  obtain ⟨S7, hS7⟩ : ∃ y : Hp, y = nw S5 8 (0) := ⟨_, rfl⟩
  have hw := hw n6 hn6 S7 hS7
  rw [← hn6]
  rw [← hS7]
  clear hn6 hS7
  refine G_dup (pc := 19) C dX11_init_19 rfl ?_
  refine G_aload_n (pc := 20) C 0 dX11_init_20 rfl rfl ?_
  obtain ⟨hk, hw⟩ := hw
  refine gf_RX11_10 (pc := 21) C dX11_init_21 hk ?_
  obtain ⟨b8, hq, hw⟩ := hw
  rw [hq]
  obtain ⟨hb1, hb2, hw⟩ := hw
  refine G_less (bc' := ((((126 - 1) - 1) - 1) - 25) + 25) (bs' := ((((1898 - 2) - 200) - 8) - 144) + 144) (by omega) (by omega) ?_
  refine cl_RX11_18 (pc := 24) C (c_X7_init l z (n6) (b8) S7 _ hw) ⟨Nat.le_of_ble_eq_true rfl, Nat.le_of_ble_eq_true rfl⟩ dX11_init_24 (Nat.le_of_ble_eq_true rfl) (fun v S' hp => ?_)
  clear hw
  obtain ⟨rfl, hw⟩ := hp
  generalize S' = S10 at hw ⊢
  obtain ⟨hk, hw⟩ := hw
  refine pf_RX11_21 (pc := 27) C rfl (v := some n6) dX11_init_27 hk ?_
  obtain ⟨S11, hS11⟩ : ∃ y : Hp, y = sR S10 178 a0 0 (some n6) := ⟨_, rfl⟩
  have hw := hw S11 hS11
  rw [← hS11]
  clear hS11
  refine G_aload_n (pc := 30) C 0 dX11_init_30 rfl rfl ?_
  obtain ⟨hb1, hb2, hw⟩ := hw
  refine G_less (bc' := (((((126 - 1) - 1) - 1) - 25) - 1) + 1) (bs' := (((((1898 - 2) - 200) - 8) - 144) - 4) + 4) (by omega) (by omega) ?_
  refine nw_RX11_25 (pc := 31) C dX11_init_31 ?_
  obtain ⟨n12, hn12⟩ : ∃ y : Nat, y = sz S11 := ⟨_, rfl⟩
  obtain ⟨S13, hS13⟩ : ∃ y : Hp, y = nw S11 3 (0) := ⟨_, rfl⟩
  have hw := hw n12 hn12 S13 hS13
  rw [← hn12]
  rw [← hS13]
  clear hn12 hS13
  refine G_dup (pc := 34) C dX11_init_34 rfl ?_
  obtain ⟨hb1, hb2, hw⟩ := hw
  refine G_less (bc' := ((((((126 - 1) - 1) - 1) - 25) - 1) - 3) + 3) (bs' := ((((((1898 - 2) - 200) - 8) - 144) - 4) - 9) + 9) (by omega) (by omega) ?_
  refine cl_RX11_27 (pc := 35) C (c_X2_init l z (n12) S13 _ hw) ⟨Nat.le_of_ble_eq_true rfl, Nat.le_of_ble_eq_true rfl⟩ dX11_init_35 (Nat.le_of_ble_eq_true rfl) (fun v S' hp => ?_)
  clear hw
  obtain ⟨rfl, hw⟩ := hp
  generalize S' = S15 at hw ⊢
  obtain ⟨hk, hw⟩ := hw
  refine pf_RX11_28 (pc := 38) C rfl (v := some n12) dX11_init_38 hk ?_
  obtain ⟨S16, hS16⟩ : ∃ y : Hp, y = sR S15 179 a0 0 (some n12) := ⟨_, rfl⟩
  have hw := hw S16 hS16
  rw [← hS16]
  clear hS16
  refine G_aload_n (pc := 41) C 0 dX11_init_41 rfl rfl ?_
  obtain ⟨hb1, hb2, hw⟩ := hw
  refine G_less (bc' := (((((((126 - 1) - 1) - 1) - 25) - 1) - 3) - 1) + 1) (bs' := (((((((1898 - 2) - 200) - 8) - 144) - 4) - 9) - 3) + 3) (by omega) (by omega) ?_
  refine nw_RX11_32 (pc := 42) C dX11_init_42 ?_
  obtain ⟨n17, hn17⟩ : ∃ y : Nat, y = sz S16 := ⟨_, rfl⟩
  obtain ⟨S18, hS18⟩ : ∃ y : Hp, y = nw S16 7 (0) := ⟨_, rfl⟩
  have hw := hw n17 hn17 S18 hS18
  rw [← hn17]
  rw [← hS18]
  clear hn17 hS18
  refine G_dup (pc := 45) C dX11_init_45 rfl ?_
  obtain ⟨hb1, hb2, hw⟩ := hw
  refine G_less (bc' := ((((((((126 - 1) - 1) - 1) - 25) - 1) - 3) - 1) - 9) + 9) (bs' := ((((((((1898 - 2) - 200) - 8) - 144) - 4) - 9) - 3) - 300) + 300) (by omega) (by omega) ?_
  refine cl_RX11_34 (pc := 46) C (c_X6_init l z (n17) S18 _ hw) ⟨Nat.le_of_ble_eq_true rfl, Nat.le_of_ble_eq_true rfl⟩ dX11_init_46 (Nat.le_of_ble_eq_true rfl) (fun v S' hp => ?_)
  clear hw
  obtain ⟨rfl, hw⟩ := hp
  generalize S' = S20 at hw ⊢
  obtain ⟨hk, hw⟩ := hw
  refine pf_RX11_35 (pc := 49) C rfl (v := some n17) dX11_init_49 hk ?_
  obtain ⟨S21, hS21⟩ : ∃ y : Hp, y = sR S20 181 a0 0 (some n17) := ⟨_, rfl⟩
  have hw := hw S21 hS21
  rw [← hS21]
  clear hS21
  refine G_aload_n (pc := 52) C 0 dX11_init_52 rfl rfl ?_
  obtain ⟨hb1, hb2, hw⟩ := hw
  refine G_less (bc' := (((((((((126 - 1) - 1) - 1) - 25) - 1) - 3) - 1) - 9) - 1) + 1) (bs' := (((((((((1898 - 2) - 200) - 8) - 144) - 4) - 9) - 3) - 300) - 7) + 7) (by omega) (by omega) ?_
  refine nw_RX11_39 (pc := 53) C dX11_init_53 ?_
  obtain ⟨n22, hn22⟩ : ∃ y : Nat, y = sz S21 := ⟨_, rfl⟩
  obtain ⟨S23, hS23⟩ : ∃ y : Hp, y = nw S21 2 (0) := ⟨_, rfl⟩
  have hw := hw n22 hn22 S23 hS23
  rw [← hn22]
  rw [← hS23]
  clear hn22 hS23
  refine G_dup (pc := 56) C dX11_init_56 rfl ?_
  obtain ⟨hb1, hb2, hw⟩ := hw
  refine G_less (bc' := ((((((((((126 - 1) - 1) - 1) - 25) - 1) - 3) - 1) - 9) - 1) - 5) + 5) (bs' := ((((((((((1898 - 2) - 200) - 8) - 144) - 4) - 9) - 3) - 300) - 7) - 40) + 40) (by omega) (by omega) ?_
  refine cl_RX11_41 (pc := 57) C (c_X1_init l z (n22) S23 _ hw) ⟨Nat.le_of_ble_eq_true rfl, Nat.le_of_ble_eq_true rfl⟩ dX11_init_57 (Nat.le_of_ble_eq_true rfl) (fun v S' hp => ?_)
  clear hw
  obtain ⟨rfl, hw⟩ := hp
  generalize S' = S25 at hw ⊢
  obtain ⟨hk, hw⟩ := hw
  refine pf_RX11_42 (pc := 60) C rfl (v := some n22) dX11_init_60 hk ?_
  obtain ⟨S26, hS26⟩ : ∃ y : Hp, y = sR S25 182 a0 0 (some n22) := ⟨_, rfl⟩
  have hw := hw S26 hS26
  rw [← hS26]
  clear hS26
  refine G_aload_n (pc := 63) C 0 dX11_init_63 rfl rfl ?_
  obtain ⟨hb1, hb2, hw⟩ := hw
  refine G_less (bc' := (((((((((((126 - 1) - 1) - 1) - 25) - 1) - 3) - 1) - 9) - 1) - 5) - 1) + 1) (bs' := (((((((((((1898 - 2) - 200) - 8) - 144) - 4) - 9) - 3) - 300) - 7) - 40) - 6) + 6) (by omega) (by omega) ?_
  refine nw_RX11_46 (pc := 64) C dX11_init_64 ?_
  obtain ⟨n27, hn27⟩ : ∃ y : Nat, y = sz S26 := ⟨_, rfl⟩
  obtain ⟨S28, hS28⟩ : ∃ y : Hp, y = nw S26 4 (0) := ⟨_, rfl⟩
  have hw := hw n27 hn27 S28 hS28
  rw [← hn27]
  rw [← hS28]
  clear hn27 hS28
  refine G_dup (pc := 67) C dX11_init_67 rfl ?_
  refine G_aload_n (pc := 68) C 0 dX11_init_68 rfl rfl ?_
  obtain ⟨hk, hw⟩ := hw
  refine gf_RX11_28 (pc := 69) C dX11_init_69 hk ?_
  refine G_iconst (pc := 72) C (v := 0) dX11_init_72 (by decide) ?_
  refine G_iconst (pc := 73) C (v := 0) dX11_init_73 (by decide) ?_
  obtain ⟨b29, hq, hw⟩ := hw
  rw [hq]
  obtain ⟨hb1, hb2, hw⟩ := hw
  refine G_less (bc' := ((((((((((((126 - 1) - 1) - 1) - 25) - 1) - 3) - 1) - 9) - 1) - 5) - 1) - 27) + 27) (bs' := ((((((((((((1898 - 2) - 200) - 8) - 144) - 4) - 9) - 3) - 300) - 7) - 40) - 6) - 692) + 692) (by omega) (by omega) ?_
  refine cl_RX11_48 (pc := 74) C (c_X3_init l z (n27) (b29) ((0 : Int32)) ((0 : Int32)) S28 _ hw) ⟨Nat.le_of_ble_eq_true rfl, Nat.le_of_ble_eq_true rfl⟩ dX11_init_74 (Nat.le_of_ble_eq_true rfl) (fun v S' hp => ?_)
  clear hw
  obtain ⟨rfl, hw⟩ := hp
  generalize S' = S31 at hw ⊢
  obtain ⟨hk, hw⟩ := hw
  refine pf_RX11_51 (pc := 77) C (v := some n27) dX11_init_77 hk ?_
  obtain ⟨S32, hS32⟩ : ∃ y : Hp, y = sR S31 183 a0 0 (some n27) := ⟨_, rfl⟩
  have hw := hw S32 hS32
  rw [← hS32]
  clear hS32
  refine G_aload_n (pc := 80) C 0 dX11_init_80 rfl rfl ?_
  obtain ⟨hb1, hb2, hw⟩ := hw
  refine G_less (bc' := (((((((((((((126 - 1) - 1) - 1) - 25) - 1) - 3) - 1) - 9) - 1) - 5) - 1) - 27) - 1) + 1) (bs' := (((((((((((((1898 - 2) - 200) - 8) - 144) - 4) - 9) - 3) - 300) - 7) - 40) - 6) - 692) - 3) + 3) (by omega) (by omega) ?_
  refine nw_RX11_55 (pc := 81) C dX11_init_81 ?_
  obtain ⟨n33, hn33⟩ : ∃ y : Nat, y = sz S32 := ⟨_, rfl⟩
  obtain ⟨S34, hS34⟩ : ∃ y : Hp, y = nw S32 10 (0) := ⟨_, rfl⟩
  have hw := hw n33 hn33 S34 hS34
  rw [← hn33]
  rw [← hS34]
  clear hn33 hS34
  refine G_dup (pc := 84) C dX11_init_84 rfl ?_
  refine G_aload_n (pc := 85) C 0 dX11_init_85 rfl rfl ?_
  obtain ⟨hk, hw⟩ := hw
  refine gf_RX11_51 (pc := 86) C dX11_init_86 hk ?_
  obtain ⟨b35, hq, hw⟩ := hw
  rw [hq]
  obtain ⟨hb1, hb2, hw⟩ := hw
  refine G_less (bc' := ((((((((((((((126 - 1) - 1) - 1) - 25) - 1) - 3) - 1) - 9) - 1) - 5) - 1) - 27) - 1) - 49) + 49) (bs' := ((((((((((((((1898 - 2) - 200) - 8) - 144) - 4) - 9) - 3) - 300) - 7) - 40) - 6) - 692) - 3) - 480) + 480) (by omega) (by omega) ?_
  refine cl_RX11_57 (pc := 89) C (c_X9_init l z (n33) (b35) S34 _ hw) ⟨Nat.le_of_ble_eq_true rfl, Nat.le_of_ble_eq_true rfl⟩ dX11_init_89 (Nat.le_of_ble_eq_true rfl) (fun v S' hp => ?_)
  clear hw
  obtain ⟨rfl, hw⟩ := hp
  generalize S' = S37 at hw ⊢
  obtain ⟨hk, hw⟩ := hw
  refine pf_RX11_60 (pc := 92) C rfl (v := some n33) dX11_init_92 hk ?_
  obtain ⟨S38, hS38⟩ : ∃ y : Hp, y = sR S37 180 a0 0 (some n33) := ⟨_, rfl⟩
  have hw := hw S38 hS38
  rw [← hS38]
  clear hS38
  exact G_vret (pc := 95) C rfl dX11_init_95 ⟨rfl, hw⟩
/-! FirstParts.write(I)I -/
abbrev wp_X11_write_37  (Q : Int32 → Hp → Prop) (s0 : Int32) (S : Hp) : Prop :=
  Q s0 S
abbrev wp_X11_write (a0 : Nat) (x1 : Int32) (S : Hp) (Q : Int32 → Hp → Prop) : Prop :=
  wp_X11_within (x1) ((0 : Int32)) ((255 : Int32)) S (fun e1 => ((e1 ≠ 0 → kd S a0 = 12 ∧ ∃ b3, (gR S 177 a0 0) = some b3 ∧ kd S b3 = 11 ∧ wp_X10_add (b3) (x1) S (fun e4 S5 => ((e4 = 0 → wp_X11_write_37 Q ((-5 : Int32)) (S5)) ∧ (¬ e4 = 0 → kd S5 a0 = 12 ∧ ∃ b6, (gR S5 177 a0 0) = some b6 ∧ kd S5 b6 = 11 ∧ wp_X11_write_37 Q ((gI S5 162 b6 0)) (S5))))) ∧ (e1 = 0 → Q (-3 : Int32) S)))
set_option maxHeartbeats 4000000 in
set_option maxRecDepth 100000 in
theorem g_X11_write_37 (C : Cx p s m args meth c z cX11_write 2 RX11 (some .int) "write")  {Q : Int32 → Hp → Prop} {s0 : Int32} {S : Hp}   (hw : wp_X11_write_37  Q s0 S) : Go p l e { frames := 1, cells := 0, slots := 0, locals := 22 } s m args below meth c z 2 (MQ below (Qx z (wI Q)) args s 0 0 (own z)) (0) (0) 37 [] [.int (s0)] (S) := by
  exact G_iret (pc := 37) C rfl dX11_write_37 ⟨_, rfl, hw⟩
set_option maxHeartbeats 4000000 in
set_option maxRecDepth 100000 in
theorem c_X11_write (l : Launch) (z : Zt) (a0 : Nat) (x1 : Int32) (S : Hp) (Q : Int32 → Hp → Prop) (hw : wp_X11_write a0 x1 S Q) : Ct l z yX11_write cX11_write 2 (some .int) 1 22 0 0 [.ref (a0), .int (x1)] S (wI Q) := by
  refine Ct_of (by decide) (Nat.le_of_ble_eq_true rfl) ?_
  intro p e s m args below meth c C
  have C : Cx p s m args meth c z cX11_write 2 RX11 (some .int) "write" := C
  refine G_sub (lv' := [(0, .ref (a0)), (1, .int (x1))]) [0, 1] rfl ?_
  refine G_iload_n (pc := 0) C 1 dX11_write_0 rfl rfl ?_
  refine G_iconst (pc := 1) C (v := 0) dX11_write_1 (by decide) ?_
  refine G_sipush (pc := 2) C (v := 255) dX11_write_2 (by decide) ?_
  refine cl_RX11_64 (pc := 5) C (c_X11_within l z (x1) ((0 : Int32)) ((255 : Int32)) S _ hw) ⟨Nat.le_of_ble_eq_true rfl, Nat.le_of_ble_eq_true rfl⟩ dX11_write_5 (Nat.le_of_ble_eq_true rfl) (fun v S' hp => ?_)
  clear hw
  obtain ⟨hS, e1, rfl, hw⟩ := hp
  subst S'
  refine G_if_ne (pc := 8) C 14 dX11_write_8 (by decide) (fun hc => ?_) (fun hc => ?_)
  · have hw := hw.1 hc
    refine G_aload_n (pc := 14) C 0 dX11_write_14 rfl rfl ?_
    obtain ⟨hk, hw⟩ := hw
    refine gf_RX11_10 (pc := 15) C dX11_write_15 hk ?_
    refine G_iload_n (pc := 18) C 1 dX11_write_18 rfl rfl ?_
    obtain ⟨b3, hq, hw⟩ := hw
    rw [hq]
    obtain ⟨hk, hw⟩ := hw
    refine cl_RX11_68 (pc := 19) C (c_X10_add l z (b3) (x1) S _ hw) ⟨Nat.le_of_ble_eq_true rfl, Nat.le_of_ble_eq_true rfl⟩ hk dX11_write_19 (Nat.le_of_ble_eq_true rfl) (fun v S' hp => ?_)
    clear hw
    obtain ⟨e4, rfl, hw⟩ := hp
    generalize S' = S5 at hw ⊢
    refine G_if_eq (pc := 22) C 35 dX11_write_22 (by decide) (fun hc => ?_) (fun hc => ?_)
    · have hw := hw.1 hc
      refine G_bipush (pc := 35) C (v := -5) dX11_write_35 (by decide) ?_
      exact G_sub [] rfl (g_X11_write_37 C  hw)
    · have hw := hw.2 hc
      refine G_aload_n (pc := 25) C 0 dX11_write_25 rfl rfl ?_
      obtain ⟨hk, hw⟩ := hw
      refine gf_RX11_10 (pc := 26) C dX11_write_26 hk ?_
      obtain ⟨b6, hq, hw⟩ := hw
      rw [hq]
      obtain ⟨hk, hw⟩ := hw
      refine gf_RX11_72 (pc := 29) C dX11_write_29 hk ?_
      refine G_goto (pc := 32) C 37 dX11_write_32 (by decide) ?_
      exact G_sub [] rfl (g_X11_write_37 C  hw)
  · have hw := hw.2 hc
    refine G_bipush (pc := 11) C (v := -3) dX11_write_11 (by decide) ?_
    exact G_iret (pc := 13) C rfl dX11_write_13 ⟨_, rfl, hw⟩
/-! FirstParts.erase()I -/
abbrev wp_X11_erase (a0 : Nat) (S : Hp) (Q : Int32 → Hp → Prop) : Prop :=
  kd S a0 = 12 ∧ ∃ b1, (gR S 177 a0 0) = some b1 ∧ kd S b1 = 11 ∧ ∀ e2 : Int32, e2 = (gI S 162 b1 0) → kd S a0 = 12 ∧ ∃ b3, (gR S 177 a0 0) = some b3 ∧ kd S b3 = 11 ∧ ∀ S4 : Hp, S4 = sI S 162 b3 0 (0 : Int32) → Q e2 S4
set_option maxHeartbeats 4000000 in
set_option maxRecDepth 100000 in
theorem c_X11_erase (l : Launch) (z : Zt) (a0 : Nat) (S : Hp) (Q : Int32 → Hp → Prop) (hw : wp_X11_erase a0 S Q) : Ct l z yX11_erase cX11_erase 2 (some .int) 0 0 0 0 [.ref (a0)] S (wI Q) := by
  refine Ct_of (by decide) (Nat.le_of_ble_eq_true rfl) ?_
  intro p e s m args below meth c C
  have C : Cx p s m args meth c z cX11_erase 2 RX11 (some .int) "erase" := C
  refine G_sub (lv' := [(0, .ref (a0))]) [0] rfl ?_
  refine G_aload_n (pc := 0) C 0 dX11_erase_0 rfl rfl ?_
  obtain ⟨hk, hw⟩ := hw
  refine gf_RX11_10 (pc := 1) C dX11_erase_1 hk ?_
  obtain ⟨b1, hq, hw⟩ := hw
  rw [hq]
  obtain ⟨hk, hw⟩ := hw
  refine gf_RX11_72 (pc := 4) C dX11_erase_4 hk ?_
  refine G_topi (fun e2 he2 => ?_)
  have hw := hw e2 he2
  clear he2
  refine G_istore_n (pc := 7) C [(1, .int (e2)), (0, .ref (a0))] dX11_erase_7 rfl (by decide) rfl ?_
  refine G_aload_n (pc := 8) C 1 dX11_erase_8 rfl rfl ?_
  obtain ⟨hk, hw⟩ := hw
  refine gf_RX11_10 (pc := 9) C dX11_erase_9 hk ?_
  refine G_iconst (pc := 12) C (v := 0) dX11_erase_12 (by decide) ?_
  obtain ⟨b3, hq, hw⟩ := hw
  rw [hq]
  obtain ⟨hk, hw⟩ := hw
  refine pf_RX11_72 (pc := 13) C dX11_erase_13 hk ?_
  obtain ⟨S4, hS4⟩ : ∃ y : Hp, y = sI S 162 b3 0 (0 : Int32) := ⟨_, rfl⟩
  have hw := hw S4 hS4
  rw [← hS4]
  clear hS4
  refine G_iload_n (pc := 16) C 0 dX11_erase_16 rfl rfl ?_
  exact G_iret (pc := 17) C rfl dX11_erase_17 ⟨_, rfl, hw⟩
/-! FirstParts.fault()I -/
abbrev wp_X11_fault (a0 : Nat) (S : Hp) (Q : Int32 → Hp → Prop) : Prop :=
  kd S a0 = 12 ∧ kd S a0 = 12 ∧ ∃ b1, (gR S 179 a0 0) = some b1 ∧ kd S b1 = 3 ∧ ∃ b2, (gR S 178 a0 0) = some b2 ∧ kd S b2 = 8 ∧ wp_X7_firstFault (b2) ((gI S 34 b1 0)) S (fun e3 S4 => Q e3 S4)
set_option maxHeartbeats 4000000 in
set_option maxRecDepth 100000 in
theorem c_X11_fault (l : Launch) (z : Zt) (a0 : Nat) (S : Hp) (Q : Int32 → Hp → Prop) (hw : wp_X11_fault a0 S Q) : Ct l z yX11_fault cX11_fault 1 (some .int) 7 152 0 0 [.ref (a0)] S (wI Q) := by
  refine Ct_of (by decide) (Nat.le_of_ble_eq_true rfl) ?_
  intro p e s m args below meth c C
  have C : Cx p s m args meth c z cX11_fault 1 RX11 (some .int) "fault" := C
  refine G_sub (lv' := [(0, .ref (a0))]) [0] rfl ?_
  refine G_aload_n (pc := 0) C 0 dX11_fault_0 rfl rfl ?_
  obtain ⟨hk, hw⟩ := hw
  refine gf_RX11_21 (pc := 1) C dX11_fault_1 hk ?_
  refine G_aload_n (pc := 4) C 0 dX11_fault_4 rfl rfl ?_
  obtain ⟨hk, hw⟩ := hw
  refine gf_RX11_28 (pc := 5) C dX11_fault_5 hk ?_
  obtain ⟨b1, hq, hw⟩ := hw
  rw [hq]
  obtain ⟨hk, hw⟩ := hw
  refine gf_RX11_76 (pc := 8) C dX11_fault_8 hk ?_
  obtain ⟨b2, hq, hw⟩ := hw
  rw [hq]
  obtain ⟨hk, hw⟩ := hw
  refine cl_RX11_79 (pc := 11) C (c_X7_firstFault l z (b2) ((gI S 34 b1 0)) S _ hw) ⟨Nat.le_of_ble_eq_true rfl, Nat.le_of_ble_eq_true rfl⟩ hk dX11_fault_11 (Nat.le_of_ble_eq_true rfl) (fun v S' hp => ?_)
  clear hw
  obtain ⟨e3, rfl, hw⟩ := hp
  generalize S' = S4 at hw ⊢
  exact G_iret (pc := 14) C rfl dX11_fault_14 ⟨_, rfl, hw⟩
/-! FirstParts.partOf(LFirstParts$Clause;)LFirstParts$Part; -/
abbrev wp_X11_partOf (a0 : Nat) (a1 : Nat) (S : Hp) (Q : Nat → Hp → Prop) : Prop :=
  kd S a0 = 12 ∧ kd S a1 = 1 ∧ kd S a1 = 1 ∧ ∃ b1, (gR S 177 a0 0) = some b1 ∧ kd S b1 = 11 ∧ 1 ≤ 2 ∧ 12 ≤ 15 ∧ wp_X10_wordAt (b1) ((gI S 2 a1 0)) ((gI S 3 a1 0)) S (fun n2 S3 => 1 ≤ (2 - 1) ∧ 3 ≤ (15 - 12) ∧ ∀ n4 : Nat, n4 = sz S3 → ∀ S5 : Hp, S5 = nw S3 6 (0) → kd S5 a1 = 1 ∧ kd S5 a1 = 1 ∧ wp_X5_init (n4) (n2) ((gI S5 4 a1 0)) ((gI S5 5 a1 0)) S5 (fun S7 => Q n4 S7))
set_option maxHeartbeats 4000000 in
set_option maxRecDepth 100000 in
theorem c_X11_partOf (l : Launch) (z : Zt) (a0 : Nat) (a1 : Nat) (S : Hp) (Q : Nat → Hp → Prop) (hw : wp_X11_partOf a0 a1 S Q) : Ct l z yX11_partOf cX11_partOf 3 (some (.object "FirstParts$Part")) 2 46 2 15 [.ref (a0), .ref (a1)] S (wA Q) := by
  refine Ct_of (by decide) (Nat.le_of_ble_eq_true rfl) ?_
  intro p e s m args below meth c C
  have C : Cx p s m args meth c z cX11_partOf 3 RX11 (some (.object "FirstParts$Part")) "partOf" := C
  refine G_sub (lv' := [(0, .ref (a0)), (1, .ref (a1))]) [0, 1] rfl ?_
  refine G_aload_n (pc := 0) C 0 dX11_partOf_0 rfl rfl ?_
  obtain ⟨hk, hw⟩ := hw
  refine gf_RX11_10 (pc := 1) C dX11_partOf_1 hk ?_
  refine G_aload_n (pc := 4) C 1 dX11_partOf_4 rfl rfl ?_
  obtain ⟨hk, hw⟩ := hw
  refine gf_RX11_273 (pc := 5) C dX11_partOf_5 hk ?_
  refine G_aload_n (pc := 8) C 1 dX11_partOf_8 rfl rfl ?_
  obtain ⟨hk, hw⟩ := hw
  refine gf_RX11_276 (pc := 9) C dX11_partOf_9 hk ?_
  obtain ⟨b1, hq, hw⟩ := hw
  rw [hq]
  obtain ⟨hk, hw⟩ := hw
  obtain ⟨hb1, hb2, hw⟩ := hw
  refine G_less (bc' := (2 - 1) + 1) (bs' := (15 - 12) + 12) (by omega) (by omega) ?_
  refine cl_RX11_279 (pc := 12) C (c_X10_wordAt l z (b1) ((gI S 2 a1 0)) ((gI S 3 a1 0)) S _ hw) ⟨Nat.le_of_ble_eq_true rfl, Nat.le_of_ble_eq_true rfl⟩ hk dX11_partOf_12 (Nat.le_of_ble_eq_true rfl) (fun v S' hp => ?_)
  clear hw
  obtain ⟨n2, rfl, hw⟩ := hp
  generalize S' = S3 at hw ⊢
  refine G_astore_n (pc := 15) C [(2, .ref (n2)), (0, .ref (a0)), (1, .ref (a1))] dX11_partOf_15 rfl (by decide) rfl ?_
  obtain ⟨hb1, hb2, hw⟩ := hw
  refine G_less (bc' := ((2 - 1) - 1) + 1) (bs' := ((15 - 12) - 3) + 3) (by omega) (by omega) ?_
  refine nw_RX11_105 (pc := 16) C dX11_partOf_16 ?_
  obtain ⟨n4, hn4⟩ : ∃ y : Nat, y = sz S3 := ⟨_, rfl⟩
  obtain ⟨S5, hS5⟩ : ∃ y : Hp, y = nw S3 6 (0) := ⟨_, rfl⟩
  have hw := hw n4 hn4 S5 hS5
  rw [← hn4]
  rw [← hS5]
  clear hn4 hS5
  refine G_dup (pc := 19) C dX11_partOf_19 rfl ?_
  refine G_aload_n (pc := 20) C 0 dX11_partOf_20 rfl rfl ?_
  refine G_aload_n (pc := 21) C 2 dX11_partOf_21 rfl rfl ?_
  obtain ⟨hk, hw⟩ := hw
  refine gf_RX11_263 (pc := 22) C dX11_partOf_22 hk ?_
  refine G_aload_n (pc := 25) C 2 dX11_partOf_25 rfl rfl ?_
  obtain ⟨hk, hw⟩ := hw
  refine gf_RX11_283 (pc := 26) C dX11_partOf_26 hk ?_
  refine cl_RX11_133 (pc := 29) C (c_X5_init l z (n4) (n2) ((gI S5 4 a1 0)) ((gI S5 5 a1 0)) S5 _ hw) ⟨Nat.le_of_ble_eq_true rfl, Nat.le_of_ble_eq_true rfl⟩ dX11_partOf_29 (Nat.le_of_ble_eq_true rfl) (fun v S' hp => ?_)
  clear hw
  obtain ⟨rfl, hw⟩ := hp
  generalize S' = S7 at hw ⊢
  exact G_aret (pc := 32) C rfl (by first | exact Or.inl ⟨_, rfl⟩ | exact Or.inr ⟨_, rfl⟩) dX11_partOf_32 ⟨_, rfl, hw⟩
/-! FirstParts.carryOut(LFirstParts$Clause;)V -/
abbrev wp_X11_carryOut_82  (Q : Hp → Prop)  (S : Hp) (bc bs : Nat) : Prop :=
  Q S
abbrev wp_X11_carryOut (a0 : Nat) (a1 : Nat) (S : Hp) (Q : Hp → Prop) : Prop :=
  kd S a1 = 1 ∧ ∀ e1 : Int32, e1 = (gI S 1 a1 0) → ((e1 = 0 → kd S a0 = 12 ∧ ∃ b2, (gR S 179 a0 0) = some b2 ∧ kd S b2 = 3 ∧ wp_X2_beginAnew (b2) S (fun S4 => wp_X11_carryOut_82 Q (S4) (2) (15))) ∧ (¬ e1 = 0 → ((e1 = 1 → kd S a0 = 12 ∧ kd S a1 = 1 ∧ ∃ b5, (gR S 179 a0 0) = some b5 ∧ kd S b5 = 3 ∧ ∀ S6 : Hp, S6 = sI S 35 b5 0 (gI S 4 a1 0) → wp_X11_carryOut_82 Q (S6) (2) (15)) ∧ (¬ e1 = 1 → ((e1 = 2 → kd S a0 = 12 ∧ kd S a1 = 1 ∧ ∃ b7, (gR S 179 a0 0) = some b7 ∧ kd S b7 = 3 ∧ ∀ S8 : Hp, S8 = sI S 36 b7 0 (gI S 4 a1 0) → wp_X11_carryOut_82 Q (S8) (2) (15)) ∧ (¬ e1 = 2 → kd S a0 = 12 ∧ kd S a0 = 12 ∧ 2 ≤ 2 ∧ 15 ≤ 15 ∧ ∃ b11, (gR S 179 a0 0) = some b11 ∧ wp_X11_partOf (a0) (a1) S (fun n9 S10 => kd S10 b11 = 3 ∧ wp_X2_append (b11) (n9) S10 (fun S13 => wp_X11_carryOut_82 Q (S13) ((2 - 2)) ((15 - 15))))))))))
set_option maxHeartbeats 4000000 in
set_option maxRecDepth 100000 in
theorem g_X11_carryOut_82 (C : Cx p s m args meth c z cX11_carryOut 2 RX11 none "carryOut")  {Q : Hp → Prop}  {S : Hp} {bc bs : Nat}   (hw : wp_X11_carryOut_82  Q  S bc bs) : Go p l e { frames := 3, cells := 2, slots := 15, locals := 68 } s m args below meth c z 2 (MQ below (Qx z (wV Q)) args s 2 15 (own z)) (bc) (bs) 82 [] [] (S) := by
  exact G_vret (pc := 82) C rfl dX11_carryOut_82 ⟨rfl, hw⟩
set_option maxHeartbeats 4000000 in
set_option maxRecDepth 100000 in
theorem c_X11_carryOut (l : Launch) (z : Zt) (a0 : Nat) (a1 : Nat) (S : Hp) (Q : Hp → Prop) (hw : wp_X11_carryOut a0 a1 S Q) : Ct l z yX11_carryOut cX11_carryOut 2 none 3 68 2 15 [.ref (a0), .ref (a1)] S (wV Q) := by
  refine Ct_of (by decide) (Nat.le_of_ble_eq_true rfl) ?_
  intro p e s m args below meth c C
  have C : Cx p s m args meth c z cX11_carryOut 2 RX11 none "carryOut" := C
  refine G_sub (lv' := [(0, .ref (a0)), (1, .ref (a1))]) [0, 1] rfl ?_
  refine G_aload_n (pc := 0) C 1 dX11_carryOut_0 rfl rfl ?_
  obtain ⟨hk, hw⟩ := hw
  refine gf_RX11_255 (pc := 1) C dX11_carryOut_1 hk ?_
  refine G_topi (fun e1 he1 => ?_)
  have hw := hw e1 he1
  by_cases hc0 : e1 = 0
  · have hw := hw.1 hc0
    refine G_tableIn (pc := 4) C 32 dX11_carryOut_4 (by rw [hc0]; decide) (by rw [hc0]; decide) (off := 28) (by rw [hc0]; rfl) (by decide) ?_
    refine G_aload_n (pc := 32) C 0 dX11_carryOut_32 rfl rfl ?_
    obtain ⟨hk, hw⟩ := hw
    refine gf_RX11_28 (pc := 33) C dX11_carryOut_33 hk ?_
    obtain ⟨b2, hq, hw⟩ := hw
    rw [hq]
    obtain ⟨hk, hw⟩ := hw
    refine cl_RX11_260 (pc := 36) C (c_X2_beginAnew l z (b2) S _ hw) ⟨Nat.le_of_ble_eq_true rfl, Nat.le_of_ble_eq_true rfl⟩ hk dX11_carryOut_36 (Nat.le_of_ble_eq_true rfl) (fun v S' hp => ?_)
    clear hw
    obtain ⟨rfl, hw⟩ := hp
    generalize S' = S4 at hw ⊢
    refine G_goto (pc := 39) C 82 dX11_carryOut_39 (by decide) ?_
    exact G_sub [] rfl (g_X11_carryOut_82 C  hw)
  have hw := hw.2 hc0
  by_cases hc1 : e1 = 1
  · have hw := hw.1 hc1
    refine G_tableIn (pc := 4) C 42 dX11_carryOut_4 (by rw [hc1]; decide) (by rw [hc1]; decide) (off := 38) (by rw [hc1]; rfl) (by decide) ?_
    refine G_aload_n (pc := 42) C 0 dX11_carryOut_42 rfl rfl ?_
    obtain ⟨hk, hw⟩ := hw
    refine gf_RX11_28 (pc := 43) C dX11_carryOut_43 hk ?_
    refine G_aload_n (pc := 46) C 1 dX11_carryOut_46 rfl rfl ?_
    obtain ⟨hk, hw⟩ := hw
    refine gf_RX11_263 (pc := 47) C dX11_carryOut_47 hk ?_
    obtain ⟨b5, hq, hw⟩ := hw
    rw [hq]
    obtain ⟨hk, hw⟩ := hw
    refine pf_RX11_127 (pc := 50) C dX11_carryOut_50 hk ?_
    obtain ⟨S6, hS6⟩ : ∃ y : Hp, y = sI S 35 b5 0 (gI S 4 a1 0) := ⟨_, rfl⟩
    have hw := hw S6 hS6
    rw [← hS6]
    clear hS6
    refine G_goto (pc := 53) C 82 dX11_carryOut_53 (by decide) ?_
    exact G_sub [] rfl (g_X11_carryOut_82 C  hw)
  have hw := hw.2 hc1
  by_cases hc2 : e1 = 2
  · have hw := hw.1 hc2
    refine G_tableIn (pc := 4) C 56 dX11_carryOut_4 (by rw [hc2]; decide) (by rw [hc2]; decide) (off := 52) (by rw [hc2]; rfl) (by decide) ?_
    refine G_aload_n (pc := 56) C 0 dX11_carryOut_56 rfl rfl ?_
    obtain ⟨hk, hw⟩ := hw
    refine gf_RX11_28 (pc := 57) C dX11_carryOut_57 hk ?_
    refine G_aload_n (pc := 60) C 1 dX11_carryOut_60 rfl rfl ?_
    obtain ⟨hk, hw⟩ := hw
    refine gf_RX11_263 (pc := 61) C dX11_carryOut_61 hk ?_
    obtain ⟨b7, hq, hw⟩ := hw
    rw [hq]
    obtain ⟨hk, hw⟩ := hw
    refine pf_RX11_130 (pc := 64) C dX11_carryOut_64 hk ?_
    obtain ⟨S8, hS8⟩ : ∃ y : Hp, y = sI S 36 b7 0 (gI S 4 a1 0) := ⟨_, rfl⟩
    have hw := hw S8 hS8
    rw [← hS8]
    clear hS8
    refine G_goto (pc := 67) C 82 dX11_carryOut_67 (by decide) ?_
    exact G_sub [] rfl (g_X11_carryOut_82 C  hw)
  have hw := hw.2 hc2
  refine G_tableOut (pc := 4) C 70 dX11_carryOut_4 (by have k0 := ne_ti hc0 (by decide : (0 : Int32).toInt = 0); have k1 := ne_ti hc1 (by decide : (1 : Int32).toInt = 1); have k2 := ne_ti hc2 (by decide : (2 : Int32).toInt = 2); omega) (by decide) ?_
  refine G_aload_n (pc := 70) C 0 dX11_carryOut_70 rfl rfl ?_
  obtain ⟨hk, hw⟩ := hw
  refine gf_RX11_28 (pc := 71) C dX11_carryOut_71 hk ?_
  refine G_aload_n (pc := 74) C 0 dX11_carryOut_74 rfl rfl ?_
  refine G_aload_n (pc := 75) C 1 dX11_carryOut_75 rfl rfl ?_
  obtain ⟨hk, hw⟩ := hw
  obtain ⟨hb1, hb2, hw⟩ := hw
  refine G_less (bc' := (2 - 2) + 2) (bs' := (15 - 15) + 15) (by omega) (by omega) ?_
  obtain ⟨b11, hq, hw⟩ := hw
  rw [hq]
  refine cl_RX11_265 (pc := 76) C (c_X11_partOf l z (a0) (a1) S _ hw) ⟨Nat.le_of_ble_eq_true rfl, Nat.le_of_ble_eq_true rfl⟩ hk dX11_carryOut_76 (Nat.le_of_ble_eq_true rfl) (fun v S' hp => ?_)
  clear hw
  obtain ⟨n9, rfl, hw⟩ := hp
  generalize S' = S10 at hw ⊢
  obtain ⟨hk, hw⟩ := hw
  refine cl_RX11_269 (pc := 79) C (c_X2_append l z (b11) (n9) S10 _ hw) ⟨Nat.le_of_ble_eq_true rfl, Nat.le_of_ble_eq_true rfl⟩ hk dX11_carryOut_79 (Nat.le_of_ble_eq_true rfl) (fun v S' hp => ?_)
  clear hw
  obtain ⟨rfl, hw⟩ := hp
  generalize S' = S13 at hw ⊢
  exact G_sub [] rfl (g_X11_carryOut_82 C  hw)
/-! FirstParts.tell()I -/
abbrev wp_X11_tell_59  (Q : Int32 → Hp → Prop) (v0 : Nat) (S : Hp) (bc bs : Nat) : Prop :=
  kd S v0 = 12 ∧ ∃ b6, (gR S 180 v0 0) = some b6 ∧ kd S b6 = 10 ∧ wp_X9_forget (b6) S (fun S8 => kd S8 v0 = 12 ∧ ∃ b9, (gR S8 177 v0 0) = some b9 ∧ kd S8 b9 = 11 ∧ ∀ S10 : Hp, S10 = sI S8 162 b9 0 (0 : Int32) → kd S10 v0 = 12 ∧ ∃ b11, (gR S10 178 v0 0) = some b11 ∧ kd S10 b11 = 8 ∧ Q (gI S10 115 b11 0) S10)
abbrev wb_X11_tell_23  (K23 : Int32 → Hp → Nat → Nat → Prop) (Q : Int32 → Hp → Prop) (v0 : Nat) (v1 : Int32) (S : Hp) (bc bs : Nat) : Prop :=
  kd S v0 = 12 ∧ ∃ b5, (gR S 178 v0 0) = some b5 ∧ kd S b5 = 8 ∧ (((gI S 115 b5 0) ≤ v1 → wp_X11_tell_59 Q (v0) (S) (bc) (bs)) ∧ (¬ (gI S 115 b5 0) ≤ v1 → (((24 : Int32) ≤ v1 → wp_X11_tell_59 Q (v0) (S) (bc) (bs)) ∧ (¬ (24 : Int32) ≤ v1 → kd S v0 = 12 ∧ ∃ b12, (gR S 178 v0 0) = some b12 ∧ kd S b12 = 8 ∧ ∃ b13, (gR S 114 b12 0) = some b13 ∧ kd S b13 = 21 ∧ vp_in v1 (ln S b13) ∧ ∃ b14, (gR S 0 b13 (v1).toNatClampNeg) = some b14 ∧ kd S v0 = 12 ∧ 2 ≤ bc ∧ 15 ≤ bs ∧ wp_X11_carryOut (v0) (b14) S (fun S16 => ∀ e17 : Int32, e17 = (v1 + 1) → K23 (e17) (S16) ((bc - 2)) ((bs - 15)))))))
abbrev wp_X11_tell_23  (Q : Int32 → Hp → Prop) (v0 : Nat) (v1 : Int32) (S : Hp) (bc bs : Nat) : Prop :=
  Lp (X := Int32 × Hp × Nat × Nat) (fun K y => wb_X11_tell_23  (fun w0 w1 w2 w3 => K (w0, w1, w2, w3)) Q v0 y.1 y.2.1 (y.2.2.1) (y.2.2.2)) (v1, S, bc, bs)
abbrev wp_X11_tell (a0 : Nat) (S : Hp) (Q : Int32 → Hp → Prop) : Prop :=
  kd S a0 = 12 ∧ kd S a0 = 12 ∧ ∃ b1, (gR S 179 a0 0) = some b1 ∧ kd S b1 = 3 ∧ ∃ b2, (gR S 178 a0 0) = some b2 ∧ kd S b2 = 8 ∧ wp_X7_firstFault (b2) ((gI S 34 b1 0)) S (fun e3 S4 => ((e3 = (-1 : Int32) → wp_X11_tell_23 Q (a0) ((0 : Int32)) (S4) (48) (360)) ∧ (¬ e3 = (-1 : Int32) → Q (-4 : Int32) S4)))
set_option maxHeartbeats 4000000 in
set_option maxRecDepth 100000 in
theorem g_X11_tell_59 (C : Cx p s m args meth c z cX11_tell 2 RX11 (some .int) "tell")  {Q : Int32 → Hp → Prop} {v0 : Nat} {S : Hp} {bc bs : Nat}   (hw : wp_X11_tell_59  Q v0 S bc bs) : Go p l e { frames := 7, cells := 48, slots := 360, locals := 152 } s m args below meth c z 2 (MQ below (Qx z (wI Q)) args s 48 360 (own z)) (bc) (bs) 59 [(0, .ref (v0))] [] (S) := by
  refine G_aload_n (pc := 59) C 0 dX11_tell_59 rfl rfl ?_
  obtain ⟨hk, hw⟩ := hw
  refine gf_RX11_60 (pc := 60) C dX11_tell_60 hk ?_
  obtain ⟨b6, hq, hw⟩ := hw
  rw [hq]
  obtain ⟨hk, hw⟩ := hw
  refine cl_RX11_94 (pc := 63) C (c_X9_forget l z (b6) S _ hw) ⟨Nat.le_of_ble_eq_true rfl, Nat.le_of_ble_eq_true rfl⟩ hk dX11_tell_63 (Nat.le_of_ble_eq_true rfl) (fun v S' hp => ?_)
  clear hw
  obtain ⟨rfl, hw⟩ := hp
  generalize S' = S8 at hw ⊢
  refine G_aload_n (pc := 66) C 0 dX11_tell_66 rfl rfl ?_
  obtain ⟨hk, hw⟩ := hw
  refine gf_RX11_10 (pc := 67) C dX11_tell_67 hk ?_
  refine G_iconst (pc := 70) C (v := 0) dX11_tell_70 (by decide) ?_
  obtain ⟨b9, hq, hw⟩ := hw
  rw [hq]
  obtain ⟨hk, hw⟩ := hw
  refine pf_RX11_72 (pc := 71) C dX11_tell_71 hk ?_
  obtain ⟨S10, hS10⟩ : ∃ y : Hp, y = sI S8 162 b9 0 (0 : Int32) := ⟨_, rfl⟩
  have hw := hw S10 hS10
  rw [← hS10]
  clear hS10
  refine G_aload_n (pc := 74) C 0 dX11_tell_74 rfl rfl ?_
  obtain ⟨hk, hw⟩ := hw
  refine gf_RX11_21 (pc := 75) C dX11_tell_75 hk ?_
  obtain ⟨b11, hq, hw⟩ := hw
  rw [hq]
  obtain ⟨hk, hw⟩ := hw
  refine gf_RX11_83 (pc := 78) C dX11_tell_78 hk ?_
  exact G_iret (pc := 81) C rfl dX11_tell_81 ⟨_, rfl, hw⟩
set_option maxHeartbeats 4000000 in
set_option maxRecDepth 100000 in
theorem gb_X11_tell_23 (C : Cx p s m args meth c z cX11_tell 2 RX11 (some .int) "tell") {K23 : Int32 → Hp → Nat → Nat → Prop} {Q : Int32 → Hp → Prop} {v0 : Nat} {v1 : Int32} {S : Hp} {bc bs : Nat}  (hK23 : ∀ (w1 : Int32) (S2 : Hp) (bc2 bs2 : Nat), K23 w1 S2 bc2 bs2 → Go p l e { frames := 7, cells := 48, slots := 360, locals := 152 } s m args below meth c z 2 (MQ below (Qx z (wI Q)) args s 48 360 (own z)) (bc2) (bs2) 23 [(0, .ref (v0)), (1, .int (w1))] [] (S2)) (hw : wb_X11_tell_23  K23 Q v0 v1 S bc bs) : Go p l e { frames := 7, cells := 48, slots := 360, locals := 152 } s m args below meth c z 2 (MQ below (Qx z (wI Q)) args s 48 360 (own z)) (bc) (bs) 23 [(0, .ref (v0)), (1, .int (v1))] [] (S) := by
  refine G_iload_n (pc := 23) C 1 dX11_tell_23 rfl rfl ?_
  refine G_aload_n (pc := 24) C 0 dX11_tell_24 rfl rfl ?_
  obtain ⟨hk, hw⟩ := hw
  refine gf_RX11_21 (pc := 25) C dX11_tell_25 hk ?_
  obtain ⟨b5, hq, hw⟩ := hw
  rw [hq]
  obtain ⟨hk, hw⟩ := hw
  refine gf_RX11_83 (pc := 28) C dX11_tell_28 hk ?_
  refine G_icmp_ge (pc := 31) C 59 dX11_tell_31 (by decide) (fun hc => ?_) (fun hc => ?_)
  · have hw := hw.1 hc
    exact G_sub [0] rfl (g_X11_tell_59 C  hw)
  · have hw := hw.2 hc
    refine G_iload_n (pc := 34) C 1 dX11_tell_34 rfl rfl ?_
    refine G_bipush (pc := 35) C (v := 24) dX11_tell_35 (by decide) ?_
    refine G_icmp_ge (pc := 37) C 59 dX11_tell_37 (by decide) (fun hc => ?_) (fun hc => ?_)
    · have hw := hw.1 hc
      exact G_sub [0] rfl (g_X11_tell_59 C  hw)
    · have hw := hw.2 hc
      refine G_aload_n (pc := 40) C 0 dX11_tell_40 rfl rfl ?_
      refine G_aload_n (pc := 41) C 0 dX11_tell_41 rfl rfl ?_
      obtain ⟨hk, hw⟩ := hw
      refine gf_RX11_21 (pc := 42) C dX11_tell_42 hk ?_
      obtain ⟨b12, hq, hw⟩ := hw
      rw [hq]
      obtain ⟨hk, hw⟩ := hw
      refine gf_RX11_86 (pc := 45) C dX11_tell_45 hk ?_
      refine G_iload_n (pc := 48) C 1 dX11_tell_48 rfl rfl ?_
      obtain ⟨b13, hq, hw⟩ := hw
      rw [hq]
      obtain ⟨hk, hi, hw⟩ := hw
      refine G_aald (pc := 49) C 1 rfl (by decide) rfl hk hi dX11_tell_49 ?_
      obtain ⟨b14, hq, hw⟩ := hw
      rw [hq]
      obtain ⟨hk, hw⟩ := hw
      obtain ⟨hb1, hb2, hw⟩ := hw
      refine G_less (bc' := (bc - 2) + 2) (bs' := (bs - 15) + 15) (by omega) (by omega) ?_
      refine cl_RX11_90 (pc := 50) C (c_X11_carryOut l z (v0) (b14) S _ hw) ⟨Nat.le_of_ble_eq_true rfl, Nat.le_of_ble_eq_true rfl⟩ hk dX11_tell_50 (Nat.le_of_ble_eq_true rfl) (fun v S' hp => ?_)
      clear hw
      obtain ⟨rfl, hw⟩ := hp
      generalize S' = S16 at hw ⊢
      obtain ⟨e17, he17⟩ : ∃ y : Int32, y = (v1 + 1) := ⟨_, rfl⟩
      have hw := hw e17 he17
      refine G_iinc (pc := 53) C [(1, .int (e17)), (0, .ref (v0))] 1 (v := e17) dX11_tell_53 rfl (by rw [he17]; rfl) (by decide) rfl ?_
      clear he17
      refine G_goto (pc := 56) C 23 dX11_tell_56 (by decide) ?_
      exact G_sub [1, 0] rfl (hK23 _ _ _ _ hw)
set_option maxHeartbeats 4000000 in
set_option maxRecDepth 100000 in
theorem g_X11_tell_23 (C : Cx p s m args meth c z cX11_tell 2 RX11 (some .int) "tell")  {Q : Int32 → Hp → Prop} {v0 : Nat} {v1 : Int32} {S : Hp} {bc bs : Nat}   (hw : wp_X11_tell_23  Q v0 v1 S bc bs) : Go p l e { frames := 7, cells := 48, slots := 360, locals := 152 } s m args below meth c z 2 (MQ below (Qx z (wI Q)) args s 48 360 (own z)) (bc) (bs) 23 [(0, .ref (v0)), (1, .int (v1))] [] (S) :=
  Lp_go (G := fun y : Int32 × Hp × Nat × Nat => Go p l e { frames := 7, cells := 48, slots := 360, locals := 152 } s m args below meth c z 2 (MQ below (Qx z (wI Q)) args s 48 360 (own z)) (y.2.2.1) (y.2.2.2) 23 [(0, .ref (v0)), (1, .int (y.1))] [] (y.2.1)) (fun K y hK hB => gb_X11_tell_23 C  (fun w0 w1 w2 w3 h => hK (w0, w1, w2, w3) h) hB) hw
set_option maxHeartbeats 4000000 in
set_option maxRecDepth 100000 in
theorem c_X11_tell (l : Launch) (z : Zt) (a0 : Nat) (S : Hp) (Q : Int32 → Hp → Prop) (hw : wp_X11_tell a0 S Q) : Ct l z yX11_tell cX11_tell 2 (some .int) 7 152 48 360 [.ref (a0)] S (wI Q) := by
  refine Ct_of (by decide) (Nat.le_of_ble_eq_true rfl) ?_
  intro p e s m args below meth c C
  have C : Cx p s m args meth c z cX11_tell 2 RX11 (some .int) "tell" := C
  refine G_sub (lv' := [(0, .ref (a0))]) [0] rfl ?_
  refine G_aload_n (pc := 0) C 0 dX11_tell_0 rfl rfl ?_
  obtain ⟨hk, hw⟩ := hw
  refine gf_RX11_21 (pc := 1) C dX11_tell_1 hk ?_
  refine G_aload_n (pc := 4) C 0 dX11_tell_4 rfl rfl ?_
  obtain ⟨hk, hw⟩ := hw
  refine gf_RX11_28 (pc := 5) C dX11_tell_5 hk ?_
  obtain ⟨b1, hq, hw⟩ := hw
  rw [hq]
  obtain ⟨hk, hw⟩ := hw
  refine gf_RX11_76 (pc := 8) C dX11_tell_8 hk ?_
  obtain ⟨b2, hq, hw⟩ := hw
  rw [hq]
  obtain ⟨hk, hw⟩ := hw
  refine cl_RX11_79 (pc := 11) C (c_X7_firstFault l z (b2) ((gI S 34 b1 0)) S _ hw) ⟨Nat.le_of_ble_eq_true rfl, Nat.le_of_ble_eq_true rfl⟩ hk dX11_tell_11 (Nat.le_of_ble_eq_true rfl) (fun v S' hp => ?_)
  clear hw
  obtain ⟨e3, rfl, hw⟩ := hp
  generalize S' = S4 at hw ⊢
  refine G_iconst (pc := 14) C (v := -1) dX11_tell_14 (by decide) ?_
  refine G_icmp_eq (pc := 15) C 21 dX11_tell_15 (by decide) (fun hc => ?_) (fun hc => ?_)
  · have hw := hw.1 hc
    refine G_iconst (pc := 21) C (v := 0) dX11_tell_21 (by decide) ?_
    refine G_istore_n (pc := 22) C [(1, .int ((0 : Int32))), (0, .ref (a0))] dX11_tell_22 rfl (by decide) rfl ?_
    exact G_sub [1, 0] rfl (g_X11_tell_23 C  hw)
  · have hw := hw.2 hc
    refine G_bipush (pc := 18) C (v := -4) dX11_tell_18 (by decide) ?_
    exact G_iret (pc := 20) C rfl dX11_tell_20 ⟨_, rfl, hw⟩
/-! FirstParts.part(II)I -/
abbrev wp_X11_part (a0 : Nat) (x1 : Int32) (x2 : Int32) (S : Hp) (Q : Int32 → Prop) : Prop :=
  kd S a0 = 12 ∧ ∃ b1, (gR S 179 a0 0) = some b1 ∧ kd S b1 = 3 ∧ wp_X2_has (b1) (x1) S (fun e2 => ((e2 ≠ 0 → kd S a0 = 12 ∧ ∃ b4, (gR S 179 a0 0) = some b4 ∧ kd S b4 = 3 ∧ ∃ b5, (gR S 33 b4 0) = some b5 ∧ kd S b5 = 23 ∧ vp_in x1 (ln S b5) ∧ ∃ b6, (gR S 0 b5 (x1).toNatClampNeg) = some b6 ∧ ((x2 = 0 → kd S b6 = 6 ∧ ∃ b7, (gR S 81 b6 0) = some b7 ∧ kd S b7 = 20 ∧ Q (Int32.ofNat (ln S b7))) ∧ (¬ x2 = 0 → ((x2 = 1 → kd S b6 = 6 ∧ Q (gI S 82 b6 0)) ∧ (¬ x2 = 1 → ((x2 = 2 → kd S b6 = 6 ∧ Q (gI S 83 b6 0)) ∧ (¬ x2 = 2 → ((x2 = 3 → kd S b6 = 6 ∧ wp_X5_stripes (b6) S (fun e8 => Q e8)) ∧ (¬ x2 = 3 → Q (-3 : Int32)))))))))) ∧ (e2 = 0 → Q (-2 : Int32))))
set_option maxHeartbeats 4000000 in
set_option maxRecDepth 100000 in
theorem c_X11_part (l : Launch) (z : Zt) (a0 : Nat) (x1 : Int32) (x2 : Int32) (S : Hp) (Q : Int32 → Prop) (hw : wp_X11_part a0 x1 x2 S Q) : Ct l z yX11_part cX11_part 4 (some .int) 2 43 0 0 [.ref (a0), .int (x1), .int (x2)] S (pI S Q) := by
  refine Ct_of (by decide) (Nat.le_of_ble_eq_true rfl) ?_
  intro p e s m args below meth c C
  have C : Cx p s m args meth c z cX11_part 4 RX11 (some .int) "part" := C
  refine G_sub (lv' := [(0, .ref (a0)), (1, .int (x1)), (2, .int (x2))]) [0, 1, 2] rfl ?_
  refine G_aload_n (pc := 0) C 0 dX11_part_0 rfl rfl ?_
  obtain ⟨hk, hw⟩ := hw
  refine gf_RX11_28 (pc := 1) C dX11_part_1 hk ?_
  refine G_iload_n (pc := 4) C 1 dX11_part_4 rfl rfl ?_
  obtain ⟨b1, hq, hw⟩ := hw
  rw [hq]
  obtain ⟨hk, hw⟩ := hw
  refine cl_RX11_97 (pc := 5) C (c_X2_has l z (b1) (x1) S _ hw) ⟨Nat.le_of_ble_eq_true rfl, Nat.le_of_ble_eq_true rfl⟩ hk dX11_part_5 (Nat.le_of_ble_eq_true rfl) (fun v S' hp => ?_)
  clear hw
  obtain ⟨hS, e2, rfl, hw⟩ := hp
  subst S'
  refine G_if_ne (pc := 8) C 14 dX11_part_8 (by decide) (fun hc => ?_) (fun hc => ?_)
  · have hw := hw.1 hc
    refine G_aload_n (pc := 14) C 0 dX11_part_14 rfl rfl ?_
    obtain ⟨hk, hw⟩ := hw
    refine gf_RX11_28 (pc := 15) C dX11_part_15 hk ?_
    obtain ⟨b4, hq, hw⟩ := hw
    rw [hq]
    obtain ⟨hk, hw⟩ := hw
    refine gf_RX11_100 (pc := 18) C dX11_part_18 hk ?_
    refine G_iload_n (pc := 21) C 1 dX11_part_21 rfl rfl ?_
    obtain ⟨b5, hq, hw⟩ := hw
    rw [hq]
    obtain ⟨hk, hi, hw⟩ := hw
    refine G_aald (pc := 22) C 3 rfl (by decide) rfl hk hi dX11_part_22 ?_
    obtain ⟨b6, hq, hw⟩ := hw
    rw [hq]
    refine G_astore_n (pc := 23) C [(3, .ref (b6)), (0, .ref (a0)), (1, .int (x1)), (2, .int (x2))] dX11_part_23 rfl (by decide) rfl ?_
    refine G_iload_n (pc := 24) C 3 dX11_part_24 rfl rfl ?_
    by_cases hc0 : x2 = 0
    · have hw := hw.1 hc0
      refine G_tableIn (pc := 25) C 56 dX11_part_25 (by rw [hc0]; decide) (by rw [hc0]; decide) (off := 31) (by rw [hc0]; rfl) (by decide) ?_
      refine G_aload_n (pc := 56) C 0 dX11_part_56 rfl rfl ?_
      obtain ⟨hk, hw⟩ := hw
      refine gf_RX11_104 (pc := 57) C dX11_part_57 hk ?_
      obtain ⟨b7, hq, hw⟩ := hw
      rw [hq]
      obtain ⟨hk, hw⟩ := hw
      refine G_alenI (pc := 60) C hk dX11_part_60 ?_
      exact G_iret (pc := 61) C rfl dX11_part_61 ⟨rfl, _, rfl, hw⟩
    have hw := hw.2 hc0
    by_cases hc1 : x2 = 1
    · have hw := hw.1 hc1
      refine G_tableIn (pc := 25) C 62 dX11_part_25 (by rw [hc1]; decide) (by rw [hc1]; decide) (off := 37) (by rw [hc1]; rfl) (by decide) ?_
      refine G_aload_n (pc := 62) C 0 dX11_part_62 rfl rfl ?_
      obtain ⟨hk, hw⟩ := hw
      refine gf_RX11_110 (pc := 63) C dX11_part_63 hk ?_
      exact G_iret (pc := 66) C rfl dX11_part_66 ⟨rfl, _, rfl, hw⟩
    have hw := hw.2 hc1
    by_cases hc2 : x2 = 2
    · have hw := hw.1 hc2
      refine G_tableIn (pc := 25) C 67 dX11_part_25 (by rw [hc2]; decide) (by rw [hc2]; decide) (off := 42) (by rw [hc2]; rfl) (by decide) ?_
      refine G_aload_n (pc := 67) C 0 dX11_part_67 rfl rfl ?_
      obtain ⟨hk, hw⟩ := hw
      refine gf_RX11_113 (pc := 68) C dX11_part_68 hk ?_
      exact G_iret (pc := 71) C rfl dX11_part_71 ⟨rfl, _, rfl, hw⟩
    have hw := hw.2 hc2
    by_cases hc3 : x2 = 3
    · have hw := hw.1 hc3
      refine G_tableIn (pc := 25) C 72 dX11_part_25 (by rw [hc3]; decide) (by rw [hc3]; decide) (off := 47) (by rw [hc3]; rfl) (by decide) ?_
      refine G_aload_n (pc := 72) C 0 dX11_part_72 rfl rfl ?_
      obtain ⟨hk, hw⟩ := hw
      refine cl_RX11_116 (pc := 73) C (c_X5_stripes l z (b6) S _ hw) ⟨Nat.le_of_ble_eq_true rfl, Nat.le_of_ble_eq_true rfl⟩ hk dX11_part_73 (Nat.le_of_ble_eq_true rfl) (fun v S' hp => ?_)
      clear hw
      obtain ⟨hS, e8, rfl, hw⟩ := hp
      subst S'
      exact G_iret (pc := 76) C rfl dX11_part_76 ⟨rfl, _, rfl, hw⟩
    have hw := hw.2 hc3
    refine G_tableOut (pc := 25) C 77 dX11_part_25 (by have k0 := ne_ti hc0 (by decide : (0 : Int32).toInt = 0); have k1 := ne_ti hc1 (by decide : (1 : Int32).toInt = 1); have k2 := ne_ti hc2 (by decide : (2 : Int32).toInt = 2); have k3 := ne_ti hc3 (by decide : (3 : Int32).toInt = 3); omega) (by decide) ?_
    refine G_bipush (pc := 77) C (v := -3) dX11_part_77 (by decide) ?_
    exact G_iret (pc := 79) C rfl dX11_part_79 ⟨rfl, _, rfl, hw⟩
  · have hw := hw.2 hc
    refine G_bipush (pc := 11) C (v := -2) dX11_part_11 (by decide) ?_
    exact G_iret (pc := 13) C rfl dX11_part_13 ⟨rfl, _, rfl, hw⟩
/-! FirstParts.letter(II)I -/
abbrev wp_X11_letter_27  (Q : Int32 → Prop)  (S : Hp) : Prop :=
  Q (-2 : Int32)
abbrev wp_X11_letter (a0 : Nat) (x1 : Int32) (x2 : Int32) (S : Hp) (Q : Int32 → Prop) : Prop :=
  kd S a0 = 12 ∧ ∃ b1, (gR S 179 a0 0) = some b1 ∧ kd S b1 = 3 ∧ wp_X2_has (b1) (x1) S (fun e2 => ((e2 = 0 → wp_X11_letter_27 Q (S)) ∧ (¬ e2 = 0 → kd S a0 = 12 ∧ ∃ b4, (gR S 179 a0 0) = some b4 ∧ kd S b4 = 3 ∧ ∃ b5, (gR S 33 b4 0) = some b5 ∧ kd S b5 = 23 ∧ vp_in x1 (ln S b5) ∧ ∃ b6, (gR S 0 b5 (x1).toNatClampNeg) = some b6 ∧ kd S b6 = 6 ∧ wp_X5_hasLetter (b6) (x2) S (fun e7 => ((e7 ≠ 0 → kd S a0 = 12 ∧ ∃ b9, (gR S 179 a0 0) = some b9 ∧ kd S b9 = 3 ∧ ∃ b10, (gR S 33 b9 0) = some b10 ∧ kd S b10 = 23 ∧ vp_in x1 (ln S b10) ∧ ∃ b11, (gR S 0 b10 (x1).toNatClampNeg) = some b11 ∧ kd S b11 = 6 ∧ ∃ b12, (gR S 81 b11 0) = some b12 ∧ kd S b12 = 20 ∧ vp_in x2 (ln S b12) ∧ Q (gI S 0 b12 (x2).toNatClampNeg)) ∧ (e7 = 0 → wp_X11_letter_27 Q (S)))))))
set_option maxHeartbeats 4000000 in
set_option maxRecDepth 100000 in
theorem g_X11_letter_27 (C : Cx p s m args meth c z cX11_letter 3 RX11 (some .int) "letter")  {Q : Int32 → Prop}  {S : Hp}   (hw : wp_X11_letter_27  Q  S) : Go p l e { frames := 2, cells := 0, slots := 0, locals := 43 } s m args below meth c z 3 (MQ below (Qx z (pI S Q)) args s 0 0 (own z)) (0) (0) 27 [] [] (S) := by
  refine G_bipush (pc := 27) C (v := -2) dX11_letter_27 (by decide) ?_
  exact G_iret (pc := 29) C rfl dX11_letter_29 ⟨rfl, _, rfl, hw⟩
set_option maxHeartbeats 4000000 in
set_option maxRecDepth 100000 in
theorem c_X11_letter (l : Launch) (z : Zt) (a0 : Nat) (x1 : Int32) (x2 : Int32) (S : Hp) (Q : Int32 → Prop) (hw : wp_X11_letter a0 x1 x2 S Q) : Ct l z yX11_letter cX11_letter 3 (some .int) 2 43 0 0 [.ref (a0), .int (x1), .int (x2)] S (pI S Q) := by
  refine Ct_of (by decide) (Nat.le_of_ble_eq_true rfl) ?_
  intro p e s m args below meth c C
  have C : Cx p s m args meth c z cX11_letter 3 RX11 (some .int) "letter" := C
  refine G_sub (lv' := [(0, .ref (a0)), (1, .int (x1)), (2, .int (x2))]) [0, 1, 2] rfl ?_
  refine G_aload_n (pc := 0) C 0 dX11_letter_0 rfl rfl ?_
  obtain ⟨hk, hw⟩ := hw
  refine gf_RX11_28 (pc := 1) C dX11_letter_1 hk ?_
  refine G_iload_n (pc := 4) C 1 dX11_letter_4 rfl rfl ?_
  obtain ⟨b1, hq, hw⟩ := hw
  rw [hq]
  obtain ⟨hk, hw⟩ := hw
  refine cl_RX11_97 (pc := 5) C (c_X2_has l z (b1) (x1) S _ hw) ⟨Nat.le_of_ble_eq_true rfl, Nat.le_of_ble_eq_true rfl⟩ hk dX11_letter_5 (Nat.le_of_ble_eq_true rfl) (fun v S' hp => ?_)
  clear hw
  obtain ⟨hS, e2, rfl, hw⟩ := hp
  subst S'
  refine G_if_eq (pc := 8) C 27 dX11_letter_8 (by decide) (fun hc => ?_) (fun hc => ?_)
  · have hw := hw.1 hc
    exact G_sub [] rfl (g_X11_letter_27 C  hw)
  · have hw := hw.2 hc
    refine G_aload_n (pc := 11) C 0 dX11_letter_11 rfl rfl ?_
    obtain ⟨hk, hw⟩ := hw
    refine gf_RX11_28 (pc := 12) C dX11_letter_12 hk ?_
    obtain ⟨b4, hq, hw⟩ := hw
    rw [hq]
    obtain ⟨hk, hw⟩ := hw
    refine gf_RX11_100 (pc := 15) C dX11_letter_15 hk ?_
    refine G_iload_n (pc := 18) C 1 dX11_letter_18 rfl rfl ?_
    obtain ⟨b5, hq, hw⟩ := hw
    rw [hq]
    obtain ⟨hk, hi, hw⟩ := hw
    refine G_aald (pc := 19) C 3 rfl (by decide) rfl hk hi dX11_letter_19 ?_
    refine G_iload_n (pc := 20) C 2 dX11_letter_20 rfl rfl ?_
    obtain ⟨b6, hq, hw⟩ := hw
    rw [hq]
    obtain ⟨hk, hw⟩ := hw
    refine cl_RX11_120 (pc := 21) C (c_X5_hasLetter l z (b6) (x2) S _ hw) ⟨Nat.le_of_ble_eq_true rfl, Nat.le_of_ble_eq_true rfl⟩ hk dX11_letter_21 (Nat.le_of_ble_eq_true rfl) (fun v S' hp => ?_)
    clear hw
    obtain ⟨hS, e7, rfl, hw⟩ := hp
    subst S'
    refine G_if_ne (pc := 24) C 30 dX11_letter_24 (by decide) (fun hc => ?_) (fun hc => ?_)
    · have hw := hw.1 hc
      refine G_aload_n (pc := 30) C 0 dX11_letter_30 rfl rfl ?_
      obtain ⟨hk, hw⟩ := hw
      refine gf_RX11_28 (pc := 31) C dX11_letter_31 hk ?_
      obtain ⟨b9, hq, hw⟩ := hw
      rw [hq]
      obtain ⟨hk, hw⟩ := hw
      refine gf_RX11_100 (pc := 34) C dX11_letter_34 hk ?_
      refine G_iload_n (pc := 37) C 1 dX11_letter_37 rfl rfl ?_
      obtain ⟨b10, hq, hw⟩ := hw
      rw [hq]
      obtain ⟨hk, hi, hw⟩ := hw
      refine G_aald (pc := 38) C 3 rfl (by decide) rfl hk hi dX11_letter_38 ?_
      obtain ⟨b11, hq, hw⟩ := hw
      rw [hq]
      obtain ⟨hk, hw⟩ := hw
      refine gf_RX11_104 (pc := 39) C dX11_letter_39 hk ?_
      refine G_iload_n (pc := 42) C 2 dX11_letter_42 rfl rfl ?_
      obtain ⟨b12, hq, hw⟩ := hw
      rw [hq]
      obtain ⟨hk, hi, hw⟩ := hw
      refine G_iald (pc := 43) C hk hi dX11_letter_43 ?_
      exact G_iret (pc := 44) C rfl dX11_letter_44 ⟨rfl, _, rfl, hw⟩
    · have hw := hw.2 hc
      exact G_sub [] rfl (g_X11_letter_27 C  hw)
/-! FirstParts.packets(I)I -/
abbrev wp_X11_packets (a0 : Nat) (x1 : Int32) (S : Hp) (Q : Int32 → Hp → Prop) : Prop :=
  wp_X11_within (x1) ((1 : Int32)) ((8 : Int32)) S (fun e1 => ((e1 ≠ 0 → kd S a0 = 12 ∧ kd S a0 = 12 ∧ kd S a0 = 12 ∧ ∃ b3, (gR S 179 a0 0) = some b3 ∧ ∃ b4, (gR S 183 a0 0) = some b4 ∧ ∃ b5, (gR S 180 a0 0) = some b5 ∧ kd S b5 = 10 ∧ wp_X9_keep (b5) (b3) (b4) (none) S (fun S7 => kd S7 a0 = 12 ∧ ∃ b8, (gR S7 179 a0 0) = some b8 ∧ kd S7 b8 = 3 ∧ ∀ e9 : Int32, e9 = (gI S7 35 b8 0) → kd S7 a0 = 12 ∧ ∃ b10, (gR S7 179 a0 0) = some b10 ∧ kd S7 b10 = 3 ∧ ∀ S11 : Hp, S11 = sI S7 35 b10 0 x1 → Q e9 S11)) ∧ (e1 = 0 → Q (-3 : Int32) S)))
set_option maxHeartbeats 4000000 in
set_option maxRecDepth 100000 in
theorem c_X11_packets (l : Launch) (z : Zt) (a0 : Nat) (x1 : Int32) (S : Hp) (Q : Int32 → Hp → Prop) (hw : wp_X11_packets a0 x1 S Q) : Ct l z yX11_packets cX11_packets 3 (some .int) 3 78 0 0 [.ref (a0), .int (x1)] S (wI Q) := by
  refine Ct_of (by decide) (Nat.le_of_ble_eq_true rfl) ?_
  intro p e s m args below meth c C
  have C : Cx p s m args meth c z cX11_packets 3 RX11 (some .int) "packets" := C
  refine G_sub (lv' := [(0, .ref (a0)), (1, .int (x1))]) [0, 1] rfl ?_
  refine G_iload_n (pc := 0) C 1 dX11_packets_0 rfl rfl ?_
  refine G_iconst (pc := 1) C (v := 1) dX11_packets_1 (by decide) ?_
  refine G_bipush (pc := 2) C (v := 8) dX11_packets_2 (by decide) ?_
  refine cl_RX11_64 (pc := 4) C (c_X11_within l z (x1) ((1 : Int32)) ((8 : Int32)) S _ hw) ⟨Nat.le_of_ble_eq_true rfl, Nat.le_of_ble_eq_true rfl⟩ dX11_packets_4 (Nat.le_of_ble_eq_true rfl) (fun v S' hp => ?_)
  clear hw
  obtain ⟨hS, e1, rfl, hw⟩ := hp
  subst S'
  refine G_if_ne (pc := 7) C 13 dX11_packets_7 (by decide) (fun hc => ?_) (fun hc => ?_)
  · have hw := hw.1 hc
    refine G_aload_n (pc := 13) C 0 dX11_packets_13 rfl rfl ?_
    obtain ⟨hk, hw⟩ := hw
    refine gf_RX11_60 (pc := 14) C dX11_packets_14 hk ?_
    refine G_aload_n (pc := 17) C 0 dX11_packets_17 rfl rfl ?_
    obtain ⟨hk, hw⟩ := hw
    refine gf_RX11_28 (pc := 18) C dX11_packets_18 hk ?_
    refine G_aload_n (pc := 21) C 0 dX11_packets_21 rfl rfl ?_
    obtain ⟨hk, hw⟩ := hw
    refine gf_RX11_51 (pc := 22) C dX11_packets_22 hk ?_
    refine G_nullQ (pc := 25) C dX11_packets_25 ?_
    obtain ⟨b3, hq, hw⟩ := hw
    rw [hq]
    obtain ⟨b4, hq, hw⟩ := hw
    rw [hq]
    obtain ⟨b5, hq, hw⟩ := hw
    rw [hq]
    obtain ⟨hk, hw⟩ := hw
    refine cl_RX11_123 (pc := 26) C (c_X9_keep l z (b5) (b3) (b4) (none) S _ hw) ⟨Nat.le_of_ble_eq_true rfl, Nat.le_of_ble_eq_true rfl⟩ hk dX11_packets_26 (Nat.le_of_ble_eq_true rfl) (fun v S' hp => ?_)
    clear hw
    obtain ⟨rfl, hw⟩ := hp
    generalize S' = S7 at hw ⊢
    refine G_aload_n (pc := 29) C 0 dX11_packets_29 rfl rfl ?_
    obtain ⟨hk, hw⟩ := hw
    refine gf_RX11_28 (pc := 30) C dX11_packets_30 hk ?_
    obtain ⟨b8, hq, hw⟩ := hw
    rw [hq]
    obtain ⟨hk, hw⟩ := hw
    refine gf_RX11_127 (pc := 33) C dX11_packets_33 hk ?_
    refine G_topi (fun e9 he9 => ?_)
    have hw := hw e9 he9
    clear he9
    refine G_istore_n (pc := 36) C [(2, .int (e9)), (0, .ref (a0)), (1, .int (x1))] dX11_packets_36 rfl (by decide) rfl ?_
    refine G_aload_n (pc := 37) C 1 dX11_packets_37 rfl rfl ?_
    obtain ⟨hk, hw⟩ := hw
    refine gf_RX11_28 (pc := 38) C dX11_packets_38 hk ?_
    refine G_iload_n (pc := 41) C 2 dX11_packets_41 rfl rfl ?_
    obtain ⟨b10, hq, hw⟩ := hw
    rw [hq]
    obtain ⟨hk, hw⟩ := hw
    refine pf_RX11_127 (pc := 42) C dX11_packets_42 hk ?_
    obtain ⟨S11, hS11⟩ : ∃ y : Hp, y = sI S7 35 b10 0 x1 := ⟨_, rfl⟩
    have hw := hw S11 hS11
    rw [← hS11]
    clear hS11
    refine G_iload_n (pc := 45) C 0 dX11_packets_45 rfl rfl ?_
    exact G_iret (pc := 46) C rfl dX11_packets_46 ⟨_, rfl, hw⟩
  · have hw := hw.2 hc
    refine G_bipush (pc := 10) C (v := -3) dX11_packets_10 (by decide) ?_
    exact G_iret (pc := 12) C rfl dX11_packets_12 ⟨_, rfl, hw⟩
/-! FirstParts.room(I)I -/
abbrev wp_X11_room (a0 : Nat) (x1 : Int32) (S : Hp) (Q : Int32 → Hp → Prop) : Prop :=
  wp_X11_within (x1) ((1 : Int32)) ((40 : Int32)) S (fun e1 => ((e1 ≠ 0 → kd S a0 = 12 ∧ kd S a0 = 12 ∧ kd S a0 = 12 ∧ ∃ b3, (gR S 179 a0 0) = some b3 ∧ ∃ b4, (gR S 183 a0 0) = some b4 ∧ ∃ b5, (gR S 180 a0 0) = some b5 ∧ kd S b5 = 10 ∧ wp_X9_keep (b5) (b3) (b4) (none) S (fun S7 => kd S7 a0 = 12 ∧ ∃ b8, (gR S7 179 a0 0) = some b8 ∧ kd S7 b8 = 3 ∧ ∀ e9 : Int32, e9 = (gI S7 36 b8 0) → kd S7 a0 = 12 ∧ ∃ b10, (gR S7 179 a0 0) = some b10 ∧ kd S7 b10 = 3 ∧ ∀ S11 : Hp, S11 = sI S7 36 b10 0 x1 → Q e9 S11)) ∧ (e1 = 0 → Q (-3 : Int32) S)))
set_option maxHeartbeats 4000000 in
set_option maxRecDepth 100000 in
theorem c_X11_room (l : Launch) (z : Zt) (a0 : Nat) (x1 : Int32) (S : Hp) (Q : Int32 → Hp → Prop) (hw : wp_X11_room a0 x1 S Q) : Ct l z yX11_room cX11_room 3 (some .int) 3 78 0 0 [.ref (a0), .int (x1)] S (wI Q) := by
  refine Ct_of (by decide) (Nat.le_of_ble_eq_true rfl) ?_
  intro p e s m args below meth c C
  have C : Cx p s m args meth c z cX11_room 3 RX11 (some .int) "room" := C
  refine G_sub (lv' := [(0, .ref (a0)), (1, .int (x1))]) [0, 1] rfl ?_
  refine G_iload_n (pc := 0) C 1 dX11_room_0 rfl rfl ?_
  refine G_iconst (pc := 1) C (v := 1) dX11_room_1 (by decide) ?_
  refine G_bipush (pc := 2) C (v := 40) dX11_room_2 (by decide) ?_
  refine cl_RX11_64 (pc := 4) C (c_X11_within l z (x1) ((1 : Int32)) ((40 : Int32)) S _ hw) ⟨Nat.le_of_ble_eq_true rfl, Nat.le_of_ble_eq_true rfl⟩ dX11_room_4 (Nat.le_of_ble_eq_true rfl) (fun v S' hp => ?_)
  clear hw
  obtain ⟨hS, e1, rfl, hw⟩ := hp
  subst S'
  refine G_if_ne (pc := 7) C 13 dX11_room_7 (by decide) (fun hc => ?_) (fun hc => ?_)
  · have hw := hw.1 hc
    refine G_aload_n (pc := 13) C 0 dX11_room_13 rfl rfl ?_
    obtain ⟨hk, hw⟩ := hw
    refine gf_RX11_60 (pc := 14) C dX11_room_14 hk ?_
    refine G_aload_n (pc := 17) C 0 dX11_room_17 rfl rfl ?_
    obtain ⟨hk, hw⟩ := hw
    refine gf_RX11_28 (pc := 18) C dX11_room_18 hk ?_
    refine G_aload_n (pc := 21) C 0 dX11_room_21 rfl rfl ?_
    obtain ⟨hk, hw⟩ := hw
    refine gf_RX11_51 (pc := 22) C dX11_room_22 hk ?_
    refine G_nullQ (pc := 25) C dX11_room_25 ?_
    obtain ⟨b3, hq, hw⟩ := hw
    rw [hq]
    obtain ⟨b4, hq, hw⟩ := hw
    rw [hq]
    obtain ⟨b5, hq, hw⟩ := hw
    rw [hq]
    obtain ⟨hk, hw⟩ := hw
    refine cl_RX11_123 (pc := 26) C (c_X9_keep l z (b5) (b3) (b4) (none) S _ hw) ⟨Nat.le_of_ble_eq_true rfl, Nat.le_of_ble_eq_true rfl⟩ hk dX11_room_26 (Nat.le_of_ble_eq_true rfl) (fun v S' hp => ?_)
    clear hw
    obtain ⟨rfl, hw⟩ := hp
    generalize S' = S7 at hw ⊢
    refine G_aload_n (pc := 29) C 0 dX11_room_29 rfl rfl ?_
    obtain ⟨hk, hw⟩ := hw
    refine gf_RX11_28 (pc := 30) C dX11_room_30 hk ?_
    obtain ⟨b8, hq, hw⟩ := hw
    rw [hq]
    obtain ⟨hk, hw⟩ := hw
    refine gf_RX11_130 (pc := 33) C dX11_room_33 hk ?_
    refine G_topi (fun e9 he9 => ?_)
    have hw := hw e9 he9
    clear he9
    refine G_istore_n (pc := 36) C [(2, .int (e9)), (0, .ref (a0)), (1, .int (x1))] dX11_room_36 rfl (by decide) rfl ?_
    refine G_aload_n (pc := 37) C 1 dX11_room_37 rfl rfl ?_
    obtain ⟨hk, hw⟩ := hw
    refine gf_RX11_28 (pc := 38) C dX11_room_38 hk ?_
    refine G_iload_n (pc := 41) C 2 dX11_room_41 rfl rfl ?_
    obtain ⟨b10, hq, hw⟩ := hw
    rw [hq]
    obtain ⟨hk, hw⟩ := hw
    refine pf_RX11_130 (pc := 42) C dX11_room_42 hk ?_
    obtain ⟨S11, hS11⟩ : ∃ y : Hp, y = sI S7 36 b10 0 x1 := ⟨_, rfl⟩
    have hw := hw S11 hS11
    rw [← hS11]
    clear hS11
    refine G_iload_n (pc := 45) C 0 dX11_room_45 rfl rfl ?_
    exact G_iret (pc := 46) C rfl dX11_room_46 ⟨_, rfl, hw⟩
  · have hw := hw.2 hc
    refine G_bipush (pc := 10) C (v := -3) dX11_room_10 (by decide) ?_
    exact G_iret (pc := 12) C rfl dX11_room_12 ⟨_, rfl, hw⟩
/-! FirstParts.need(II)I -/
abbrev wp_X11_need (a0 : Nat) (x1 : Int32) (x2 : Int32) (S : Hp) (Q : Int32 → Hp → Prop) : Prop :=
  kd S a0 = 12 ∧ ∃ b1, (gR S 179 a0 0) = some b1 ∧ kd S b1 = 3 ∧ wp_X2_has (b1) (x1) S (fun e2 => ((e2 ≠ 0 → wp_X11_within (x2) ((1 : Int32)) ((8 : Int32)) S (fun e4 => ((e4 ≠ 0 → kd S a0 = 12 ∧ kd S a0 = 12 ∧ kd S a0 = 12 ∧ ∃ b6, (gR S 179 a0 0) = some b6 ∧ ∃ b7, (gR S 183 a0 0) = some b7 ∧ ∃ b8, (gR S 180 a0 0) = some b8 ∧ kd S b8 = 10 ∧ wp_X9_keep (b8) (b6) (b7) (none) S (fun S10 => kd S10 a0 = 12 ∧ ∃ b11, (gR S10 179 a0 0) = some b11 ∧ kd S10 b11 = 3 ∧ ∃ b12, (gR S10 33 b11 0) = some b12 ∧ kd S10 b12 = 23 ∧ vp_in x1 (ln S10 b12) ∧ ∃ b13, (gR S10 0 b12 (x1).toNatClampNeg) = some b13 ∧ kd S10 a0 = 12 ∧ ∃ b14, (gR S10 179 a0 0) = some b14 ∧ kd S10 b14 = 3 ∧ 1 ≤ 1 ∧ 3 ≤ 3 ∧ ∀ n15 : Nat, n15 = sz S10 → ∀ S16 : Hp, S16 = nw S10 6 (0) → kd S16 b13 = 6 ∧ kd S16 b13 = 6 ∧ ∃ b17, (gR S16 81 b13 0) = some b17 ∧ ∃ b20, (gR S10 33 b14 0) = some b20 ∧ wp_X5_init (n15) (b17) (x2) ((gI S16 83 b13 0)) S16 (fun S19 => kd S19 b20 = 23 ∧ kd S19 n15 = 6 ∧ vp_in x1 (ln S19 b20) ∧ ∀ S21 : Hp, S21 = sR S19 0 b20 (x1).toNatClampNeg (some n15) → kd S21 b13 = 6 ∧ Q (gI S21 82 b13 0) S21))) ∧ (e4 = 0 → Q (-3 : Int32) S)))) ∧ (e2 = 0 → Q (-2 : Int32) S)))
set_option maxHeartbeats 4000000 in
set_option maxRecDepth 100000 in
theorem c_X11_need (l : Launch) (z : Zt) (a0 : Nat) (x1 : Int32) (x2 : Int32) (S : Hp) (Q : Int32 → Hp → Prop) (hw : wp_X11_need a0 x1 x2 S Q) : Ct l z yX11_need cX11_need 4 (some .int) 3 78 1 3 [.ref (a0), .int (x1), .int (x2)] S (wI Q) := by
  refine Ct_of (by decide) (Nat.le_of_ble_eq_true rfl) ?_
  intro p e s m args below meth c C
  have C : Cx p s m args meth c z cX11_need 4 RX11 (some .int) "need" := C
  refine G_sub (lv' := [(0, .ref (a0)), (1, .int (x1)), (2, .int (x2))]) [0, 1, 2] rfl ?_
  refine G_aload_n (pc := 0) C 0 dX11_need_0 rfl rfl ?_
  obtain ⟨hk, hw⟩ := hw
  refine gf_RX11_28 (pc := 1) C dX11_need_1 hk ?_
  refine G_iload_n (pc := 4) C 1 dX11_need_4 rfl rfl ?_
  obtain ⟨b1, hq, hw⟩ := hw
  rw [hq]
  obtain ⟨hk, hw⟩ := hw
  refine cl_RX11_97 (pc := 5) C (c_X2_has l z (b1) (x1) S _ hw) ⟨Nat.le_of_ble_eq_true rfl, Nat.le_of_ble_eq_true rfl⟩ hk dX11_need_5 (Nat.le_of_ble_eq_true rfl) (fun v S' hp => ?_)
  clear hw
  obtain ⟨hS, e2, rfl, hw⟩ := hp
  subst S'
  refine G_if_ne (pc := 8) C 14 dX11_need_8 (by decide) (fun hc => ?_) (fun hc => ?_)
  · have hw := hw.1 hc
    refine G_iload_n (pc := 14) C 2 dX11_need_14 rfl rfl ?_
    refine G_iconst (pc := 15) C (v := 1) dX11_need_15 (by decide) ?_
    refine G_bipush (pc := 16) C (v := 8) dX11_need_16 (by decide) ?_
    refine cl_RX11_64 (pc := 18) C (c_X11_within l z (x2) ((1 : Int32)) ((8 : Int32)) S _ hw) ⟨Nat.le_of_ble_eq_true rfl, Nat.le_of_ble_eq_true rfl⟩ dX11_need_18 (Nat.le_of_ble_eq_true rfl) (fun v S' hp => ?_)
    clear hw
    obtain ⟨hS, e4, rfl, hw⟩ := hp
    subst S'
    refine G_if_ne (pc := 21) C 27 dX11_need_21 (by decide) (fun hc => ?_) (fun hc => ?_)
    · have hw := hw.1 hc
      refine G_aload_n (pc := 27) C 0 dX11_need_27 rfl rfl ?_
      obtain ⟨hk, hw⟩ := hw
      refine gf_RX11_60 (pc := 28) C dX11_need_28 hk ?_
      refine G_aload_n (pc := 31) C 0 dX11_need_31 rfl rfl ?_
      obtain ⟨hk, hw⟩ := hw
      refine gf_RX11_28 (pc := 32) C dX11_need_32 hk ?_
      refine G_aload_n (pc := 35) C 0 dX11_need_35 rfl rfl ?_
      obtain ⟨hk, hw⟩ := hw
      refine gf_RX11_51 (pc := 36) C dX11_need_36 hk ?_
      refine G_nullQ (pc := 39) C dX11_need_39 ?_
      obtain ⟨b6, hq, hw⟩ := hw
      rw [hq]
      obtain ⟨b7, hq, hw⟩ := hw
      rw [hq]
      obtain ⟨b8, hq, hw⟩ := hw
      rw [hq]
      obtain ⟨hk, hw⟩ := hw
      refine cl_RX11_123 (pc := 40) C (c_X9_keep l z (b8) (b6) (b7) (none) S _ hw) ⟨Nat.le_of_ble_eq_true rfl, Nat.le_of_ble_eq_true rfl⟩ hk dX11_need_40 (Nat.le_of_ble_eq_true rfl) (fun v S' hp => ?_)
      clear hw
      obtain ⟨rfl, hw⟩ := hp
      generalize S' = S10 at hw ⊢
      refine G_aload_n (pc := 43) C 0 dX11_need_43 rfl rfl ?_
      obtain ⟨hk, hw⟩ := hw
      refine gf_RX11_28 (pc := 44) C dX11_need_44 hk ?_
      obtain ⟨b11, hq, hw⟩ := hw
      rw [hq]
      obtain ⟨hk, hw⟩ := hw
      refine gf_RX11_100 (pc := 47) C dX11_need_47 hk ?_
      refine G_iload_n (pc := 50) C 1 dX11_need_50 rfl rfl ?_
      obtain ⟨b12, hq, hw⟩ := hw
      rw [hq]
      obtain ⟨hk, hi, hw⟩ := hw
      refine G_aald (pc := 51) C 3 rfl (by decide) rfl hk hi dX11_need_51 ?_
      obtain ⟨b13, hq, hw⟩ := hw
      rw [hq]
      refine G_astore_n (pc := 52) C [(3, .ref (b13)), (0, .ref (a0)), (1, .int (x1)), (2, .int (x2))] dX11_need_52 rfl (by decide) rfl ?_
      refine G_aload_n (pc := 53) C 1 dX11_need_53 rfl rfl ?_
      obtain ⟨hk, hw⟩ := hw
      refine gf_RX11_28 (pc := 54) C dX11_need_54 hk ?_
      obtain ⟨b14, hq, hw⟩ := hw
      rw [hq]
      obtain ⟨hk, hw⟩ := hw
      refine gf_RX11_100 (pc := 57) C dX11_need_57 hk ?_
      refine G_iload_n (pc := 60) C 2 dX11_need_60 rfl rfl ?_
      obtain ⟨hb1, hb2, hw⟩ := hw
      refine G_less (bc' := (1 - 1) + 1) (bs' := (3 - 3) + 3) (by omega) (by omega) ?_
      refine nw_RX11_105 (pc := 61) C dX11_need_61 ?_
      obtain ⟨n15, hn15⟩ : ∃ y : Nat, y = sz S10 := ⟨_, rfl⟩
      obtain ⟨S16, hS16⟩ : ∃ y : Hp, y = nw S10 6 (0) := ⟨_, rfl⟩
      have hw := hw n15 hn15 S16 hS16
      rw [← hn15]
      rw [← hS16]
      clear hn15 hS16
      refine G_dup (pc := 64) C dX11_need_64 rfl ?_
      refine G_aload_n (pc := 65) C 0 dX11_need_65 rfl rfl ?_
      obtain ⟨hk, hw⟩ := hw
      refine gf_RX11_104 (pc := 66) C dX11_need_66 hk ?_
      refine G_iload_n (pc := 69) C 3 dX11_need_69 rfl rfl ?_
      refine G_aload_n (pc := 70) C 0 dX11_need_70 rfl rfl ?_
      obtain ⟨hk, hw⟩ := hw
      refine gf_RX11_113 (pc := 71) C dX11_need_71 hk ?_
      obtain ⟨b17, hq, hw⟩ := hw
      rw [hq]
      obtain ⟨b20, hq, hw⟩ := hw
      rw [hq]
      refine cl_RX11_133 (pc := 74) C (c_X5_init l z (n15) (b17) (x2) ((gI S16 83 b13 0)) S16 _ hw) ⟨Nat.le_of_ble_eq_true rfl, Nat.le_of_ble_eq_true rfl⟩ dX11_need_74 (Nat.le_of_ble_eq_true rfl) (fun v S' hp => ?_)
      clear hw
      obtain ⟨rfl, hw⟩ := hp
      generalize S' = S19 at hw ⊢
      obtain ⟨hk, hv, hi, hw⟩ := hw
      refine G_aast (pc := 77) C 3 5 3 rfl (by decide) rfl rfl hk hv hi dX11_need_77 ?_
      obtain ⟨S21, hS21⟩ : ∃ y : Hp, y = sR S19 0 b20 (x1).toNatClampNeg (some n15) := ⟨_, rfl⟩
      have hw := hw S21 hS21
      rw [← hS21]
      clear hS21
      refine G_aload_n (pc := 78) C 0 dX11_need_78 rfl rfl ?_
      obtain ⟨hk, hw⟩ := hw
      refine gf_RX11_110 (pc := 79) C dX11_need_79 hk ?_
      exact G_iret (pc := 82) C rfl dX11_need_82 ⟨_, rfl, hw⟩
    · have hw := hw.2 hc
      refine G_bipush (pc := 24) C (v := -3) dX11_need_24 (by decide) ?_
      exact G_iret (pc := 26) C rfl dX11_need_26 ⟨_, rfl, hw⟩
  · have hw := hw.2 hc
    refine G_bipush (pc := 11) C (v := -2) dX11_need_11 (by decide) ?_
    exact G_iret (pc := 13) C rfl dX11_need_13 ⟨_, rfl, hw⟩
/-! FirstParts.weigh(II)I -/
abbrev wp_X11_weigh (a0 : Nat) (x1 : Int32) (x2 : Int32) (S : Hp) (Q : Int32 → Hp → Prop) : Prop :=
  kd S a0 = 12 ∧ ∃ b1, (gR S 179 a0 0) = some b1 ∧ kd S b1 = 3 ∧ wp_X2_has (b1) (x1) S (fun e2 => ((e2 ≠ 0 → wp_X11_within (x2) ((1 : Int32)) ((9 : Int32)) S (fun e4 => ((e4 ≠ 0 → kd S a0 = 12 ∧ kd S a0 = 12 ∧ kd S a0 = 12 ∧ ∃ b6, (gR S 179 a0 0) = some b6 ∧ ∃ b7, (gR S 183 a0 0) = some b7 ∧ ∃ b8, (gR S 180 a0 0) = some b8 ∧ kd S b8 = 10 ∧ wp_X9_keep (b8) (b6) (b7) (none) S (fun S10 => kd S10 a0 = 12 ∧ ∃ b11, (gR S10 179 a0 0) = some b11 ∧ kd S10 b11 = 3 ∧ ∃ b12, (gR S10 33 b11 0) = some b12 ∧ kd S10 b12 = 23 ∧ vp_in x1 (ln S10 b12) ∧ ∃ b13, (gR S10 0 b12 (x1).toNatClampNeg) = some b13 ∧ kd S10 a0 = 12 ∧ ∃ b14, (gR S10 179 a0 0) = some b14 ∧ kd S10 b14 = 3 ∧ 1 ≤ 1 ∧ 3 ≤ 3 ∧ ∀ n15 : Nat, n15 = sz S10 → ∀ S16 : Hp, S16 = nw S10 6 (0) → kd S16 b13 = 6 ∧ kd S16 b13 = 6 ∧ ∃ b17, (gR S16 81 b13 0) = some b17 ∧ ∃ b20, (gR S10 33 b14 0) = some b20 ∧ wp_X5_init (n15) (b17) ((gI S16 82 b13 0)) (x2) S16 (fun S19 => kd S19 b20 = 23 ∧ kd S19 n15 = 6 ∧ vp_in x1 (ln S19 b20) ∧ ∀ S21 : Hp, S21 = sR S19 0 b20 (x1).toNatClampNeg (some n15) → kd S21 b13 = 6 ∧ Q (gI S21 83 b13 0) S21))) ∧ (e4 = 0 → Q (-3 : Int32) S)))) ∧ (e2 = 0 → Q (-2 : Int32) S)))
set_option maxHeartbeats 4000000 in
set_option maxRecDepth 100000 in
theorem c_X11_weigh (l : Launch) (z : Zt) (a0 : Nat) (x1 : Int32) (x2 : Int32) (S : Hp) (Q : Int32 → Hp → Prop) (hw : wp_X11_weigh a0 x1 x2 S Q) : Ct l z yX11_weigh cX11_weigh 4 (some .int) 3 78 1 3 [.ref (a0), .int (x1), .int (x2)] S (wI Q) := by
  refine Ct_of (by decide) (Nat.le_of_ble_eq_true rfl) ?_
  intro p e s m args below meth c C
  have C : Cx p s m args meth c z cX11_weigh 4 RX11 (some .int) "weigh" := C
  refine G_sub (lv' := [(0, .ref (a0)), (1, .int (x1)), (2, .int (x2))]) [0, 1, 2] rfl ?_
  refine G_aload_n (pc := 0) C 0 dX11_weigh_0 rfl rfl ?_
  obtain ⟨hk, hw⟩ := hw
  refine gf_RX11_28 (pc := 1) C dX11_weigh_1 hk ?_
  refine G_iload_n (pc := 4) C 1 dX11_weigh_4 rfl rfl ?_
  obtain ⟨b1, hq, hw⟩ := hw
  rw [hq]
  obtain ⟨hk, hw⟩ := hw
  refine cl_RX11_97 (pc := 5) C (c_X2_has l z (b1) (x1) S _ hw) ⟨Nat.le_of_ble_eq_true rfl, Nat.le_of_ble_eq_true rfl⟩ hk dX11_weigh_5 (Nat.le_of_ble_eq_true rfl) (fun v S' hp => ?_)
  clear hw
  obtain ⟨hS, e2, rfl, hw⟩ := hp
  subst S'
  refine G_if_ne (pc := 8) C 14 dX11_weigh_8 (by decide) (fun hc => ?_) (fun hc => ?_)
  · have hw := hw.1 hc
    refine G_iload_n (pc := 14) C 2 dX11_weigh_14 rfl rfl ?_
    refine G_iconst (pc := 15) C (v := 1) dX11_weigh_15 (by decide) ?_
    refine G_bipush (pc := 16) C (v := 9) dX11_weigh_16 (by decide) ?_
    refine cl_RX11_64 (pc := 18) C (c_X11_within l z (x2) ((1 : Int32)) ((9 : Int32)) S _ hw) ⟨Nat.le_of_ble_eq_true rfl, Nat.le_of_ble_eq_true rfl⟩ dX11_weigh_18 (Nat.le_of_ble_eq_true rfl) (fun v S' hp => ?_)
    clear hw
    obtain ⟨hS, e4, rfl, hw⟩ := hp
    subst S'
    refine G_if_ne (pc := 21) C 27 dX11_weigh_21 (by decide) (fun hc => ?_) (fun hc => ?_)
    · have hw := hw.1 hc
      refine G_aload_n (pc := 27) C 0 dX11_weigh_27 rfl rfl ?_
      obtain ⟨hk, hw⟩ := hw
      refine gf_RX11_60 (pc := 28) C dX11_weigh_28 hk ?_
      refine G_aload_n (pc := 31) C 0 dX11_weigh_31 rfl rfl ?_
      obtain ⟨hk, hw⟩ := hw
      refine gf_RX11_28 (pc := 32) C dX11_weigh_32 hk ?_
      refine G_aload_n (pc := 35) C 0 dX11_weigh_35 rfl rfl ?_
      obtain ⟨hk, hw⟩ := hw
      refine gf_RX11_51 (pc := 36) C dX11_weigh_36 hk ?_
      refine G_nullQ (pc := 39) C dX11_weigh_39 ?_
      obtain ⟨b6, hq, hw⟩ := hw
      rw [hq]
      obtain ⟨b7, hq, hw⟩ := hw
      rw [hq]
      obtain ⟨b8, hq, hw⟩ := hw
      rw [hq]
      obtain ⟨hk, hw⟩ := hw
      refine cl_RX11_123 (pc := 40) C (c_X9_keep l z (b8) (b6) (b7) (none) S _ hw) ⟨Nat.le_of_ble_eq_true rfl, Nat.le_of_ble_eq_true rfl⟩ hk dX11_weigh_40 (Nat.le_of_ble_eq_true rfl) (fun v S' hp => ?_)
      clear hw
      obtain ⟨rfl, hw⟩ := hp
      generalize S' = S10 at hw ⊢
      refine G_aload_n (pc := 43) C 0 dX11_weigh_43 rfl rfl ?_
      obtain ⟨hk, hw⟩ := hw
      refine gf_RX11_28 (pc := 44) C dX11_weigh_44 hk ?_
      obtain ⟨b11, hq, hw⟩ := hw
      rw [hq]
      obtain ⟨hk, hw⟩ := hw
      refine gf_RX11_100 (pc := 47) C dX11_weigh_47 hk ?_
      refine G_iload_n (pc := 50) C 1 dX11_weigh_50 rfl rfl ?_
      obtain ⟨b12, hq, hw⟩ := hw
      rw [hq]
      obtain ⟨hk, hi, hw⟩ := hw
      refine G_aald (pc := 51) C 3 rfl (by decide) rfl hk hi dX11_weigh_51 ?_
      obtain ⟨b13, hq, hw⟩ := hw
      rw [hq]
      refine G_astore_n (pc := 52) C [(3, .ref (b13)), (0, .ref (a0)), (1, .int (x1)), (2, .int (x2))] dX11_weigh_52 rfl (by decide) rfl ?_
      refine G_aload_n (pc := 53) C 1 dX11_weigh_53 rfl rfl ?_
      obtain ⟨hk, hw⟩ := hw
      refine gf_RX11_28 (pc := 54) C dX11_weigh_54 hk ?_
      obtain ⟨b14, hq, hw⟩ := hw
      rw [hq]
      obtain ⟨hk, hw⟩ := hw
      refine gf_RX11_100 (pc := 57) C dX11_weigh_57 hk ?_
      refine G_iload_n (pc := 60) C 2 dX11_weigh_60 rfl rfl ?_
      obtain ⟨hb1, hb2, hw⟩ := hw
      refine G_less (bc' := (1 - 1) + 1) (bs' := (3 - 3) + 3) (by omega) (by omega) ?_
      refine nw_RX11_105 (pc := 61) C dX11_weigh_61 ?_
      obtain ⟨n15, hn15⟩ : ∃ y : Nat, y = sz S10 := ⟨_, rfl⟩
      obtain ⟨S16, hS16⟩ : ∃ y : Hp, y = nw S10 6 (0) := ⟨_, rfl⟩
      have hw := hw n15 hn15 S16 hS16
      rw [← hn15]
      rw [← hS16]
      clear hn15 hS16
      refine G_dup (pc := 64) C dX11_weigh_64 rfl ?_
      refine G_aload_n (pc := 65) C 0 dX11_weigh_65 rfl rfl ?_
      obtain ⟨hk, hw⟩ := hw
      refine gf_RX11_104 (pc := 66) C dX11_weigh_66 hk ?_
      refine G_aload_n (pc := 69) C 0 dX11_weigh_69 rfl rfl ?_
      obtain ⟨hk, hw⟩ := hw
      refine gf_RX11_110 (pc := 70) C dX11_weigh_70 hk ?_
      refine G_iload_n (pc := 73) C 3 dX11_weigh_73 rfl rfl ?_
      obtain ⟨b17, hq, hw⟩ := hw
      rw [hq]
      obtain ⟨b20, hq, hw⟩ := hw
      rw [hq]
      refine cl_RX11_133 (pc := 74) C (c_X5_init l z (n15) (b17) ((gI S16 82 b13 0)) (x2) S16 _ hw) ⟨Nat.le_of_ble_eq_true rfl, Nat.le_of_ble_eq_true rfl⟩ dX11_weigh_74 (Nat.le_of_ble_eq_true rfl) (fun v S' hp => ?_)
      clear hw
      obtain ⟨rfl, hw⟩ := hp
      generalize S' = S19 at hw ⊢
      obtain ⟨hk, hv, hi, hw⟩ := hw
      refine G_aast (pc := 77) C 3 5 3 rfl (by decide) rfl rfl hk hv hi dX11_weigh_77 ?_
      obtain ⟨S21, hS21⟩ : ∃ y : Hp, y = sR S19 0 b20 (x1).toNatClampNeg (some n15) := ⟨_, rfl⟩
      have hw := hw S21 hS21
      rw [← hS21]
      clear hS21
      refine G_aload_n (pc := 78) C 0 dX11_weigh_78 rfl rfl ?_
      obtain ⟨hk, hw⟩ := hw
      refine gf_RX11_113 (pc := 79) C dX11_weigh_79 hk ?_
      exact G_iret (pc := 82) C rfl dX11_weigh_82 ⟨_, rfl, hw⟩
    · have hw := hw.2 hc
      refine G_bipush (pc := 24) C (v := -3) dX11_weigh_24 (by decide) ?_
      exact G_iret (pc := 26) C rfl dX11_weigh_26 ⟨_, rfl, hw⟩
  · have hw := hw.2 hc
    refine G_bipush (pc := 11) C (v := -2) dX11_weigh_11 (by decide) ?_
    exact G_iret (pc := 13) C rfl dX11_weigh_13 ⟨_, rfl, hw⟩
/-! FirstParts.drop(I)I -/
abbrev wp_X11_drop (a0 : Nat) (x1 : Int32) (S : Hp) (Q : Int32 → Hp → Prop) : Prop :=
  kd S a0 = 12 ∧ ∃ b1, (gR S 179 a0 0) = some b1 ∧ kd S b1 = 3 ∧ wp_X2_has (b1) (x1) S (fun e2 => ((e2 ≠ 0 → kd S a0 = 12 ∧ kd S a0 = 12 ∧ kd S a0 = 12 ∧ ∃ b4, (gR S 179 a0 0) = some b4 ∧ ∃ b5, (gR S 183 a0 0) = some b5 ∧ ∃ b6, (gR S 180 a0 0) = some b6 ∧ kd S b6 = 10 ∧ wp_X9_keep (b6) (b4) (b5) (none) S (fun S8 => kd S8 a0 = 12 ∧ ∃ b9, (gR S8 179 a0 0) = some b9 ∧ kd S8 b9 = 3 ∧ wp_X2_takeOut (b9) (x1) S8 (fun S11 => kd S11 a0 = 12 ∧ ∃ b12, (gR S11 179 a0 0) = some b12 ∧ kd S11 b12 = 3 ∧ Q (gI S11 34 b12 0) S11))) ∧ (e2 = 0 → Q (-2 : Int32) S)))
set_option maxHeartbeats 4000000 in
set_option maxRecDepth 100000 in
theorem c_X11_drop (l : Launch) (z : Zt) (a0 : Nat) (x1 : Int32) (S : Hp) (Q : Int32 → Hp → Prop) (hw : wp_X11_drop a0 x1 S Q) : Ct l z yX11_drop cX11_drop 2 (some .int) 3 78 0 0 [.ref (a0), .int (x1)] S (wI Q) := by
  refine Ct_of (by decide) (Nat.le_of_ble_eq_true rfl) ?_
  intro p e s m args below meth c C
  have C : Cx p s m args meth c z cX11_drop 2 RX11 (some .int) "drop" := C
  refine G_sub (lv' := [(0, .ref (a0)), (1, .int (x1))]) [0, 1] rfl ?_
  refine G_aload_n (pc := 0) C 0 dX11_drop_0 rfl rfl ?_
  obtain ⟨hk, hw⟩ := hw
  refine gf_RX11_28 (pc := 1) C dX11_drop_1 hk ?_
  refine G_iload_n (pc := 4) C 1 dX11_drop_4 rfl rfl ?_
  obtain ⟨b1, hq, hw⟩ := hw
  rw [hq]
  obtain ⟨hk, hw⟩ := hw
  refine cl_RX11_97 (pc := 5) C (c_X2_has l z (b1) (x1) S _ hw) ⟨Nat.le_of_ble_eq_true rfl, Nat.le_of_ble_eq_true rfl⟩ hk dX11_drop_5 (Nat.le_of_ble_eq_true rfl) (fun v S' hp => ?_)
  clear hw
  obtain ⟨hS, e2, rfl, hw⟩ := hp
  subst S'
  refine G_if_ne (pc := 8) C 14 dX11_drop_8 (by decide) (fun hc => ?_) (fun hc => ?_)
  · have hw := hw.1 hc
    refine G_aload_n (pc := 14) C 0 dX11_drop_14 rfl rfl ?_
    obtain ⟨hk, hw⟩ := hw
    refine gf_RX11_60 (pc := 15) C dX11_drop_15 hk ?_
    refine G_aload_n (pc := 18) C 0 dX11_drop_18 rfl rfl ?_
    obtain ⟨hk, hw⟩ := hw
    refine gf_RX11_28 (pc := 19) C dX11_drop_19 hk ?_
    refine G_aload_n (pc := 22) C 0 dX11_drop_22 rfl rfl ?_
    obtain ⟨hk, hw⟩ := hw
    refine gf_RX11_51 (pc := 23) C dX11_drop_23 hk ?_
    refine G_nullQ (pc := 26) C dX11_drop_26 ?_
    obtain ⟨b4, hq, hw⟩ := hw
    rw [hq]
    obtain ⟨b5, hq, hw⟩ := hw
    rw [hq]
    obtain ⟨b6, hq, hw⟩ := hw
    rw [hq]
    obtain ⟨hk, hw⟩ := hw
    refine cl_RX11_123 (pc := 27) C (c_X9_keep l z (b6) (b4) (b5) (none) S _ hw) ⟨Nat.le_of_ble_eq_true rfl, Nat.le_of_ble_eq_true rfl⟩ hk dX11_drop_27 (Nat.le_of_ble_eq_true rfl) (fun v S' hp => ?_)
    clear hw
    obtain ⟨rfl, hw⟩ := hp
    generalize S' = S8 at hw ⊢
    refine G_aload_n (pc := 30) C 0 dX11_drop_30 rfl rfl ?_
    obtain ⟨hk, hw⟩ := hw
    refine gf_RX11_28 (pc := 31) C dX11_drop_31 hk ?_
    refine G_iload_n (pc := 34) C 1 dX11_drop_34 rfl rfl ?_
    obtain ⟨b9, hq, hw⟩ := hw
    rw [hq]
    obtain ⟨hk, hw⟩ := hw
    refine cl_RX11_136 (pc := 35) C (c_X2_takeOut l z (b9) (x1) S8 _ hw) ⟨Nat.le_of_ble_eq_true rfl, Nat.le_of_ble_eq_true rfl⟩ hk dX11_drop_35 (Nat.le_of_ble_eq_true rfl) (fun v S' hp => ?_)
    clear hw
    obtain ⟨rfl, hw⟩ := hp
    generalize S' = S11 at hw ⊢
    refine G_aload_n (pc := 38) C 0 dX11_drop_38 rfl rfl ?_
    obtain ⟨hk, hw⟩ := hw
    refine gf_RX11_28 (pc := 39) C dX11_drop_39 hk ?_
    obtain ⟨b12, hq, hw⟩ := hw
    rw [hq]
    obtain ⟨hk, hw⟩ := hw
    refine gf_RX11_76 (pc := 42) C dX11_drop_42 hk ?_
    exact G_iret (pc := 45) C rfl dX11_drop_45 ⟨_, rfl, hw⟩
  · have hw := hw.2 hc
    refine G_bipush (pc := 11) C (v := -2) dX11_drop_11 (by decide) ?_
    exact G_iret (pc := 13) C rfl dX11_drop_13 ⟨_, rfl, hw⟩
/-! FirstParts.pack()I -/
abbrev wp_X11_pack_20  (Q : Int32 → Hp → Prop)  (S : Hp) (bc bs : Nat) : Prop :=
  Q (-4 : Int32) S
abbrev wp_X11_pack (a0 : Nat) (S : Hp) (Q : Int32 → Hp → Prop) : Prop :=
  kd S a0 = 12 ∧ ∃ b1, (gR S 179 a0 0) = some b1 ∧ kd S b1 = 3 ∧ (((gI S 34 b1 0) = 0 → wp_X11_pack_20 Q (S) (28) (698)) ∧ (¬ (gI S 34 b1 0) = 0 → kd S a0 = 12 ∧ ∃ b2, (gR S 179 a0 0) = some b2 ∧ kd S b2 = 3 ∧ wp_X2_fits (b2) S (fun e3 => ((e3 ≠ 0 → kd S a0 = 12 ∧ kd S a0 = 12 ∧ kd S a0 = 12 ∧ ∃ b5, (gR S 179 a0 0) = some b5 ∧ ∃ b6, (gR S 183 a0 0) = some b6 ∧ ∃ b7, (gR S 180 a0 0) = some b7 ∧ kd S b7 = 10 ∧ wp_X9_keep (b7) (b5) (b6) (none) S (fun S9 => 1 ≤ 28 ∧ 6 ≤ 698 ∧ ∀ n10 : Nat, n10 = sz S9 → ∀ S11 : Hp, S11 = nw S9 4 (0) → kd S11 a0 = 12 ∧ kd S11 a0 = 12 ∧ ∃ b12, (gR S11 179 a0 0) = some b12 ∧ kd S11 b12 = 3 ∧ kd S11 a0 = 12 ∧ ∃ b13, (gR S11 179 a0 0) = some b13 ∧ kd S11 b13 = 3 ∧ 27 ≤ (28 - 1) ∧ 692 ≤ (698 - 6) ∧ wp_X3_init (n10) (b12) ((gI S11 34 b12 0)) ((gI S11 35 b13 0)) S11 (fun S15 => kd S15 a0 = 12 ∧ ∀ S16 : Hp, S16 = sR S15 183 a0 0 (some n10) → kd S16 a0 = 12 ∧ ∃ b17, (gR S16 183 a0 0) = some b17 ∧ kd S16 b17 = 4 ∧ Q (gI S16 54 b17 0) S16))) ∧ (e3 = 0 → wp_X11_pack_20 Q (S) (28) (698))))))
set_option maxHeartbeats 4000000 in
set_option maxRecDepth 100000 in
theorem g_X11_pack_20 (C : Cx p s m args meth c z cX11_pack 1 RX11 (some .int) "pack")  {Q : Int32 → Hp → Prop}  {S : Hp} {bc bs : Nat}   (hw : wp_X11_pack_20  Q  S bc bs) : Go p l e { frames := 4, cells := 28, slots := 698, locals := 97 } s m args below meth c z 1 (MQ below (Qx z (wI Q)) args s 28 698 (own z)) (bc) (bs) 20 [] [] (S) := by
  refine G_bipush (pc := 20) C (v := -4) dX11_pack_20 (by decide) ?_
  exact G_iret (pc := 22) C rfl dX11_pack_22 ⟨_, rfl, hw⟩
set_option maxHeartbeats 4000000 in
set_option maxRecDepth 100000 in
theorem c_X11_pack (l : Launch) (z : Zt) (a0 : Nat) (S : Hp) (Q : Int32 → Hp → Prop) (hw : wp_X11_pack a0 S Q) : Ct l z yX11_pack cX11_pack 1 (some .int) 4 97 28 698 [.ref (a0)] S (wI Q) := by
  refine Ct_of (by decide) (Nat.le_of_ble_eq_true rfl) ?_
  intro p e s m args below meth c C
  have C : Cx p s m args meth c z cX11_pack 1 RX11 (some .int) "pack" := C
  refine G_sub (lv' := [(0, .ref (a0))]) [0] rfl ?_
  refine G_aload_n (pc := 0) C 0 dX11_pack_0 rfl rfl ?_
  obtain ⟨hk, hw⟩ := hw
  refine gf_RX11_28 (pc := 1) C dX11_pack_1 hk ?_
  obtain ⟨b1, hq, hw⟩ := hw
  rw [hq]
  obtain ⟨hk, hw⟩ := hw
  refine gf_RX11_76 (pc := 4) C dX11_pack_4 hk ?_
  refine G_if_eq (pc := 7) C 20 dX11_pack_7 (by decide) (fun hc => ?_) (fun hc => ?_)
  · have hw := hw.1 hc
    exact G_sub [] rfl (g_X11_pack_20 C  hw)
  · have hw := hw.2 hc
    refine G_aload_n (pc := 10) C 0 dX11_pack_10 rfl rfl ?_
    obtain ⟨hk, hw⟩ := hw
    refine gf_RX11_28 (pc := 11) C dX11_pack_11 hk ?_
    obtain ⟨b2, hq, hw⟩ := hw
    rw [hq]
    obtain ⟨hk, hw⟩ := hw
    refine cl_RX11_140 (pc := 14) C (c_X2_fits l z (b2) S _ hw) ⟨Nat.le_of_ble_eq_true rfl, Nat.le_of_ble_eq_true rfl⟩ hk dX11_pack_14 (Nat.le_of_ble_eq_true rfl) (fun v S' hp => ?_)
    clear hw
    obtain ⟨hS, e3, rfl, hw⟩ := hp
    subst S'
    refine G_if_ne (pc := 17) C 23 dX11_pack_17 (by decide) (fun hc => ?_) (fun hc => ?_)
    · have hw := hw.1 hc
      refine G_aload_n (pc := 23) C 0 dX11_pack_23 rfl rfl ?_
      obtain ⟨hk, hw⟩ := hw
      refine gf_RX11_60 (pc := 24) C dX11_pack_24 hk ?_
      refine G_aload_n (pc := 27) C 0 dX11_pack_27 rfl rfl ?_
      obtain ⟨hk, hw⟩ := hw
      refine gf_RX11_28 (pc := 28) C dX11_pack_28 hk ?_
      refine G_aload_n (pc := 31) C 0 dX11_pack_31 rfl rfl ?_
      obtain ⟨hk, hw⟩ := hw
      refine gf_RX11_51 (pc := 32) C dX11_pack_32 hk ?_
      refine G_nullQ (pc := 35) C dX11_pack_35 ?_
      obtain ⟨b5, hq, hw⟩ := hw
      rw [hq]
      obtain ⟨b6, hq, hw⟩ := hw
      rw [hq]
      obtain ⟨b7, hq, hw⟩ := hw
      rw [hq]
      obtain ⟨hk, hw⟩ := hw
      refine cl_RX11_123 (pc := 36) C (c_X9_keep l z (b7) (b5) (b6) (none) S _ hw) ⟨Nat.le_of_ble_eq_true rfl, Nat.le_of_ble_eq_true rfl⟩ hk dX11_pack_36 (Nat.le_of_ble_eq_true rfl) (fun v S' hp => ?_)
      clear hw
      obtain ⟨rfl, hw⟩ := hp
      generalize S' = S9 at hw ⊢
      refine G_aload_n (pc := 39) C 0 dX11_pack_39 rfl rfl ?_
      obtain ⟨hb1, hb2, hw⟩ := hw
      refine G_less (bc' := (28 - 1) + 1) (bs' := (698 - 6) + 6) (by omega) (by omega) ?_
      refine nw_RX11_46 (pc := 40) C dX11_pack_40 ?_
      obtain ⟨n10, hn10⟩ : ∃ y : Nat, y = sz S9 := ⟨_, rfl⟩
      obtain ⟨S11, hS11⟩ : ∃ y : Hp, y = nw S9 4 (0) := ⟨_, rfl⟩
      have hw := hw n10 hn10 S11 hS11
      rw [← hn10]
      rw [← hS11]
      clear hn10 hS11
      refine G_dup (pc := 43) C dX11_pack_43 rfl ?_
      refine G_aload_n (pc := 44) C 0 dX11_pack_44 rfl rfl ?_
      obtain ⟨hk, hw⟩ := hw
      refine gf_RX11_28 (pc := 45) C dX11_pack_45 hk ?_
      refine G_aload_n (pc := 48) C 0 dX11_pack_48 rfl rfl ?_
      obtain ⟨hk, hw⟩ := hw
      refine gf_RX11_28 (pc := 49) C dX11_pack_49 hk ?_
      obtain ⟨b12, hq, hw⟩ := hw
      rw [hq]
      obtain ⟨hk, hw⟩ := hw
      refine gf_RX11_76 (pc := 52) C dX11_pack_52 hk ?_
      refine G_aload_n (pc := 55) C 0 dX11_pack_55 rfl rfl ?_
      obtain ⟨hk, hw⟩ := hw
      refine gf_RX11_28 (pc := 56) C dX11_pack_56 hk ?_
      obtain ⟨b13, hq, hw⟩ := hw
      rw [hq]
      obtain ⟨hk, hw⟩ := hw
      refine gf_RX11_127 (pc := 59) C dX11_pack_59 hk ?_
      obtain ⟨hb1, hb2, hw⟩ := hw
      refine G_less (bc' := ((28 - 1) - 27) + 27) (bs' := ((698 - 6) - 692) + 692) (by omega) (by omega) ?_
      refine cl_RX11_48 (pc := 62) C (c_X3_init l z (n10) (b12) ((gI S11 34 b12 0)) ((gI S11 35 b13 0)) S11 _ hw) ⟨Nat.le_of_ble_eq_true rfl, Nat.le_of_ble_eq_true rfl⟩ dX11_pack_62 (Nat.le_of_ble_eq_true rfl) (fun v S' hp => ?_)
      clear hw
      obtain ⟨rfl, hw⟩ := hp
      generalize S' = S15 at hw ⊢
      obtain ⟨hk, hw⟩ := hw
      refine pf_RX11_51 (pc := 65) C (v := some n10) dX11_pack_65 hk ?_
      obtain ⟨S16, hS16⟩ : ∃ y : Hp, y = sR S15 183 a0 0 (some n10) := ⟨_, rfl⟩
      have hw := hw S16 hS16
      rw [← hS16]
      clear hS16
      refine G_aload_n (pc := 68) C 0 dX11_pack_68 rfl rfl ?_
      obtain ⟨hk, hw⟩ := hw
      refine gf_RX11_51 (pc := 69) C dX11_pack_69 hk ?_
      obtain ⟨b17, hq, hw⟩ := hw
      rw [hq]
      obtain ⟨hk, hw⟩ := hw
      refine gf_RX11_144 (pc := 72) C dX11_pack_72 hk ?_
      exact G_iret (pc := 75) C rfl dX11_pack_75 ⟨_, rfl, hw⟩
    · have hw := hw.2 hc
      exact G_sub [] rfl (g_X11_pack_20 C  hw)
/-! FirstParts.lose(I)I -/
abbrev wp_X11_lose (a0 : Nat) (x1 : Int32) (S : Hp) (Q : Int32 → Hp → Prop) : Prop :=
  kd S a0 = 12 ∧ ∃ b1, (gR S 183 a0 0) = some b1 ∧ kd S b1 = 4 ∧ wp_X3_hasPacket (b1) (x1) S (fun e2 => ((e2 ≠ 0 → kd S a0 = 12 ∧ ∃ b4, (gR S 183 a0 0) = some b4 ∧ kd S b4 = 4 ∧ ∃ b5, (gR S 52 b4 0) = some b5 ∧ kd S b5 = 22 ∧ vp_in x1 (ln S b5) ∧ ∃ b6, (gR S 0 b5 (x1).toNatClampNeg) = some b6 ∧ kd S b6 = 5 ∧ (((gI S 68 b6 0) = 0 → kd S a0 = 12 ∧ kd S a0 = 12 ∧ kd S a0 = 12 ∧ ∃ b7, (gR S 179 a0 0) = some b7 ∧ ∃ b8, (gR S 183 a0 0) = some b8 ∧ ∃ b9, (gR S 180 a0 0) = some b9 ∧ kd S b9 = 10 ∧ wp_X9_keep (b9) (b7) (b8) ((some b6)) S (fun S11 => kd S11 b6 = 5 ∧ ((1 : Int32) = 0 ∨ (1 : Int32) = 1) ∧ ∀ S12 : Hp, S12 = sI S11 68 b6 0 (1 : Int32) → kd S12 b6 = 5 ∧ Q (gI S12 67 b6 0) S12)) ∧ (¬ (gI S 68 b6 0) = 0 → Q (-4 : Int32) S))) ∧ (e2 = 0 → Q (-2 : Int32) S)))
set_option maxHeartbeats 4000000 in
set_option maxRecDepth 100000 in
theorem c_X11_lose (l : Launch) (z : Zt) (a0 : Nat) (x1 : Int32) (S : Hp) (Q : Int32 → Hp → Prop) (hw : wp_X11_lose a0 x1 S Q) : Ct l z yX11_lose cX11_lose 3 (some .int) 3 78 0 0 [.ref (a0), .int (x1)] S (wI Q) := by
  refine Ct_of (by decide) (Nat.le_of_ble_eq_true rfl) ?_
  intro p e s m args below meth c C
  have C : Cx p s m args meth c z cX11_lose 3 RX11 (some .int) "lose" := C
  refine G_sub (lv' := [(0, .ref (a0)), (1, .int (x1))]) [0, 1] rfl ?_
  refine G_aload_n (pc := 0) C 0 dX11_lose_0 rfl rfl ?_
  obtain ⟨hk, hw⟩ := hw
  refine gf_RX11_51 (pc := 1) C dX11_lose_1 hk ?_
  refine G_iload_n (pc := 4) C 1 dX11_lose_4 rfl rfl ?_
  obtain ⟨b1, hq, hw⟩ := hw
  rw [hq]
  obtain ⟨hk, hw⟩ := hw
  refine cl_RX11_145 (pc := 5) C (c_X3_hasPacket l z (b1) (x1) S _ hw) ⟨Nat.le_of_ble_eq_true rfl, Nat.le_of_ble_eq_true rfl⟩ hk dX11_lose_5 (Nat.le_of_ble_eq_true rfl) (fun v S' hp => ?_)
  clear hw
  obtain ⟨hS, e2, rfl, hw⟩ := hp
  subst S'
  refine G_if_ne (pc := 8) C 14 dX11_lose_8 (by decide) (fun hc => ?_) (fun hc => ?_)
  · have hw := hw.1 hc
    refine G_aload_n (pc := 14) C 0 dX11_lose_14 rfl rfl ?_
    obtain ⟨hk, hw⟩ := hw
    refine gf_RX11_51 (pc := 15) C dX11_lose_15 hk ?_
    obtain ⟨b4, hq, hw⟩ := hw
    rw [hq]
    obtain ⟨hk, hw⟩ := hw
    refine gf_RX11_148 (pc := 18) C dX11_lose_18 hk ?_
    refine G_iload_n (pc := 21) C 1 dX11_lose_21 rfl rfl ?_
    obtain ⟨b5, hq, hw⟩ := hw
    rw [hq]
    obtain ⟨hk, hi, hw⟩ := hw
    refine G_aald (pc := 22) C 2 rfl (by decide) rfl hk hi dX11_lose_22 ?_
    obtain ⟨b6, hq, hw⟩ := hw
    rw [hq]
    refine G_astore_n (pc := 23) C [(2, .ref (b6)), (0, .ref (a0)), (1, .int (x1))] dX11_lose_23 rfl (by decide) rfl ?_
    refine G_aload_n (pc := 24) C 0 dX11_lose_24 rfl rfl ?_
    obtain ⟨hk, hw⟩ := hw
    refine gf_RX11_151 (pc := 25) C dX11_lose_25 hk ?_
    refine G_if_eq (pc := 28) C 34 dX11_lose_28 (by decide) (fun hc => ?_) (fun hc => ?_)
    · have hw := hw.1 hc
      refine G_aload_n (pc := 34) C 1 dX11_lose_34 rfl rfl ?_
      obtain ⟨hk, hw⟩ := hw
      refine gf_RX11_60 (pc := 35) C dX11_lose_35 hk ?_
      refine G_aload_n (pc := 38) C 1 dX11_lose_38 rfl rfl ?_
      obtain ⟨hk, hw⟩ := hw
      refine gf_RX11_28 (pc := 39) C dX11_lose_39 hk ?_
      refine G_aload_n (pc := 42) C 1 dX11_lose_42 rfl rfl ?_
      obtain ⟨hk, hw⟩ := hw
      refine gf_RX11_51 (pc := 43) C dX11_lose_43 hk ?_
      refine G_aload_n (pc := 46) C 0 dX11_lose_46 rfl rfl ?_
      obtain ⟨b7, hq, hw⟩ := hw
      rw [hq]
      obtain ⟨b8, hq, hw⟩ := hw
      rw [hq]
      obtain ⟨b9, hq, hw⟩ := hw
      rw [hq]
      obtain ⟨hk, hw⟩ := hw
      refine cl_RX11_123 (pc := 47) C (c_X9_keep l z (b9) (b7) (b8) ((some b6)) S _ hw) ⟨Nat.le_of_ble_eq_true rfl, Nat.le_of_ble_eq_true rfl⟩ hk dX11_lose_47 (Nat.le_of_ble_eq_true rfl) (fun v S' hp => ?_)
      clear hw
      obtain ⟨rfl, hw⟩ := hp
      generalize S' = S11 at hw ⊢
      refine G_aload_n (pc := 50) C 0 dX11_lose_50 rfl rfl ?_
      refine G_iconst (pc := 51) C (v := 1) dX11_lose_51 (by decide) ?_
      obtain ⟨hk, hw⟩ := hw
      obtain ⟨hb, hw⟩ := hw
      refine pf_RX11_151 (pc := 52) C dX11_lose_52 hk hb ?_
      obtain ⟨S12, hS12⟩ : ∃ y : Hp, y = sI S11 68 b6 0 (1 : Int32) := ⟨_, rfl⟩
      have hw := hw S12 hS12
      rw [← hS12]
      clear hS12
      refine G_aload_n (pc := 55) C 0 dX11_lose_55 rfl rfl ?_
      obtain ⟨hk, hw⟩ := hw
      refine gf_RX11_157 (pc := 56) C dX11_lose_56 hk ?_
      exact G_iret (pc := 59) C rfl dX11_lose_59 ⟨_, rfl, hw⟩
    · have hw := hw.2 hc
      refine G_bipush (pc := 31) C (v := -4) dX11_lose_31 (by decide) ?_
      exact G_iret (pc := 33) C rfl dX11_lose_33 ⟨_, rfl, hw⟩
  · have hw := hw.2 hc
    refine G_bipush (pc := 11) C (v := -2) dX11_lose_11 (by decide) ?_
    exact G_iret (pc := 13) C rfl dX11_lose_13 ⟨_, rfl, hw⟩
/-! FirstParts.cut(II)I -/
abbrev wp_X11_cut (a0 : Nat) (x1 : Int32) (x2 : Int32) (S : Hp) (Q : Int32 → Hp → Prop) : Prop :=
  kd S a0 = 12 ∧ ∃ b1, (gR S 183 a0 0) = some b1 ∧ kd S b1 = 4 ∧ wp_X3_hasPacket (b1) (x1) S (fun e2 => ((e2 ≠ 0 → kd S a0 = 12 ∧ ∃ b4, (gR S 183 a0 0) = some b4 ∧ kd S b4 = 4 ∧ ∃ b5, (gR S 52 b4 0) = some b5 ∧ kd S b5 = 22 ∧ vp_in x1 (ln S b5) ∧ ∃ b6, (gR S 0 b5 (x1).toNatClampNeg) = some b6 ∧ kd S b6 = 5 ∧ wp_X11_within (x2) ((0 : Int32)) ((gI S 67 b6 0)) S (fun e7 => ((e7 ≠ 0 → kd S b6 = 5 ∧ (((gI S 68 b6 0) = 0 → kd S a0 = 12 ∧ kd S a0 = 12 ∧ kd S a0 = 12 ∧ ∃ b9, (gR S 179 a0 0) = some b9 ∧ ∃ b10, (gR S 183 a0 0) = some b10 ∧ ∃ b11, (gR S 180 a0 0) = some b11 ∧ kd S b11 = 10 ∧ wp_X9_keep (b11) (b9) (b10) ((some b6)) S (fun S13 => kd S13 b6 = 5 ∧ ∀ e14 : Int32, e14 = ((gI S13 67 b6 0) - x2) → kd S13 b6 = 5 ∧ ∀ S15 : Hp, S15 = sI S13 67 b6 0 x2 → Q e14 S15)) ∧ (¬ (gI S 68 b6 0) = 0 → Q (-4 : Int32) S))) ∧ (e7 = 0 → Q (-3 : Int32) S)))) ∧ (e2 = 0 → Q (-2 : Int32) S)))
set_option maxHeartbeats 4000000 in
set_option maxRecDepth 100000 in
theorem c_X11_cut (l : Launch) (z : Zt) (a0 : Nat) (x1 : Int32) (x2 : Int32) (S : Hp) (Q : Int32 → Hp → Prop) (hw : wp_X11_cut a0 x1 x2 S Q) : Ct l z yX11_cut cX11_cut 5 (some .int) 3 78 0 0 [.ref (a0), .int (x1), .int (x2)] S (wI Q) := by
  refine Ct_of (by decide) (Nat.le_of_ble_eq_true rfl) ?_
  intro p e s m args below meth c C
  have C : Cx p s m args meth c z cX11_cut 5 RX11 (some .int) "cut" := C
  refine G_sub (lv' := [(0, .ref (a0)), (1, .int (x1)), (2, .int (x2))]) [0, 1, 2] rfl ?_
  refine G_aload_n (pc := 0) C 0 dX11_cut_0 rfl rfl ?_
  obtain ⟨hk, hw⟩ := hw
  refine gf_RX11_51 (pc := 1) C dX11_cut_1 hk ?_
  refine G_iload_n (pc := 4) C 1 dX11_cut_4 rfl rfl ?_
  obtain ⟨b1, hq, hw⟩ := hw
  rw [hq]
  obtain ⟨hk, hw⟩ := hw
  refine cl_RX11_145 (pc := 5) C (c_X3_hasPacket l z (b1) (x1) S _ hw) ⟨Nat.le_of_ble_eq_true rfl, Nat.le_of_ble_eq_true rfl⟩ hk dX11_cut_5 (Nat.le_of_ble_eq_true rfl) (fun v S' hp => ?_)
  clear hw
  obtain ⟨hS, e2, rfl, hw⟩ := hp
  subst S'
  refine G_if_ne (pc := 8) C 14 dX11_cut_8 (by decide) (fun hc => ?_) (fun hc => ?_)
  · have hw := hw.1 hc
    refine G_aload_n (pc := 14) C 0 dX11_cut_14 rfl rfl ?_
    obtain ⟨hk, hw⟩ := hw
    refine gf_RX11_51 (pc := 15) C dX11_cut_15 hk ?_
    obtain ⟨b4, hq, hw⟩ := hw
    rw [hq]
    obtain ⟨hk, hw⟩ := hw
    refine gf_RX11_148 (pc := 18) C dX11_cut_18 hk ?_
    refine G_iload_n (pc := 21) C 1 dX11_cut_21 rfl rfl ?_
    obtain ⟨b5, hq, hw⟩ := hw
    rw [hq]
    obtain ⟨hk, hi, hw⟩ := hw
    refine G_aald (pc := 22) C 2 rfl (by decide) rfl hk hi dX11_cut_22 ?_
    obtain ⟨b6, hq, hw⟩ := hw
    rw [hq]
    refine G_astore_n (pc := 23) C [(3, .ref (b6)), (0, .ref (a0)), (1, .int (x1)), (2, .int (x2))] dX11_cut_23 rfl (by decide) rfl ?_
    refine G_iload_n (pc := 24) C 3 dX11_cut_24 rfl rfl ?_
    refine G_iconst (pc := 25) C (v := 0) dX11_cut_25 (by decide) ?_
    refine G_aload_n (pc := 26) C 0 dX11_cut_26 rfl rfl ?_
    obtain ⟨hk, hw⟩ := hw
    refine gf_RX11_157 (pc := 27) C dX11_cut_27 hk ?_
    refine cl_RX11_64 (pc := 30) C (c_X11_within l z (x2) ((0 : Int32)) ((gI S 67 b6 0)) S _ hw) ⟨Nat.le_of_ble_eq_true rfl, Nat.le_of_ble_eq_true rfl⟩ dX11_cut_30 (Nat.le_of_ble_eq_true rfl) (fun v S' hp => ?_)
    clear hw
    obtain ⟨hS, e7, rfl, hw⟩ := hp
    subst S'
    refine G_if_ne (pc := 33) C 39 dX11_cut_33 (by decide) (fun hc => ?_) (fun hc => ?_)
    · have hw := hw.1 hc
      refine G_aload_n (pc := 39) C 0 dX11_cut_39 rfl rfl ?_
      obtain ⟨hk, hw⟩ := hw
      refine gf_RX11_151 (pc := 40) C dX11_cut_40 hk ?_
      refine G_if_eq (pc := 43) C 49 dX11_cut_43 (by decide) (fun hc => ?_) (fun hc => ?_)
      · have hw := hw.1 hc
        refine G_aload_n (pc := 49) C 1 dX11_cut_49 rfl rfl ?_
        obtain ⟨hk, hw⟩ := hw
        refine gf_RX11_60 (pc := 50) C dX11_cut_50 hk ?_
        refine G_aload_n (pc := 53) C 1 dX11_cut_53 rfl rfl ?_
        obtain ⟨hk, hw⟩ := hw
        refine gf_RX11_28 (pc := 54) C dX11_cut_54 hk ?_
        refine G_aload_n (pc := 57) C 1 dX11_cut_57 rfl rfl ?_
        obtain ⟨hk, hw⟩ := hw
        refine gf_RX11_51 (pc := 58) C dX11_cut_58 hk ?_
        refine G_aload_n (pc := 61) C 0 dX11_cut_61 rfl rfl ?_
        obtain ⟨b9, hq, hw⟩ := hw
        rw [hq]
        obtain ⟨b10, hq, hw⟩ := hw
        rw [hq]
        obtain ⟨b11, hq, hw⟩ := hw
        rw [hq]
        obtain ⟨hk, hw⟩ := hw
        refine cl_RX11_123 (pc := 62) C (c_X9_keep l z (b11) (b9) (b10) ((some b6)) S _ hw) ⟨Nat.le_of_ble_eq_true rfl, Nat.le_of_ble_eq_true rfl⟩ hk dX11_cut_62 (Nat.le_of_ble_eq_true rfl) (fun v S' hp => ?_)
        clear hw
        obtain ⟨rfl, hw⟩ := hp
        generalize S' = S13 at hw ⊢
        refine G_aload_n (pc := 65) C 0 dX11_cut_65 rfl rfl ?_
        obtain ⟨hk, hw⟩ := hw
        refine gf_RX11_157 (pc := 66) C dX11_cut_66 hk ?_
        refine G_iload_n (pc := 69) C 3 dX11_cut_69 rfl rfl ?_
        refine G_isub (pc := 70) C dX11_cut_70 ?_
        refine G_topi (fun e14 he14 => ?_)
        have hw := hw e14 he14
        clear he14
        refine G_istore (pc := 71) C [(4, .int (e14)), (3, .ref (b6)), (0, .ref (a0)), (1, .int (x1)), (2, .int (x2))] dX11_cut_71 (by decide) rfl ?_
        refine G_aload_n (pc := 73) C 1 dX11_cut_73 rfl rfl ?_
        refine G_iload_n (pc := 74) C 4 dX11_cut_74 rfl rfl ?_
        obtain ⟨hk, hw⟩ := hw
        refine pf_RX11_157 (pc := 75) C dX11_cut_75 hk ?_
        obtain ⟨S15, hS15⟩ : ∃ y : Hp, y = sI S13 67 b6 0 x2 := ⟨_, rfl⟩
        have hw := hw S15 hS15
        rw [← hS15]
        clear hS15
        refine G_iload (pc := 78) C 0 dX11_cut_78 rfl ?_
        exact G_iret (pc := 80) C rfl dX11_cut_80 ⟨_, rfl, hw⟩
      · have hw := hw.2 hc
        refine G_bipush (pc := 46) C (v := -4) dX11_cut_46 (by decide) ?_
        exact G_iret (pc := 48) C rfl dX11_cut_48 ⟨_, rfl, hw⟩
    · have hw := hw.2 hc
      refine G_bipush (pc := 36) C (v := -3) dX11_cut_36 (by decide) ?_
      exact G_iret (pc := 38) C rfl dX11_cut_38 ⟨_, rfl, hw⟩
  · have hw := hw.2 hc
    refine G_bipush (pc := 11) C (v := -2) dX11_cut_11 (by decide) ?_
    exact G_iret (pc := 13) C rfl dX11_cut_13 ⟨_, rfl, hw⟩
/-! FirstParts.spoil(III)I -/
abbrev wp_X11_spoil_27  (Q : Int32 → Hp → Prop)  (S : Hp) : Prop :=
  Q (-2 : Int32) S
abbrev wp_X11_spoil (a0 : Nat) (x1 : Int32) (x2 : Int32) (x3 : Int32) (S : Hp) (Q : Int32 → Hp → Prop) : Prop :=
  kd S a0 = 12 ∧ ∃ b1, (gR S 183 a0 0) = some b1 ∧ kd S b1 = 4 ∧ wp_X3_hasPacket (b1) (x1) S (fun e2 => ((e2 = 0 → wp_X11_spoil_27 Q (S)) ∧ (¬ e2 = 0 → kd S a0 = 12 ∧ ∃ b4, (gR S 183 a0 0) = some b4 ∧ kd S b4 = 4 ∧ ∃ b5, (gR S 52 b4 0) = some b5 ∧ kd S b5 = 22 ∧ vp_in x1 (ln S b5) ∧ ∃ b6, (gR S 0 b5 (x1).toNatClampNeg) = some b6 ∧ kd S b6 = 5 ∧ wp_X4_holds (b6) (x2) S (fun e7 => ((e7 ≠ 0 → wp_X11_within (x3) ((0 : Int32)) ((28 : Int32)) S (fun e9 => ((e9 ≠ 0 → kd S a0 = 12 ∧ ∃ b11, (gR S 183 a0 0) = some b11 ∧ kd S b11 = 4 ∧ ∃ b12, (gR S 52 b11 0) = some b12 ∧ kd S b12 = 22 ∧ vp_in x1 (ln S b12) ∧ ∃ b13, (gR S 0 b12 (x1).toNatClampNeg) = some b13 ∧ kd S a0 = 12 ∧ kd S a0 = 12 ∧ kd S a0 = 12 ∧ ∃ b14, (gR S 179 a0 0) = some b14 ∧ ∃ b15, (gR S 183 a0 0) = some b15 ∧ ∃ b16, (gR S 180 a0 0) = some b16 ∧ kd S b16 = 10 ∧ wp_X9_keep (b16) (b14) (b15) ((some b13)) S (fun S18 => kd S18 b13 = 5 ∧ ∃ b19, (gR S18 66 b13 0) = some b19 ∧ kd S18 b19 = 20 ∧ vp_in x2 (ln S18 b19) ∧ ∀ e20 : Int32, e20 = (gI S18 0 b19 (x2).toNatClampNeg) → kd S18 b13 = 5 ∧ ∃ b21, (gR S18 66 b13 0) = some b21 ∧ kd S18 b21 = 20 ∧ vp_in x2 (ln S18 b21) ∧ ∀ S22 : Hp, S22 = sI S18 0 b21 (x2).toNatClampNeg x3 → Q e20 S22)) ∧ (e9 = 0 → Q (-3 : Int32) S)))) ∧ (e7 = 0 → wp_X11_spoil_27 Q (S)))))))
set_option maxHeartbeats 4000000 in
set_option maxRecDepth 100000 in
theorem g_X11_spoil_27 (C : Cx p s m args meth c z cX11_spoil 6 RX11 (some .int) "spoil")  {Q : Int32 → Hp → Prop}  {S : Hp}   (hw : wp_X11_spoil_27  Q  S) : Go p l e { frames := 3, cells := 0, slots := 0, locals := 78 } s m args below meth c z 6 (MQ below (Qx z (wI Q)) args s 0 0 (own z)) (0) (0) 27 [] [] (S) := by
  refine G_bipush (pc := 27) C (v := -2) dX11_spoil_27 (by decide) ?_
  exact G_iret (pc := 29) C rfl dX11_spoil_29 ⟨_, rfl, hw⟩
set_option maxHeartbeats 4000000 in
set_option maxRecDepth 100000 in
theorem c_X11_spoil (l : Launch) (z : Zt) (a0 : Nat) (x1 : Int32) (x2 : Int32) (x3 : Int32) (S : Hp) (Q : Int32 → Hp → Prop) (hw : wp_X11_spoil a0 x1 x2 x3 S Q) : Ct l z yX11_spoil cX11_spoil 6 (some .int) 3 78 0 0 [.ref (a0), .int (x1), .int (x2), .int (x3)] S (wI Q) := by
  refine Ct_of (by decide) (Nat.le_of_ble_eq_true rfl) ?_
  intro p e s m args below meth c C
  have C : Cx p s m args meth c z cX11_spoil 6 RX11 (some .int) "spoil" := C
  refine G_sub (lv' := [(0, .ref (a0)), (1, .int (x1)), (2, .int (x2)), (3, .int (x3))]) [0, 1, 2, 3] rfl ?_
  refine G_aload_n (pc := 0) C 0 dX11_spoil_0 rfl rfl ?_
  obtain ⟨hk, hw⟩ := hw
  refine gf_RX11_51 (pc := 1) C dX11_spoil_1 hk ?_
  refine G_iload_n (pc := 4) C 1 dX11_spoil_4 rfl rfl ?_
  obtain ⟨b1, hq, hw⟩ := hw
  rw [hq]
  obtain ⟨hk, hw⟩ := hw
  refine cl_RX11_145 (pc := 5) C (c_X3_hasPacket l z (b1) (x1) S _ hw) ⟨Nat.le_of_ble_eq_true rfl, Nat.le_of_ble_eq_true rfl⟩ hk dX11_spoil_5 (Nat.le_of_ble_eq_true rfl) (fun v S' hp => ?_)
  clear hw
  obtain ⟨hS, e2, rfl, hw⟩ := hp
  subst S'
  refine G_if_eq (pc := 8) C 27 dX11_spoil_8 (by decide) (fun hc => ?_) (fun hc => ?_)
  · have hw := hw.1 hc
    exact G_sub [] rfl (g_X11_spoil_27 C  hw)
  · have hw := hw.2 hc
    refine G_aload_n (pc := 11) C 0 dX11_spoil_11 rfl rfl ?_
    obtain ⟨hk, hw⟩ := hw
    refine gf_RX11_51 (pc := 12) C dX11_spoil_12 hk ?_
    obtain ⟨b4, hq, hw⟩ := hw
    rw [hq]
    obtain ⟨hk, hw⟩ := hw
    refine gf_RX11_148 (pc := 15) C dX11_spoil_15 hk ?_
    refine G_iload_n (pc := 18) C 1 dX11_spoil_18 rfl rfl ?_
    obtain ⟨b5, hq, hw⟩ := hw
    rw [hq]
    obtain ⟨hk, hi, hw⟩ := hw
    refine G_aald (pc := 19) C 2 rfl (by decide) rfl hk hi dX11_spoil_19 ?_
    refine G_iload_n (pc := 20) C 2 dX11_spoil_20 rfl rfl ?_
    obtain ⟨b6, hq, hw⟩ := hw
    rw [hq]
    obtain ⟨hk, hw⟩ := hw
    refine cl_RX11_160 (pc := 21) C (c_X4_holds l z (b6) (x2) S _ hw) ⟨Nat.le_of_ble_eq_true rfl, Nat.le_of_ble_eq_true rfl⟩ hk dX11_spoil_21 (Nat.le_of_ble_eq_true rfl) (fun v S' hp => ?_)
    clear hw
    obtain ⟨hS, e7, rfl, hw⟩ := hp
    subst S'
    refine G_if_ne (pc := 24) C 30 dX11_spoil_24 (by decide) (fun hc => ?_) (fun hc => ?_)
    · have hw := hw.1 hc
      refine G_iload_n (pc := 30) C 3 dX11_spoil_30 rfl rfl ?_
      refine G_iconst (pc := 31) C (v := 0) dX11_spoil_31 (by decide) ?_
      refine G_bipush (pc := 32) C (v := 28) dX11_spoil_32 (by decide) ?_
      refine cl_RX11_64 (pc := 34) C (c_X11_within l z (x3) ((0 : Int32)) ((28 : Int32)) S _ hw) ⟨Nat.le_of_ble_eq_true rfl, Nat.le_of_ble_eq_true rfl⟩ dX11_spoil_34 (Nat.le_of_ble_eq_true rfl) (fun v S' hp => ?_)
      clear hw
      obtain ⟨hS, e9, rfl, hw⟩ := hp
      subst S'
      refine G_if_ne (pc := 37) C 43 dX11_spoil_37 (by decide) (fun hc => ?_) (fun hc => ?_)
      · have hw := hw.1 hc
        refine G_aload_n (pc := 43) C 0 dX11_spoil_43 rfl rfl ?_
        obtain ⟨hk, hw⟩ := hw
        refine gf_RX11_51 (pc := 44) C dX11_spoil_44 hk ?_
        obtain ⟨b11, hq, hw⟩ := hw
        rw [hq]
        obtain ⟨hk, hw⟩ := hw
        refine gf_RX11_148 (pc := 47) C dX11_spoil_47 hk ?_
        refine G_iload_n (pc := 50) C 1 dX11_spoil_50 rfl rfl ?_
        obtain ⟨b12, hq, hw⟩ := hw
        rw [hq]
        obtain ⟨hk, hi, hw⟩ := hw
        refine G_aald (pc := 51) C 2 rfl (by decide) rfl hk hi dX11_spoil_51 ?_
        obtain ⟨b13, hq, hw⟩ := hw
        rw [hq]
        refine G_astore (pc := 52) C [(4, .ref (b13)), (0, .ref (a0)), (1, .int (x1)), (2, .int (x2)), (3, .int (x3))] dX11_spoil_52 (by decide) rfl ?_
        refine G_aload_n (pc := 54) C 1 dX11_spoil_54 rfl rfl ?_
        obtain ⟨hk, hw⟩ := hw
        refine gf_RX11_60 (pc := 55) C dX11_spoil_55 hk ?_
        refine G_aload_n (pc := 58) C 1 dX11_spoil_58 rfl rfl ?_
        obtain ⟨hk, hw⟩ := hw
        refine gf_RX11_28 (pc := 59) C dX11_spoil_59 hk ?_
        refine G_aload_n (pc := 62) C 1 dX11_spoil_62 rfl rfl ?_
        obtain ⟨hk, hw⟩ := hw
        refine gf_RX11_51 (pc := 63) C dX11_spoil_63 hk ?_
        refine G_aload (pc := 66) C 0 dX11_spoil_66 rfl ?_
        obtain ⟨b14, hq, hw⟩ := hw
        rw [hq]
        obtain ⟨b15, hq, hw⟩ := hw
        rw [hq]
        obtain ⟨b16, hq, hw⟩ := hw
        rw [hq]
        obtain ⟨hk, hw⟩ := hw
        refine cl_RX11_123 (pc := 68) C (c_X9_keep l z (b16) (b14) (b15) ((some b13)) S _ hw) ⟨Nat.le_of_ble_eq_true rfl, Nat.le_of_ble_eq_true rfl⟩ hk dX11_spoil_68 (Nat.le_of_ble_eq_true rfl) (fun v S' hp => ?_)
        clear hw
        obtain ⟨rfl, hw⟩ := hp
        generalize S' = S18 at hw ⊢
        refine G_aload (pc := 71) C 0 dX11_spoil_71 rfl ?_
        obtain ⟨hk, hw⟩ := hw
        refine gf_RX11_163 (pc := 73) C dX11_spoil_73 hk ?_
        refine G_iload_n (pc := 76) C 3 dX11_spoil_76 rfl rfl ?_
        obtain ⟨b19, hq, hw⟩ := hw
        rw [hq]
        obtain ⟨hk, hi, hw⟩ := hw
        refine G_iald (pc := 77) C hk hi dX11_spoil_77 ?_
        refine G_topi (fun e20 he20 => ?_)
        have hw := hw e20 he20
        clear he20
        refine G_istore (pc := 78) C [(5, .int (e20)), (4, .ref (b13)), (0, .ref (a0)), (1, .int (x1)), (2, .int (x2)), (3, .int (x3))] dX11_spoil_78 (by decide) rfl ?_
        refine G_aload (pc := 80) C 1 dX11_spoil_80 rfl ?_
        obtain ⟨hk, hw⟩ := hw
        refine gf_RX11_163 (pc := 82) C dX11_spoil_82 hk ?_
        refine G_iload_n (pc := 85) C 4 dX11_spoil_85 rfl rfl ?_
        refine G_iload_n (pc := 86) C 5 dX11_spoil_86 rfl rfl ?_
        obtain ⟨b21, hq, hw⟩ := hw
        rw [hq]
        obtain ⟨hk, hi, hw⟩ := hw
        refine G_iast (pc := 87) C hk hi dX11_spoil_87 ?_
        obtain ⟨S22, hS22⟩ : ∃ y : Hp, y = sI S18 0 b21 (x2).toNatClampNeg x3 := ⟨_, rfl⟩
        have hw := hw S22 hS22
        rw [← hS22]
        clear hS22
        refine G_iload (pc := 88) C 0 dX11_spoil_88 rfl ?_
        exact G_iret (pc := 90) C rfl dX11_spoil_90 ⟨_, rfl, hw⟩
      · have hw := hw.2 hc
        refine G_bipush (pc := 40) C (v := -3) dX11_spoil_40 (by decide) ?_
        exact G_iret (pc := 42) C rfl dX11_spoil_42 ⟨_, rfl, hw⟩
    · have hw := hw.2 hc
      exact G_sub [] rfl (g_X11_spoil_27 C  hw)
/-! FirstParts.again(I)I -/
abbrev wp_X11_again (a0 : Nat) (x1 : Int32) (S : Hp) (Q : Int32 → Hp → Prop) : Prop :=
  kd S a0 = 12 ∧ ∃ b1, (gR S 183 a0 0) = some b1 ∧ kd S b1 = 4 ∧ wp_X3_hasPacket (b1) (x1) S (fun e2 => ((e2 ≠ 0 → kd S a0 = 12 ∧ kd S a0 = 12 ∧ kd S a0 = 12 ∧ kd S a0 = 12 ∧ ∃ b4, (gR S 183 a0 0) = some b4 ∧ kd S b4 = 4 ∧ ∃ b5, (gR S 52 b4 0) = some b5 ∧ kd S b5 = 22 ∧ vp_in x1 (ln S b5) ∧ ∃ b6, (gR S 179 a0 0) = some b6 ∧ ∃ b7, (gR S 180 a0 0) = some b7 ∧ kd S b7 = 10 ∧ wp_X9_keep (b7) (b6) (b4) ((gR S 0 b5 (x1).toNatClampNeg)) S (fun S9 => kd S9 a0 = 12 ∧ ∃ b10, (gR S9 183 a0 0) = some b10 ∧ kd S9 b10 = 4 ∧ ∃ b11, (gR S9 52 b10 0) = some b11 ∧ kd S9 b11 = 22 ∧ vp_in x1 (ln S9 b11) ∧ kd S9 a0 = 12 ∧ ∃ b12, (gR S9 183 a0 0) = some b12 ∧ kd S9 b12 = 4 ∧ ∃ b13, (gR S9 0 b11 (x1).toNatClampNeg) = some b13 ∧ kd S9 b13 = 5 ∧ wp_X4_sendAgain (b13) ((gI S9 54 b12 0)) S9 (fun e14 S15 => Q e14 S15))) ∧ (e2 = 0 → Q (-2 : Int32) S)))
set_option maxHeartbeats 4000000 in
set_option maxRecDepth 100000 in
theorem c_X11_again (l : Launch) (z : Zt) (a0 : Nat) (x1 : Int32) (S : Hp) (Q : Int32 → Hp → Prop) (hw : wp_X11_again a0 x1 S Q) : Ct l z yX11_again cX11_again 2 (some .int) 3 78 0 0 [.ref (a0), .int (x1)] S (wI Q) := by
  refine Ct_of (by decide) (Nat.le_of_ble_eq_true rfl) ?_
  intro p e s m args below meth c C
  have C : Cx p s m args meth c z cX11_again 2 RX11 (some .int) "again" := C
  refine G_sub (lv' := [(0, .ref (a0)), (1, .int (x1))]) [0, 1] rfl ?_
  refine G_aload_n (pc := 0) C 0 dX11_again_0 rfl rfl ?_
  obtain ⟨hk, hw⟩ := hw
  refine gf_RX11_51 (pc := 1) C dX11_again_1 hk ?_
  refine G_iload_n (pc := 4) C 1 dX11_again_4 rfl rfl ?_
  obtain ⟨b1, hq, hw⟩ := hw
  rw [hq]
  obtain ⟨hk, hw⟩ := hw
  refine cl_RX11_145 (pc := 5) C (c_X3_hasPacket l z (b1) (x1) S _ hw) ⟨Nat.le_of_ble_eq_true rfl, Nat.le_of_ble_eq_true rfl⟩ hk dX11_again_5 (Nat.le_of_ble_eq_true rfl) (fun v S' hp => ?_)
  clear hw
  obtain ⟨hS, e2, rfl, hw⟩ := hp
  subst S'
  refine G_if_ne (pc := 8) C 14 dX11_again_8 (by decide) (fun hc => ?_) (fun hc => ?_)
  · have hw := hw.1 hc
    refine G_aload_n (pc := 14) C 0 dX11_again_14 rfl rfl ?_
    obtain ⟨hk, hw⟩ := hw
    refine gf_RX11_60 (pc := 15) C dX11_again_15 hk ?_
    refine G_aload_n (pc := 18) C 0 dX11_again_18 rfl rfl ?_
    obtain ⟨hk, hw⟩ := hw
    refine gf_RX11_28 (pc := 19) C dX11_again_19 hk ?_
    refine G_aload_n (pc := 22) C 0 dX11_again_22 rfl rfl ?_
    obtain ⟨hk, hw⟩ := hw
    refine gf_RX11_51 (pc := 23) C dX11_again_23 hk ?_
    refine G_aload_n (pc := 26) C 0 dX11_again_26 rfl rfl ?_
    obtain ⟨hk, hw⟩ := hw
    refine gf_RX11_51 (pc := 27) C dX11_again_27 hk ?_
    obtain ⟨b4, hq, hw⟩ := hw
    rw [hq]
    obtain ⟨hk, hw⟩ := hw
    refine gf_RX11_148 (pc := 30) C dX11_again_30 hk ?_
    refine G_iload_n (pc := 33) C 1 dX11_again_33 rfl rfl ?_
    obtain ⟨b5, hq, hw⟩ := hw
    rw [hq]
    obtain ⟨hk, hi, hw⟩ := hw
    refine G_aald (pc := 34) C 2 rfl (by decide) rfl hk hi dX11_again_34 ?_
    obtain ⟨b6, hq, hw⟩ := hw
    rw [hq]
    obtain ⟨b7, hq, hw⟩ := hw
    rw [hq]
    obtain ⟨hk, hw⟩ := hw
    refine cl_RX11_123 (pc := 35) C (c_X9_keep l z (b7) (b6) (b4) ((gR S 0 b5 (x1).toNatClampNeg)) S _ hw) ⟨Nat.le_of_ble_eq_true rfl, Nat.le_of_ble_eq_true rfl⟩ hk dX11_again_35 (Nat.le_of_ble_eq_true rfl) (fun v S' hp => ?_)
    clear hw
    obtain ⟨rfl, hw⟩ := hp
    generalize S' = S9 at hw ⊢
    refine G_aload_n (pc := 38) C 0 dX11_again_38 rfl rfl ?_
    obtain ⟨hk, hw⟩ := hw
    refine gf_RX11_51 (pc := 39) C dX11_again_39 hk ?_
    obtain ⟨b10, hq, hw⟩ := hw
    rw [hq]
    obtain ⟨hk, hw⟩ := hw
    refine gf_RX11_148 (pc := 42) C dX11_again_42 hk ?_
    refine G_iload_n (pc := 45) C 1 dX11_again_45 rfl rfl ?_
    obtain ⟨b11, hq, hw⟩ := hw
    rw [hq]
    obtain ⟨hk, hi, hw⟩ := hw
    refine G_aald (pc := 46) C 2 rfl (by decide) rfl hk hi dX11_again_46 ?_
    refine G_aload_n (pc := 47) C 0 dX11_again_47 rfl rfl ?_
    obtain ⟨hk, hw⟩ := hw
    refine gf_RX11_51 (pc := 48) C dX11_again_48 hk ?_
    obtain ⟨b12, hq, hw⟩ := hw
    rw [hq]
    obtain ⟨hk, hw⟩ := hw
    refine gf_RX11_144 (pc := 51) C dX11_again_51 hk ?_
    obtain ⟨b13, hq, hw⟩ := hw
    rw [hq]
    obtain ⟨hk, hw⟩ := hw
    refine cl_RX11_166 (pc := 54) C (c_X4_sendAgain l z (b13) ((gI S9 54 b12 0)) S9 _ hw) ⟨Nat.le_of_ble_eq_true rfl, Nat.le_of_ble_eq_true rfl⟩ hk dX11_again_54 (Nat.le_of_ble_eq_true rfl) (fun v S' hp => ?_)
    clear hw
    obtain ⟨e14, rfl, hw⟩ := hp
    generalize S' = S15 at hw ⊢
    exact G_iret (pc := 57) C rfl dX11_again_57 ⟨_, rfl, hw⟩
  · have hw := hw.2 hc
    refine G_bipush (pc := 11) C (v := -2) dX11_again_11 (by decide) ?_
    exact G_iret (pc := 13) C rfl dX11_again_13 ⟨_, rfl, hw⟩
/-! FirstParts.undo()I -/
abbrev wp_X11_undo (a0 : Nat) (S : Hp) (Q : Int32 → Hp → Prop) : Prop :=
  kd S a0 = 12 ∧ ∃ b1, (gR S 180 a0 0) = some b1 ∧ kd S b1 = 10 ∧ (((gI S 147 b1 0) ≠ 0 → kd S a0 = 12 ∧ ∃ b2, (gR S 180 a0 0) = some b2 ∧ kd S b2 = 10 ∧ wp_X9_takeBack (b2) S (fun n3 S4 => kd S4 a0 = 12 ∧ ∃ b5, (gR S4 179 a0 0) = some b5 ∧ kd S4 n3 = 9 ∧ wp_X8_giveBack (n3) (b5) S4 (fun S7 => kd S7 n3 = 9 ∧ kd S7 a0 = 12 ∧ ∀ S8 : Hp, S8 = sR S7 183 a0 0 ((gR S7 130 n3 0)) → kd S8 a0 = 12 ∧ ∃ b9, (gR S8 180 a0 0) = some b9 ∧ kd S8 b9 = 10 ∧ Q (gI S8 147 b9 0) S8))) ∧ ((gI S 147 b1 0) = 0 → Q (-4 : Int32) S))
set_option maxHeartbeats 4000000 in
set_option maxRecDepth 100000 in
theorem c_X11_undo (l : Launch) (z : Zt) (a0 : Nat) (S : Hp) (Q : Int32 → Hp → Prop) (hw : wp_X11_undo a0 S Q) : Ct l z yX11_undo cX11_undo 2 (some .int) 2 53 0 0 [.ref (a0)] S (wI Q) := by
  refine Ct_of (by decide) (Nat.le_of_ble_eq_true rfl) ?_
  intro p e s m args below meth c C
  have C : Cx p s m args meth c z cX11_undo 2 RX11 (some .int) "undo" := C
  refine G_sub (lv' := [(0, .ref (a0))]) [0] rfl ?_
  refine G_aload_n (pc := 0) C 0 dX11_undo_0 rfl rfl ?_
  obtain ⟨hk, hw⟩ := hw
  refine gf_RX11_60 (pc := 1) C dX11_undo_1 hk ?_
  obtain ⟨b1, hq, hw⟩ := hw
  rw [hq]
  obtain ⟨hk, hw⟩ := hw
  refine gf_RX11_169 (pc := 4) C dX11_undo_4 hk ?_
  refine G_if_ne (pc := 7) C 13 dX11_undo_7 (by decide) (fun hc => ?_) (fun hc => ?_)
  · have hw := hw.1 hc
    refine G_aload_n (pc := 13) C 0 dX11_undo_13 rfl rfl ?_
    obtain ⟨hk, hw⟩ := hw
    refine gf_RX11_60 (pc := 14) C dX11_undo_14 hk ?_
    obtain ⟨b2, hq, hw⟩ := hw
    rw [hq]
    obtain ⟨hk, hw⟩ := hw
    refine cl_RX11_172 (pc := 17) C (c_X9_takeBack l z (b2) S _ hw) ⟨Nat.le_of_ble_eq_true rfl, Nat.le_of_ble_eq_true rfl⟩ hk dX11_undo_17 (Nat.le_of_ble_eq_true rfl) (fun v S' hp => ?_)
    clear hw
    obtain ⟨n3, rfl, hw⟩ := hp
    generalize S' = S4 at hw ⊢
    refine G_astore_n (pc := 20) C [(1, .ref (n3)), (0, .ref (a0))] dX11_undo_20 rfl (by decide) rfl ?_
    refine G_aload_n (pc := 21) C 0 dX11_undo_21 rfl rfl ?_
    refine G_aload_n (pc := 22) C 1 dX11_undo_22 rfl rfl ?_
    obtain ⟨hk, hw⟩ := hw
    refine gf_RX11_28 (pc := 23) C dX11_undo_23 hk ?_
    obtain ⟨b5, hq, hw⟩ := hw
    rw [hq]
    obtain ⟨hk, hw⟩ := hw
    refine cl_RX11_176 (pc := 26) C (c_X8_giveBack l z (n3) (b5) S4 _ hw) ⟨Nat.le_of_ble_eq_true rfl, Nat.le_of_ble_eq_true rfl⟩ hk dX11_undo_26 (Nat.le_of_ble_eq_true rfl) (fun v S' hp => ?_)
    clear hw
    obtain ⟨rfl, hw⟩ := hp
    generalize S' = S7 at hw ⊢
    refine G_aload_n (pc := 29) C 1 dX11_undo_29 rfl rfl ?_
    refine G_aload_n (pc := 30) C 0 dX11_undo_30 rfl rfl ?_
    obtain ⟨hk, hw⟩ := hw
    refine gf_RX11_182 (pc := 31) C dX11_undo_31 hk ?_
    obtain ⟨hk, hw⟩ := hw
    refine pf_RX11_51 (pc := 34) C (v := (gR S7 130 n3 0)) dX11_undo_34 hk ?_
    obtain ⟨S8, hS8⟩ : ∃ y : Hp, y = sR S7 183 a0 0 ((gR S7 130 n3 0)) := ⟨_, rfl⟩
    have hw := hw S8 hS8
    rw [← hS8]
    clear hS8
    refine G_aload_n (pc := 37) C 1 dX11_undo_37 rfl rfl ?_
    obtain ⟨hk, hw⟩ := hw
    refine gf_RX11_60 (pc := 38) C dX11_undo_38 hk ?_
    obtain ⟨b9, hq, hw⟩ := hw
    rw [hq]
    obtain ⟨hk, hw⟩ := hw
    refine gf_RX11_169 (pc := 41) C dX11_undo_41 hk ?_
    exact G_iret (pc := 44) C rfl dX11_undo_44 ⟨_, rfl, hw⟩
  · have hw := hw.2 hc
    refine G_bipush (pc := 10) C (v := -4) dX11_undo_10 (by decide) ?_
    exact G_iret (pc := 12) C rfl dX11_undo_12 ⟨_, rfl, hw⟩
/-! FirstParts.number(II)I -/
abbrev wp_X11_number_28  (Q : Int32 → Prop)  (S : Hp) : Prop :=
  Q (-2 : Int32)
abbrev wp_X11_number_59  (Q : Int32 → Prop) (s0 : Int32) (S : Hp) : Prop :=
  Q s0
abbrev wp_X11_number (a0 : Nat) (x1 : Int32) (x2 : Int32) (S : Hp) (Q : Int32 → Prop) : Prop :=
  kd S a0 = 12 ∧ ∃ b1, (gR S 183 a0 0) = some b1 ∧ kd S b1 = 4 ∧ wp_X3_hasPacket (b1) (x1) S (fun e2 => ((e2 = 0 → wp_X11_number_28 Q (S)) ∧ (¬ e2 = 0 → kd S a0 = 12 ∧ ∃ b4, (gR S 183 a0 0) = some b4 ∧ kd S b4 = 4 ∧ wp_X11_within (x2) ((0 : Int32)) (((gI S 54 b4 0) - (1 : Int32))) S (fun e5 => ((e5 ≠ 0 → kd S a0 = 12 ∧ ∃ b7, (gR S 183 a0 0) = some b7 ∧ kd S b7 = 4 ∧ ∃ b8, (gR S 52 b7 0) = some b8 ∧ kd S b8 = 22 ∧ vp_in x1 (ln S b8) ∧ ∃ b9, (gR S 0 b8 (x1).toNatClampNeg) = some b9 ∧ kd S b9 = 5 ∧ wp_X4_holds (b9) (x2) S (fun e10 => ((e10 = 0 → wp_X11_number_59 Q ((-1 : Int32)) (S)) ∧ (¬ e10 = 0 → kd S b9 = 5 ∧ ∃ b12, (gR S 66 b9 0) = some b12 ∧ kd S b12 = 20 ∧ vp_in x2 (ln S b12) ∧ wp_X11_number_59 Q ((gI S 0 b12 (x2).toNatClampNeg)) (S))))) ∧ (e5 = 0 → wp_X11_number_28 Q (S)))))))
set_option maxHeartbeats 4000000 in
set_option maxRecDepth 100000 in
theorem g_X11_number_28 (C : Cx p s m args meth c z cX11_number 4 RX11 (some .int) "number")  {Q : Int32 → Prop}  {S : Hp}   (hw : wp_X11_number_28  Q  S) : Go p l e { frames := 2, cells := 0, slots := 0, locals := 43 } s m args below meth c z 4 (MQ below (Qx z (pI S Q)) args s 0 0 (own z)) (0) (0) 28 [] [] (S) := by
  refine G_bipush (pc := 28) C (v := -2) dX11_number_28 (by decide) ?_
  exact G_iret (pc := 30) C rfl dX11_number_30 ⟨rfl, _, rfl, hw⟩
set_option maxHeartbeats 4000000 in
set_option maxRecDepth 100000 in
theorem g_X11_number_59 (C : Cx p s m args meth c z cX11_number 4 RX11 (some .int) "number")  {Q : Int32 → Prop} {s0 : Int32} {S : Hp}   (hw : wp_X11_number_59  Q s0 S) : Go p l e { frames := 2, cells := 0, slots := 0, locals := 43 } s m args below meth c z 4 (MQ below (Qx z (pI S Q)) args s 0 0 (own z)) (0) (0) 59 [] [.int (s0)] (S) := by
  exact G_iret (pc := 59) C rfl dX11_number_59 ⟨rfl, _, rfl, hw⟩
set_option maxHeartbeats 4000000 in
set_option maxRecDepth 100000 in
theorem c_X11_number (l : Launch) (z : Zt) (a0 : Nat) (x1 : Int32) (x2 : Int32) (S : Hp) (Q : Int32 → Prop) (hw : wp_X11_number a0 x1 x2 S Q) : Ct l z yX11_number cX11_number 4 (some .int) 2 43 0 0 [.ref (a0), .int (x1), .int (x2)] S (pI S Q) := by
  refine Ct_of (by decide) (Nat.le_of_ble_eq_true rfl) ?_
  intro p e s m args below meth c C
  have C : Cx p s m args meth c z cX11_number 4 RX11 (some .int) "number" := C
  refine G_sub (lv' := [(0, .ref (a0)), (1, .int (x1)), (2, .int (x2))]) [0, 1, 2] rfl ?_
  refine G_aload_n (pc := 0) C 0 dX11_number_0 rfl rfl ?_
  obtain ⟨hk, hw⟩ := hw
  refine gf_RX11_51 (pc := 1) C dX11_number_1 hk ?_
  refine G_iload_n (pc := 4) C 1 dX11_number_4 rfl rfl ?_
  obtain ⟨b1, hq, hw⟩ := hw
  rw [hq]
  obtain ⟨hk, hw⟩ := hw
  refine cl_RX11_145 (pc := 5) C (c_X3_hasPacket l z (b1) (x1) S _ hw) ⟨Nat.le_of_ble_eq_true rfl, Nat.le_of_ble_eq_true rfl⟩ hk dX11_number_5 (Nat.le_of_ble_eq_true rfl) (fun v S' hp => ?_)
  clear hw
  obtain ⟨hS, e2, rfl, hw⟩ := hp
  subst S'
  refine G_if_eq (pc := 8) C 28 dX11_number_8 (by decide) (fun hc => ?_) (fun hc => ?_)
  · have hw := hw.1 hc
    exact G_sub [] rfl (g_X11_number_28 C  hw)
  · have hw := hw.2 hc
    refine G_iload_n (pc := 11) C 2 dX11_number_11 rfl rfl ?_
    refine G_iconst (pc := 12) C (v := 0) dX11_number_12 (by decide) ?_
    refine G_aload_n (pc := 13) C 0 dX11_number_13 rfl rfl ?_
    obtain ⟨hk, hw⟩ := hw
    refine gf_RX11_51 (pc := 14) C dX11_number_14 hk ?_
    obtain ⟨b4, hq, hw⟩ := hw
    rw [hq]
    obtain ⟨hk, hw⟩ := hw
    refine gf_RX11_144 (pc := 17) C dX11_number_17 hk ?_
    refine G_iconst (pc := 20) C (v := 1) dX11_number_20 (by decide) ?_
    refine G_isub (pc := 21) C dX11_number_21 ?_
    refine cl_RX11_64 (pc := 22) C (c_X11_within l z (x2) ((0 : Int32)) (((gI S 54 b4 0) - (1 : Int32))) S _ hw) ⟨Nat.le_of_ble_eq_true rfl, Nat.le_of_ble_eq_true rfl⟩ dX11_number_22 (Nat.le_of_ble_eq_true rfl) (fun v S' hp => ?_)
    clear hw
    obtain ⟨hS, e5, rfl, hw⟩ := hp
    subst S'
    refine G_if_ne (pc := 25) C 31 dX11_number_25 (by decide) (fun hc => ?_) (fun hc => ?_)
    · have hw := hw.1 hc
      refine G_aload_n (pc := 31) C 0 dX11_number_31 rfl rfl ?_
      obtain ⟨hk, hw⟩ := hw
      refine gf_RX11_51 (pc := 32) C dX11_number_32 hk ?_
      obtain ⟨b7, hq, hw⟩ := hw
      rw [hq]
      obtain ⟨hk, hw⟩ := hw
      refine gf_RX11_148 (pc := 35) C dX11_number_35 hk ?_
      refine G_iload_n (pc := 38) C 1 dX11_number_38 rfl rfl ?_
      obtain ⟨b8, hq, hw⟩ := hw
      rw [hq]
      obtain ⟨hk, hi, hw⟩ := hw
      refine G_aald (pc := 39) C 2 rfl (by decide) rfl hk hi dX11_number_39 ?_
      obtain ⟨b9, hq, hw⟩ := hw
      rw [hq]
      refine G_astore_n (pc := 40) C [(3, .ref (b9)), (0, .ref (a0)), (1, .int (x1)), (2, .int (x2))] dX11_number_40 rfl (by decide) rfl ?_
      refine G_aload_n (pc := 41) C 0 dX11_number_41 rfl rfl ?_
      refine G_iload_n (pc := 42) C 3 dX11_number_42 rfl rfl ?_
      obtain ⟨hk, hw⟩ := hw
      refine cl_RX11_160 (pc := 43) C (c_X4_holds l z (b9) (x2) S _ hw) ⟨Nat.le_of_ble_eq_true rfl, Nat.le_of_ble_eq_true rfl⟩ hk dX11_number_43 (Nat.le_of_ble_eq_true rfl) (fun v S' hp => ?_)
      clear hw
      obtain ⟨hS, e10, rfl, hw⟩ := hp
      subst S'
      refine G_if_eq (pc := 46) C 58 dX11_number_46 (by decide) (fun hc => ?_) (fun hc => ?_)
      · have hw := hw.1 hc
        refine G_iconst (pc := 58) C (v := -1) dX11_number_58 (by decide) ?_
        exact G_sub [] rfl (g_X11_number_59 C  hw)
      · have hw := hw.2 hc
        refine G_aload_n (pc := 49) C 0 dX11_number_49 rfl rfl ?_
        obtain ⟨hk, hw⟩ := hw
        refine gf_RX11_163 (pc := 50) C dX11_number_50 hk ?_
        refine G_iload_n (pc := 53) C 3 dX11_number_53 rfl rfl ?_
        obtain ⟨b12, hq, hw⟩ := hw
        rw [hq]
        obtain ⟨hk, hi, hw⟩ := hw
        refine G_iald (pc := 54) C hk hi dX11_number_54 ?_
        refine G_goto (pc := 55) C 59 dX11_number_55 (by decide) ?_
        exact G_sub [] rfl (g_X11_number_59 C  hw)
    · have hw := hw.2 hc
      exact G_sub [] rfl (g_X11_number_28 C  hw)
/-! FirstParts.packed(II)I -/
abbrev wp_X11_packed (a0 : Nat) (x1 : Int32) (x2 : Int32) (S : Hp) (Q : Int32 → Hp → Prop) : Prop :=
  kd S a0 = 12 ∧ ∃ b1, (gR S 183 a0 0) = some b1 ∧ kd S b1 = 4 ∧ wp_X3_hasPart (b1) (x1) S (fun e2 => ((e2 ≠ 0 → ((x2 = 0 → kd S a0 = 12 ∧ kd S a0 = 12 ∧ ∃ b4, (gR S 182 a0 0) = some b4 ∧ ∃ b5, (gR S 183 a0 0) = some b5 ∧ kd S b5 = 4 ∧ wp_X3_stateOf (b5) (x1) (b4) S (fun e6 S7 => Q e6 S7)) ∧ (¬ x2 = 0 → ((x2 = 1 → kd S a0 = 12 ∧ ∃ b8, (gR S 183 a0 0) = some b8 ∧ kd S b8 = 4 ∧ ∃ b9, (gR S 49 b8 0) = some b9 ∧ kd S b9 = 23 ∧ vp_in x1 (ln S b9) ∧ ∃ b10, (gR S 0 b9 (x1).toNatClampNeg) = some b10 ∧ kd S b10 = 6 ∧ Q (gI S 82 b10 0) S) ∧ (¬ x2 = 1 → ((x2 = 2 → kd S a0 = 12 ∧ ∃ b11, (gR S 183 a0 0) = some b11 ∧ kd S b11 = 4 ∧ ∃ b12, (gR S 49 b11 0) = some b12 ∧ kd S b12 = 23 ∧ vp_in x1 (ln S b12) ∧ ∃ b13, (gR S 0 b12 (x1).toNatClampNeg) = some b13 ∧ kd S b13 = 6 ∧ ∃ b14, (gR S 81 b13 0) = some b14 ∧ kd S b14 = 20 ∧ Q (Int32.ofNat (ln S b14)) S) ∧ (¬ x2 = 2 → ((x2 = 3 → kd S a0 = 12 ∧ ∃ b15, (gR S 183 a0 0) = some b15 ∧ kd S b15 = 4 ∧ ∃ b16, (gR S 51 b15 0) = some b16 ∧ kd S b16 = 20 ∧ vp_in x1 (ln S b16) ∧ Q (gI S 0 b16 (x1).toNatClampNeg) S) ∧ (¬ x2 = 3 → ((x2 = 4 → kd S a0 = 12 ∧ ∃ b17, (gR S 183 a0 0) = some b17 ∧ kd S b17 = 4 ∧ wp_X3_fewestHolders (b17) (x1) S (fun e18 => Q e18 S)) ∧ (¬ x2 = 4 → ((x2 = 5 → kd S a0 = 12 ∧ ∃ b20, (gR S 183 a0 0) = some b20 ∧ kd S b20 = 4 ∧ wp_X3_openingSets (b20) (x1) S (fun e21 => Q e21 S)) ∧ (¬ x2 = 5 → Q (-3 : Int32) S))))))))))))) ∧ (e2 = 0 → Q (-2 : Int32) S)))
set_option maxHeartbeats 4000000 in
set_option maxRecDepth 100000 in
theorem c_X11_packed (l : Launch) (z : Zt) (a0 : Nat) (x1 : Int32) (x2 : Int32) (S : Hp) (Q : Int32 → Hp → Prop) (hw : wp_X11_packed a0 x1 x2 S Q) : Ct l z yX11_packed cX11_packed 3 (some .int) 5 112 0 0 [.ref (a0), .int (x1), .int (x2)] S (wI Q) := by
  refine Ct_of (by decide) (Nat.le_of_ble_eq_true rfl) ?_
  intro p e s m args below meth c C
  have C : Cx p s m args meth c z cX11_packed 3 RX11 (some .int) "packed" := C
  refine G_sub (lv' := [(0, .ref (a0)), (1, .int (x1)), (2, .int (x2))]) [0, 1, 2] rfl ?_
  refine G_aload_n (pc := 0) C 0 dX11_packed_0 rfl rfl ?_
  obtain ⟨hk, hw⟩ := hw
  refine gf_RX11_51 (pc := 1) C dX11_packed_1 hk ?_
  refine G_iload_n (pc := 4) C 1 dX11_packed_4 rfl rfl ?_
  obtain ⟨b1, hq, hw⟩ := hw
  rw [hq]
  obtain ⟨hk, hw⟩ := hw
  refine cl_RX11_183 (pc := 5) C (c_X3_hasPart l z (b1) (x1) S _ hw) ⟨Nat.le_of_ble_eq_true rfl, Nat.le_of_ble_eq_true rfl⟩ hk dX11_packed_5 (Nat.le_of_ble_eq_true rfl) (fun v S' hp => ?_)
  clear hw
  obtain ⟨hS, e2, rfl, hw⟩ := hp
  subst S'
  refine G_if_ne (pc := 8) C 14 dX11_packed_8 (by decide) (fun hc => ?_) (fun hc => ?_)
  · have hw := hw.1 hc
    refine G_iload_n (pc := 14) C 2 dX11_packed_14 rfl rfl ?_
    by_cases hc0 : x2 = 0
    · have hw := hw.1 hc0
      refine G_tableIn (pc := 15) C 52 dX11_packed_15 (by rw [hc0]; decide) (by rw [hc0]; decide) (off := 37) (by rw [hc0]; rfl) (by decide) ?_
      refine G_aload_n (pc := 52) C 0 dX11_packed_52 rfl rfl ?_
      obtain ⟨hk, hw⟩ := hw
      refine gf_RX11_51 (pc := 53) C dX11_packed_53 hk ?_
      refine G_iload_n (pc := 56) C 1 dX11_packed_56 rfl rfl ?_
      refine G_aload_n (pc := 57) C 0 dX11_packed_57 rfl rfl ?_
      obtain ⟨hk, hw⟩ := hw
      refine gf_RX11_42 (pc := 58) C dX11_packed_58 hk ?_
      obtain ⟨b4, hq, hw⟩ := hw
      rw [hq]
      obtain ⟨b5, hq, hw⟩ := hw
      rw [hq]
      obtain ⟨hk, hw⟩ := hw
      refine cl_RX11_186 (pc := 61) C (c_X3_stateOf l z (b5) (x1) (b4) S _ hw) ⟨Nat.le_of_ble_eq_true rfl, Nat.le_of_ble_eq_true rfl⟩ hk dX11_packed_61 (Nat.le_of_ble_eq_true rfl) (fun v S' hp => ?_)
      clear hw
      obtain ⟨e6, rfl, hw⟩ := hp
      generalize S' = S7 at hw ⊢
      exact G_iret (pc := 64) C rfl dX11_packed_64 ⟨_, rfl, hw⟩
    have hw := hw.2 hc0
    by_cases hc1 : x2 = 1
    · have hw := hw.1 hc1
      refine G_tableIn (pc := 15) C 65 dX11_packed_15 (by rw [hc1]; decide) (by rw [hc1]; decide) (off := 50) (by rw [hc1]; rfl) (by decide) ?_
      refine G_aload_n (pc := 65) C 0 dX11_packed_65 rfl rfl ?_
      obtain ⟨hk, hw⟩ := hw
      refine gf_RX11_51 (pc := 66) C dX11_packed_66 hk ?_
      obtain ⟨b8, hq, hw⟩ := hw
      rw [hq]
      obtain ⟨hk, hw⟩ := hw
      refine gf_RX11_190 (pc := 69) C dX11_packed_69 hk ?_
      refine G_iload_n (pc := 72) C 1 dX11_packed_72 rfl rfl ?_
      obtain ⟨b9, hq, hw⟩ := hw
      rw [hq]
      obtain ⟨hk, hi, hw⟩ := hw
      refine G_aald (pc := 73) C 3 rfl (by decide) rfl hk hi dX11_packed_73 ?_
      obtain ⟨b10, hq, hw⟩ := hw
      rw [hq]
      obtain ⟨hk, hw⟩ := hw
      refine gf_RX11_110 (pc := 74) C dX11_packed_74 hk ?_
      exact G_iret (pc := 77) C rfl dX11_packed_77 ⟨_, rfl, hw⟩
    have hw := hw.2 hc1
    by_cases hc2 : x2 = 2
    · have hw := hw.1 hc2
      refine G_tableIn (pc := 15) C 78 dX11_packed_15 (by rw [hc2]; decide) (by rw [hc2]; decide) (off := 63) (by rw [hc2]; rfl) (by decide) ?_
      refine G_aload_n (pc := 78) C 0 dX11_packed_78 rfl rfl ?_
      obtain ⟨hk, hw⟩ := hw
      refine gf_RX11_51 (pc := 79) C dX11_packed_79 hk ?_
      obtain ⟨b11, hq, hw⟩ := hw
      rw [hq]
      obtain ⟨hk, hw⟩ := hw
      refine gf_RX11_190 (pc := 82) C dX11_packed_82 hk ?_
      refine G_iload_n (pc := 85) C 1 dX11_packed_85 rfl rfl ?_
      obtain ⟨b12, hq, hw⟩ := hw
      rw [hq]
      obtain ⟨hk, hi, hw⟩ := hw
      refine G_aald (pc := 86) C 3 rfl (by decide) rfl hk hi dX11_packed_86 ?_
      obtain ⟨b13, hq, hw⟩ := hw
      rw [hq]
      obtain ⟨hk, hw⟩ := hw
      refine gf_RX11_104 (pc := 87) C dX11_packed_87 hk ?_
      obtain ⟨b14, hq, hw⟩ := hw
      rw [hq]
      obtain ⟨hk, hw⟩ := hw
      refine G_alenI (pc := 90) C hk dX11_packed_90 ?_
      exact G_iret (pc := 91) C rfl dX11_packed_91 ⟨_, rfl, hw⟩
    have hw := hw.2 hc2
    by_cases hc3 : x2 = 3
    · have hw := hw.1 hc3
      refine G_tableIn (pc := 15) C 92 dX11_packed_15 (by rw [hc3]; decide) (by rw [hc3]; decide) (off := 77) (by rw [hc3]; rfl) (by decide) ?_
      refine G_aload_n (pc := 92) C 0 dX11_packed_92 rfl rfl ?_
      obtain ⟨hk, hw⟩ := hw
      refine gf_RX11_51 (pc := 93) C dX11_packed_93 hk ?_
      obtain ⟨b15, hq, hw⟩ := hw
      rw [hq]
      obtain ⟨hk, hw⟩ := hw
      refine gf_RX11_191 (pc := 96) C dX11_packed_96 hk ?_
      refine G_iload_n (pc := 99) C 1 dX11_packed_99 rfl rfl ?_
      obtain ⟨b16, hq, hw⟩ := hw
      rw [hq]
      obtain ⟨hk, hi, hw⟩ := hw
      refine G_iald (pc := 100) C hk hi dX11_packed_100 ?_
      exact G_iret (pc := 101) C rfl dX11_packed_101 ⟨_, rfl, hw⟩
    have hw := hw.2 hc3
    by_cases hc4 : x2 = 4
    · have hw := hw.1 hc4
      refine G_tableIn (pc := 15) C 102 dX11_packed_15 (by rw [hc4]; decide) (by rw [hc4]; decide) (off := 87) (by rw [hc4]; rfl) (by decide) ?_
      refine G_aload_n (pc := 102) C 0 dX11_packed_102 rfl rfl ?_
      obtain ⟨hk, hw⟩ := hw
      refine gf_RX11_51 (pc := 103) C dX11_packed_103 hk ?_
      refine G_iload_n (pc := 106) C 1 dX11_packed_106 rfl rfl ?_
      obtain ⟨b17, hq, hw⟩ := hw
      rw [hq]
      obtain ⟨hk, hw⟩ := hw
      refine cl_RX11_194 (pc := 107) C (c_X3_fewestHolders l z (b17) (x1) S _ hw) ⟨Nat.le_of_ble_eq_true rfl, Nat.le_of_ble_eq_true rfl⟩ hk dX11_packed_107 (Nat.le_of_ble_eq_true rfl) (fun v S' hp => ?_)
      clear hw
      obtain ⟨hS, e18, rfl, hw⟩ := hp
      subst S'
      exact G_iret (pc := 110) C rfl dX11_packed_110 ⟨_, rfl, hw⟩
    have hw := hw.2 hc4
    by_cases hc5 : x2 = 5
    · have hw := hw.1 hc5
      refine G_tableIn (pc := 15) C 111 dX11_packed_15 (by rw [hc5]; decide) (by rw [hc5]; decide) (off := 96) (by rw [hc5]; rfl) (by decide) ?_
      refine G_aload_n (pc := 111) C 0 dX11_packed_111 rfl rfl ?_
      obtain ⟨hk, hw⟩ := hw
      refine gf_RX11_51 (pc := 112) C dX11_packed_112 hk ?_
      refine G_iload_n (pc := 115) C 1 dX11_packed_115 rfl rfl ?_
      obtain ⟨b20, hq, hw⟩ := hw
      rw [hq]
      obtain ⟨hk, hw⟩ := hw
      refine cl_RX11_197 (pc := 116) C (c_X3_openingSets l z (b20) (x1) S _ hw) ⟨Nat.le_of_ble_eq_true rfl, Nat.le_of_ble_eq_true rfl⟩ hk dX11_packed_116 (Nat.le_of_ble_eq_true rfl) (fun v S' hp => ?_)
      clear hw
      obtain ⟨hS, e21, rfl, hw⟩ := hp
      subst S'
      exact G_iret (pc := 119) C rfl dX11_packed_119 ⟨_, rfl, hw⟩
    have hw := hw.2 hc5
    refine G_tableOut (pc := 15) C 120 dX11_packed_15 (by have k0 := ne_ti hc0 (by decide : (0 : Int32).toInt = 0); have k1 := ne_ti hc1 (by decide : (1 : Int32).toInt = 1); have k2 := ne_ti hc2 (by decide : (2 : Int32).toInt = 2); have k3 := ne_ti hc3 (by decide : (3 : Int32).toInt = 3); have k4 := ne_ti hc4 (by decide : (4 : Int32).toInt = 4); have k5 := ne_ti hc5 (by decide : (5 : Int32).toInt = 5); omega) (by decide) ?_
    refine G_bipush (pc := 120) C (v := -3) dX11_packed_120 (by decide) ?_
    exact G_iret (pc := 122) C rfl dX11_packed_122 ⟨_, rfl, hw⟩
  · have hw := hw.2 hc
    refine G_bipush (pc := 11) C (v := -2) dX11_packed_11 (by decide) ?_
    exact G_iret (pc := 13) C rfl dX11_packed_13 ⟨_, rfl, hw⟩
/-! FirstParts.read(II)I -/
abbrev wp_X11_read_27  (Q : Int32 → Hp → Prop)  (S : Hp) : Prop :=
  Q (-2 : Int32) S
abbrev wp_X11_read (a0 : Nat) (x1 : Int32) (x2 : Int32) (S : Hp) (Q : Int32 → Hp → Prop) : Prop :=
  kd S a0 = 12 ∧ ∃ b1, (gR S 183 a0 0) = some b1 ∧ kd S b1 = 4 ∧ wp_X3_hasPart (b1) (x1) S (fun e2 => ((e2 = 0 → wp_X11_read_27 Q (S)) ∧ (¬ e2 = 0 → kd S a0 = 12 ∧ ∃ b4, (gR S 183 a0 0) = some b4 ∧ kd S b4 = 4 ∧ ∃ b5, (gR S 49 b4 0) = some b5 ∧ kd S b5 = 23 ∧ vp_in x1 (ln S b5) ∧ ∃ b6, (gR S 0 b5 (x1).toNatClampNeg) = some b6 ∧ kd S b6 = 6 ∧ wp_X5_hasLetter (b6) (x2) S (fun e7 => ((e7 ≠ 0 → kd S a0 = 12 ∧ kd S a0 = 12 ∧ ∃ b9, (gR S 183 a0 0) = some b9 ∧ kd S b9 = 4 ∧ ∃ b10, (gR S 49 b9 0) = some b10 ∧ kd S b10 = 23 ∧ vp_in x1 (ln S b10) ∧ ∃ b11, (gR S 0 b10 (x1).toNatClampNeg) = some b11 ∧ kd S b11 = 6 ∧ wp_X5_stripeOf (b11) (x2) S (fun e12 => kd S a0 = 12 ∧ ∃ b14, (gR S 182 a0 0) = some b14 ∧ kd S b9 = 4 ∧ wp_X3_gather (b9) (x1) (e12) (b14) S (fun S16 => kd S16 a0 = 12 ∧ ∃ b17, (gR S16 182 a0 0) = some b17 ∧ kd S16 b17 = 2 ∧ wp_X1_hasEnough (b17) S16 (fun e18 => ((e18 ≠ 0 → kd S16 a0 = 12 ∧ ∃ b20, (gR S16 182 a0 0) = some b20 ∧ kd S16 b20 = 2 ∧ wp_X1_goThroughFirst (b20) S16 (fun S22 => kd S22 a0 = 12 ∧ kd S22 a0 = 12 ∧ ∃ b23, (gR S22 183 a0 0) = some b23 ∧ kd S22 b23 = 4 ∧ ∃ b24, (gR S22 49 b23 0) = some b24 ∧ kd S22 b24 = 23 ∧ vp_in x1 (ln S22 b24) ∧ ∃ b25, (gR S22 0 b24 (x1).toNatClampNeg) = some b25 ∧ kd S22 b25 = 6 ∧ ∃ b28, (gR S22 182 a0 0) = some b28 ∧ wp_X5_placeInStripe (b25) (x2) S22 (fun e26 => kd S22 b28 = 2 ∧ wp_X1_coefficient (b28) (e26) S22 (fun e29 => Q e29 S22)))) ∧ (e18 = 0 → Q (-4 : Int32) S16)))))) ∧ (e7 = 0 → wp_X11_read_27 Q (S)))))))
set_option maxHeartbeats 4000000 in
set_option maxRecDepth 100000 in
theorem g_X11_read_27 (C : Cx p s m args meth c z cX11_read 3 RX11 (some .int) "read")  {Q : Int32 → Hp → Prop}  {S : Hp}   (hw : wp_X11_read_27  Q  S) : Go p l e { frames := 4, cells := 0, slots := 0, locals := 88 } s m args below meth c z 3 (MQ below (Qx z (wI Q)) args s 0 0 (own z)) (0) (0) 27 [] [] (S) := by
  refine G_bipush (pc := 27) C (v := -2) dX11_read_27 (by decide) ?_
  exact G_iret (pc := 29) C rfl dX11_read_29 ⟨_, rfl, hw⟩
set_option maxHeartbeats 4000000 in
set_option maxRecDepth 100000 in
theorem c_X11_read (l : Launch) (z : Zt) (a0 : Nat) (x1 : Int32) (x2 : Int32) (S : Hp) (Q : Int32 → Hp → Prop) (hw : wp_X11_read a0 x1 x2 S Q) : Ct l z yX11_read cX11_read 3 (some .int) 4 88 0 0 [.ref (a0), .int (x1), .int (x2)] S (wI Q) := by
  refine Ct_of (by decide) (Nat.le_of_ble_eq_true rfl) ?_
  intro p e s m args below meth c C
  have C : Cx p s m args meth c z cX11_read 3 RX11 (some .int) "read" := C
  refine G_sub (lv' := [(0, .ref (a0)), (1, .int (x1)), (2, .int (x2))]) [0, 1, 2] rfl ?_
  refine G_aload_n (pc := 0) C 0 dX11_read_0 rfl rfl ?_
  obtain ⟨hk, hw⟩ := hw
  refine gf_RX11_51 (pc := 1) C dX11_read_1 hk ?_
  refine G_iload_n (pc := 4) C 1 dX11_read_4 rfl rfl ?_
  obtain ⟨b1, hq, hw⟩ := hw
  rw [hq]
  obtain ⟨hk, hw⟩ := hw
  refine cl_RX11_183 (pc := 5) C (c_X3_hasPart l z (b1) (x1) S _ hw) ⟨Nat.le_of_ble_eq_true rfl, Nat.le_of_ble_eq_true rfl⟩ hk dX11_read_5 (Nat.le_of_ble_eq_true rfl) (fun v S' hp => ?_)
  clear hw
  obtain ⟨hS, e2, rfl, hw⟩ := hp
  subst S'
  refine G_if_eq (pc := 8) C 27 dX11_read_8 (by decide) (fun hc => ?_) (fun hc => ?_)
  · have hw := hw.1 hc
    exact G_sub [] rfl (g_X11_read_27 C  hw)
  · have hw := hw.2 hc
    refine G_aload_n (pc := 11) C 0 dX11_read_11 rfl rfl ?_
    obtain ⟨hk, hw⟩ := hw
    refine gf_RX11_51 (pc := 12) C dX11_read_12 hk ?_
    obtain ⟨b4, hq, hw⟩ := hw
    rw [hq]
    obtain ⟨hk, hw⟩ := hw
    refine gf_RX11_190 (pc := 15) C dX11_read_15 hk ?_
    refine G_iload_n (pc := 18) C 1 dX11_read_18 rfl rfl ?_
    obtain ⟨b5, hq, hw⟩ := hw
    rw [hq]
    obtain ⟨hk, hi, hw⟩ := hw
    refine G_aald (pc := 19) C 3 rfl (by decide) rfl hk hi dX11_read_19 ?_
    refine G_iload_n (pc := 20) C 2 dX11_read_20 rfl rfl ?_
    obtain ⟨b6, hq, hw⟩ := hw
    rw [hq]
    obtain ⟨hk, hw⟩ := hw
    refine cl_RX11_120 (pc := 21) C (c_X5_hasLetter l z (b6) (x2) S _ hw) ⟨Nat.le_of_ble_eq_true rfl, Nat.le_of_ble_eq_true rfl⟩ hk dX11_read_21 (Nat.le_of_ble_eq_true rfl) (fun v S' hp => ?_)
    clear hw
    obtain ⟨hS, e7, rfl, hw⟩ := hp
    subst S'
    refine G_if_ne (pc := 24) C 30 dX11_read_24 (by decide) (fun hc => ?_) (fun hc => ?_)
    · have hw := hw.1 hc
      refine G_aload_n (pc := 30) C 0 dX11_read_30 rfl rfl ?_
      obtain ⟨hk, hw⟩ := hw
      refine gf_RX11_51 (pc := 31) C dX11_read_31 hk ?_
      refine G_iload_n (pc := 34) C 1 dX11_read_34 rfl rfl ?_
      refine G_aload_n (pc := 35) C 0 dX11_read_35 rfl rfl ?_
      obtain ⟨hk, hw⟩ := hw
      refine gf_RX11_51 (pc := 36) C dX11_read_36 hk ?_
      obtain ⟨b9, hq, hw⟩ := hw
      rw [hq]
      obtain ⟨hk, hw⟩ := hw
      refine gf_RX11_190 (pc := 39) C dX11_read_39 hk ?_
      refine G_iload_n (pc := 42) C 1 dX11_read_42 rfl rfl ?_
      obtain ⟨b10, hq, hw⟩ := hw
      rw [hq]
      obtain ⟨hk, hi, hw⟩ := hw
      refine G_aald (pc := 43) C 3 rfl (by decide) rfl hk hi dX11_read_43 ?_
      refine G_iload_n (pc := 44) C 2 dX11_read_44 rfl rfl ?_
      obtain ⟨b11, hq, hw⟩ := hw
      rw [hq]
      obtain ⟨hk, hw⟩ := hw
      refine cl_RX11_200 (pc := 45) C (c_X5_stripeOf l z (b11) (x2) S _ hw) ⟨Nat.le_of_ble_eq_true rfl, Nat.le_of_ble_eq_true rfl⟩ hk dX11_read_45 (Nat.le_of_ble_eq_true rfl) (fun v S' hp => ?_)
      clear hw
      obtain ⟨hS, e12, rfl, hw⟩ := hp
      subst S'
      refine G_aload_n (pc := 48) C 0 dX11_read_48 rfl rfl ?_
      obtain ⟨hk, hw⟩ := hw
      refine gf_RX11_42 (pc := 49) C dX11_read_49 hk ?_
      obtain ⟨b14, hq, hw⟩ := hw
      rw [hq]
      obtain ⟨hk, hw⟩ := hw
      refine cl_RX11_203 (pc := 52) C (c_X3_gather l z (b9) (x1) (e12) (b14) S _ hw) ⟨Nat.le_of_ble_eq_true rfl, Nat.le_of_ble_eq_true rfl⟩ hk dX11_read_52 (Nat.le_of_ble_eq_true rfl) (fun v S' hp => ?_)
      clear hw
      obtain ⟨rfl, hw⟩ := hp
      generalize S' = S16 at hw ⊢
      refine G_aload_n (pc := 55) C 0 dX11_read_55 rfl rfl ?_
      obtain ⟨hk, hw⟩ := hw
      refine gf_RX11_42 (pc := 56) C dX11_read_56 hk ?_
      obtain ⟨b17, hq, hw⟩ := hw
      rw [hq]
      obtain ⟨hk, hw⟩ := hw
      refine cl_RX11_207 (pc := 59) C (c_X1_hasEnough l z (b17) S16 _ hw) ⟨Nat.le_of_ble_eq_true rfl, Nat.le_of_ble_eq_true rfl⟩ hk dX11_read_59 (Nat.le_of_ble_eq_true rfl) (fun v S' hp => ?_)
      clear hw
      obtain ⟨hS, e18, rfl, hw⟩ := hp
      subst S'
      refine G_if_ne (pc := 62) C 68 dX11_read_62 (by decide) (fun hc => ?_) (fun hc => ?_)
      · have hw := hw.1 hc
        refine G_aload_n (pc := 68) C 0 dX11_read_68 rfl rfl ?_
        obtain ⟨hk, hw⟩ := hw
        refine gf_RX11_42 (pc := 69) C dX11_read_69 hk ?_
        obtain ⟨b20, hq, hw⟩ := hw
        rw [hq]
        obtain ⟨hk, hw⟩ := hw
        refine cl_RX11_210 (pc := 72) C (c_X1_goThroughFirst l z (b20) S16 _ hw) ⟨Nat.le_of_ble_eq_true rfl, Nat.le_of_ble_eq_true rfl⟩ hk dX11_read_72 (Nat.le_of_ble_eq_true rfl) (fun v S' hp => ?_)
        clear hw
        obtain ⟨rfl, hw⟩ := hp
        generalize S' = S22 at hw ⊢
        refine G_aload_n (pc := 75) C 0 dX11_read_75 rfl rfl ?_
        obtain ⟨hk, hw⟩ := hw
        refine gf_RX11_42 (pc := 76) C dX11_read_76 hk ?_
        refine G_aload_n (pc := 79) C 0 dX11_read_79 rfl rfl ?_
        obtain ⟨hk, hw⟩ := hw
        refine gf_RX11_51 (pc := 80) C dX11_read_80 hk ?_
        obtain ⟨b23, hq, hw⟩ := hw
        rw [hq]
        obtain ⟨hk, hw⟩ := hw
        refine gf_RX11_190 (pc := 83) C dX11_read_83 hk ?_
        refine G_iload_n (pc := 86) C 1 dX11_read_86 rfl rfl ?_
        obtain ⟨b24, hq, hw⟩ := hw
        rw [hq]
        obtain ⟨hk, hi, hw⟩ := hw
        refine G_aald (pc := 87) C 3 rfl (by decide) rfl hk hi dX11_read_87 ?_
        refine G_iload_n (pc := 88) C 2 dX11_read_88 rfl rfl ?_
        obtain ⟨b25, hq, hw⟩ := hw
        rw [hq]
        obtain ⟨hk, hw⟩ := hw
        obtain ⟨b28, hq, hw⟩ := hw
        rw [hq]
        refine cl_RX11_213 (pc := 89) C (c_X5_placeInStripe l z (b25) (x2) S22 _ hw) ⟨Nat.le_of_ble_eq_true rfl, Nat.le_of_ble_eq_true rfl⟩ hk dX11_read_89 (Nat.le_of_ble_eq_true rfl) (fun v S' hp => ?_)
        clear hw
        obtain ⟨hS, e26, rfl, hw⟩ := hp
        subst S'
        obtain ⟨hk, hw⟩ := hw
        refine cl_RX11_216 (pc := 92) C (c_X1_coefficient l z (b28) (e26) S22 _ hw) ⟨Nat.le_of_ble_eq_true rfl, Nat.le_of_ble_eq_true rfl⟩ hk dX11_read_92 (Nat.le_of_ble_eq_true rfl) (fun v S' hp => ?_)
        clear hw
        obtain ⟨hS, e29, rfl, hw⟩ := hp
        subst S'
        exact G_iret (pc := 95) C rfl dX11_read_95 ⟨_, rfl, hw⟩
      · have hw := hw.2 hc
        refine G_bipush (pc := 65) C (v := -4) dX11_read_65 (by decide) ?_
        exact G_iret (pc := 67) C rfl dX11_read_67 ⟨_, rfl, hw⟩
    · have hw := hw.2 hc
      exact G_sub [] rfl (g_X11_read_27 C  hw)
/-! FirstParts.mended(II)I -/
abbrev wp_X11_mended_27  (Q : Int32 → Hp → Prop)  (S : Hp) : Prop :=
  Q (-2 : Int32) S
abbrev wp_X11_mended_102  (Q : Int32 → Hp → Prop) (s0 : Int32) (S : Hp) : Prop :=
  Q s0 S
abbrev wp_X11_mended (a0 : Nat) (x1 : Int32) (x2 : Int32) (S : Hp) (Q : Int32 → Hp → Prop) : Prop :=
  kd S a0 = 12 ∧ ∃ b1, (gR S 183 a0 0) = some b1 ∧ kd S b1 = 4 ∧ wp_X3_hasPart (b1) (x1) S (fun e2 => ((e2 = 0 → wp_X11_mended_27 Q (S)) ∧ (¬ e2 = 0 → kd S a0 = 12 ∧ ∃ b4, (gR S 183 a0 0) = some b4 ∧ kd S b4 = 4 ∧ ∃ b5, (gR S 49 b4 0) = some b5 ∧ kd S b5 = 23 ∧ vp_in x1 (ln S b5) ∧ ∃ b6, (gR S 0 b5 (x1).toNatClampNeg) = some b6 ∧ kd S b6 = 6 ∧ wp_X5_hasLetter (b6) (x2) S (fun e7 => ((e7 ≠ 0 → kd S a0 = 12 ∧ kd S a0 = 12 ∧ ∃ b9, (gR S 183 a0 0) = some b9 ∧ kd S b9 = 4 ∧ ∃ b10, (gR S 49 b9 0) = some b10 ∧ kd S b10 = 23 ∧ vp_in x1 (ln S b10) ∧ ∃ b11, (gR S 0 b10 (x1).toNatClampNeg) = some b11 ∧ kd S b11 = 6 ∧ wp_X5_stripeOf (b11) (x2) S (fun e12 => kd S a0 = 12 ∧ ∃ b14, (gR S 182 a0 0) = some b14 ∧ kd S b9 = 4 ∧ wp_X3_gather (b9) (x1) (e12) (b14) S (fun S16 => kd S16 a0 = 12 ∧ ∃ b17, (gR S16 182 a0 0) = some b17 ∧ kd S16 b17 = 2 ∧ wp_X1_hasEnough (b17) S16 (fun e18 => ((e18 ≠ 0 → kd S16 a0 = 12 ∧ ∃ b20, (gR S16 182 a0 0) = some b20 ∧ kd S16 b20 = 2 ∧ wp_X1_mend (b20) S16 (fun e21 S22 => ((e21 = 0 → wp_X11_mended_102 Q ((-1 : Int32)) (S22)) ∧ (¬ e21 = 0 → kd S22 a0 = 12 ∧ kd S22 a0 = 12 ∧ ∃ b23, (gR S22 183 a0 0) = some b23 ∧ kd S22 b23 = 4 ∧ ∃ b24, (gR S22 49 b23 0) = some b24 ∧ kd S22 b24 = 23 ∧ vp_in x1 (ln S22 b24) ∧ ∃ b25, (gR S22 0 b24 (x1).toNatClampNeg) = some b25 ∧ kd S22 b25 = 6 ∧ ∃ b28, (gR S22 182 a0 0) = some b28 ∧ wp_X5_placeInStripe (b25) (x2) S22 (fun e26 => kd S22 b28 = 2 ∧ wp_X1_coefficient (b28) (e26) S22 (fun e29 => wp_X11_mended_102 Q (e29) (S22))))))) ∧ (e18 = 0 → Q (-4 : Int32) S16)))))) ∧ (e7 = 0 → wp_X11_mended_27 Q (S)))))))
set_option maxHeartbeats 4000000 in
set_option maxRecDepth 100000 in
theorem g_X11_mended_27 (C : Cx p s m args meth c z cX11_mended 3 RX11 (some .int) "mended")  {Q : Int32 → Hp → Prop}  {S : Hp}   (hw : wp_X11_mended_27  Q  S) : Go p l e { frames := 4, cells := 0, slots := 0, locals := 92 } s m args below meth c z 3 (MQ below (Qx z (wI Q)) args s 0 0 (own z)) (0) (0) 27 [] [] (S) := by
  refine G_bipush (pc := 27) C (v := -2) dX11_mended_27 (by decide) ?_
  exact G_iret (pc := 29) C rfl dX11_mended_29 ⟨_, rfl, hw⟩
set_option maxHeartbeats 4000000 in
set_option maxRecDepth 100000 in
theorem g_X11_mended_102 (C : Cx p s m args meth c z cX11_mended 3 RX11 (some .int) "mended")  {Q : Int32 → Hp → Prop} {s0 : Int32} {S : Hp}   (hw : wp_X11_mended_102  Q s0 S) : Go p l e { frames := 4, cells := 0, slots := 0, locals := 92 } s m args below meth c z 3 (MQ below (Qx z (wI Q)) args s 0 0 (own z)) (0) (0) 102 [] [.int (s0)] (S) := by
  exact G_iret (pc := 102) C rfl dX11_mended_102 ⟨_, rfl, hw⟩
set_option maxHeartbeats 4000000 in
set_option maxRecDepth 100000 in
theorem c_X11_mended (l : Launch) (z : Zt) (a0 : Nat) (x1 : Int32) (x2 : Int32) (S : Hp) (Q : Int32 → Hp → Prop) (hw : wp_X11_mended a0 x1 x2 S Q) : Ct l z yX11_mended cX11_mended 3 (some .int) 4 92 0 0 [.ref (a0), .int (x1), .int (x2)] S (wI Q) := by
  refine Ct_of (by decide) (Nat.le_of_ble_eq_true rfl) ?_
  intro p e s m args below meth c C
  have C : Cx p s m args meth c z cX11_mended 3 RX11 (some .int) "mended" := C
  refine G_sub (lv' := [(0, .ref (a0)), (1, .int (x1)), (2, .int (x2))]) [0, 1, 2] rfl ?_
  refine G_aload_n (pc := 0) C 0 dX11_mended_0 rfl rfl ?_
  obtain ⟨hk, hw⟩ := hw
  refine gf_RX11_51 (pc := 1) C dX11_mended_1 hk ?_
  refine G_iload_n (pc := 4) C 1 dX11_mended_4 rfl rfl ?_
  obtain ⟨b1, hq, hw⟩ := hw
  rw [hq]
  obtain ⟨hk, hw⟩ := hw
  refine cl_RX11_183 (pc := 5) C (c_X3_hasPart l z (b1) (x1) S _ hw) ⟨Nat.le_of_ble_eq_true rfl, Nat.le_of_ble_eq_true rfl⟩ hk dX11_mended_5 (Nat.le_of_ble_eq_true rfl) (fun v S' hp => ?_)
  clear hw
  obtain ⟨hS, e2, rfl, hw⟩ := hp
  subst S'
  refine G_if_eq (pc := 8) C 27 dX11_mended_8 (by decide) (fun hc => ?_) (fun hc => ?_)
  · have hw := hw.1 hc
    exact G_sub [] rfl (g_X11_mended_27 C  hw)
  · have hw := hw.2 hc
    refine G_aload_n (pc := 11) C 0 dX11_mended_11 rfl rfl ?_
    obtain ⟨hk, hw⟩ := hw
    refine gf_RX11_51 (pc := 12) C dX11_mended_12 hk ?_
    obtain ⟨b4, hq, hw⟩ := hw
    rw [hq]
    obtain ⟨hk, hw⟩ := hw
    refine gf_RX11_190 (pc := 15) C dX11_mended_15 hk ?_
    refine G_iload_n (pc := 18) C 1 dX11_mended_18 rfl rfl ?_
    obtain ⟨b5, hq, hw⟩ := hw
    rw [hq]
    obtain ⟨hk, hi, hw⟩ := hw
    refine G_aald (pc := 19) C 3 rfl (by decide) rfl hk hi dX11_mended_19 ?_
    refine G_iload_n (pc := 20) C 2 dX11_mended_20 rfl rfl ?_
    obtain ⟨b6, hq, hw⟩ := hw
    rw [hq]
    obtain ⟨hk, hw⟩ := hw
    refine cl_RX11_120 (pc := 21) C (c_X5_hasLetter l z (b6) (x2) S _ hw) ⟨Nat.le_of_ble_eq_true rfl, Nat.le_of_ble_eq_true rfl⟩ hk dX11_mended_21 (Nat.le_of_ble_eq_true rfl) (fun v S' hp => ?_)
    clear hw
    obtain ⟨hS, e7, rfl, hw⟩ := hp
    subst S'
    refine G_if_ne (pc := 24) C 30 dX11_mended_24 (by decide) (fun hc => ?_) (fun hc => ?_)
    · have hw := hw.1 hc
      refine G_aload_n (pc := 30) C 0 dX11_mended_30 rfl rfl ?_
      obtain ⟨hk, hw⟩ := hw
      refine gf_RX11_51 (pc := 31) C dX11_mended_31 hk ?_
      refine G_iload_n (pc := 34) C 1 dX11_mended_34 rfl rfl ?_
      refine G_aload_n (pc := 35) C 0 dX11_mended_35 rfl rfl ?_
      obtain ⟨hk, hw⟩ := hw
      refine gf_RX11_51 (pc := 36) C dX11_mended_36 hk ?_
      obtain ⟨b9, hq, hw⟩ := hw
      rw [hq]
      obtain ⟨hk, hw⟩ := hw
      refine gf_RX11_190 (pc := 39) C dX11_mended_39 hk ?_
      refine G_iload_n (pc := 42) C 1 dX11_mended_42 rfl rfl ?_
      obtain ⟨b10, hq, hw⟩ := hw
      rw [hq]
      obtain ⟨hk, hi, hw⟩ := hw
      refine G_aald (pc := 43) C 3 rfl (by decide) rfl hk hi dX11_mended_43 ?_
      refine G_iload_n (pc := 44) C 2 dX11_mended_44 rfl rfl ?_
      obtain ⟨b11, hq, hw⟩ := hw
      rw [hq]
      obtain ⟨hk, hw⟩ := hw
      refine cl_RX11_200 (pc := 45) C (c_X5_stripeOf l z (b11) (x2) S _ hw) ⟨Nat.le_of_ble_eq_true rfl, Nat.le_of_ble_eq_true rfl⟩ hk dX11_mended_45 (Nat.le_of_ble_eq_true rfl) (fun v S' hp => ?_)
      clear hw
      obtain ⟨hS, e12, rfl, hw⟩ := hp
      subst S'
      refine G_aload_n (pc := 48) C 0 dX11_mended_48 rfl rfl ?_
      obtain ⟨hk, hw⟩ := hw
      refine gf_RX11_42 (pc := 49) C dX11_mended_49 hk ?_
      obtain ⟨b14, hq, hw⟩ := hw
      rw [hq]
      obtain ⟨hk, hw⟩ := hw
      refine cl_RX11_203 (pc := 52) C (c_X3_gather l z (b9) (x1) (e12) (b14) S _ hw) ⟨Nat.le_of_ble_eq_true rfl, Nat.le_of_ble_eq_true rfl⟩ hk dX11_mended_52 (Nat.le_of_ble_eq_true rfl) (fun v S' hp => ?_)
      clear hw
      obtain ⟨rfl, hw⟩ := hp
      generalize S' = S16 at hw ⊢
      refine G_aload_n (pc := 55) C 0 dX11_mended_55 rfl rfl ?_
      obtain ⟨hk, hw⟩ := hw
      refine gf_RX11_42 (pc := 56) C dX11_mended_56 hk ?_
      obtain ⟨b17, hq, hw⟩ := hw
      rw [hq]
      obtain ⟨hk, hw⟩ := hw
      refine cl_RX11_207 (pc := 59) C (c_X1_hasEnough l z (b17) S16 _ hw) ⟨Nat.le_of_ble_eq_true rfl, Nat.le_of_ble_eq_true rfl⟩ hk dX11_mended_59 (Nat.le_of_ble_eq_true rfl) (fun v S' hp => ?_)
      clear hw
      obtain ⟨hS, e18, rfl, hw⟩ := hp
      subst S'
      refine G_if_ne (pc := 62) C 68 dX11_mended_62 (by decide) (fun hc => ?_) (fun hc => ?_)
      · have hw := hw.1 hc
        refine G_aload_n (pc := 68) C 0 dX11_mended_68 rfl rfl ?_
        obtain ⟨hk, hw⟩ := hw
        refine gf_RX11_42 (pc := 69) C dX11_mended_69 hk ?_
        obtain ⟨b20, hq, hw⟩ := hw
        rw [hq]
        obtain ⟨hk, hw⟩ := hw
        refine cl_RX11_219 (pc := 72) C (c_X1_mend l z (b20) S16 _ hw) ⟨Nat.le_of_ble_eq_true rfl, Nat.le_of_ble_eq_true rfl⟩ hk dX11_mended_72 (Nat.le_of_ble_eq_true rfl) (fun v S' hp => ?_)
        clear hw
        obtain ⟨e21, rfl, hw⟩ := hp
        generalize S' = S22 at hw ⊢
        refine G_if_eq (pc := 75) C 101 dX11_mended_75 (by decide) (fun hc => ?_) (fun hc => ?_)
        · have hw := hw.1 hc
          refine G_iconst (pc := 101) C (v := -1) dX11_mended_101 (by decide) ?_
          exact G_sub [] rfl (g_X11_mended_102 C  hw)
        · have hw := hw.2 hc
          refine G_aload_n (pc := 78) C 0 dX11_mended_78 rfl rfl ?_
          obtain ⟨hk, hw⟩ := hw
          refine gf_RX11_42 (pc := 79) C dX11_mended_79 hk ?_
          refine G_aload_n (pc := 82) C 0 dX11_mended_82 rfl rfl ?_
          obtain ⟨hk, hw⟩ := hw
          refine gf_RX11_51 (pc := 83) C dX11_mended_83 hk ?_
          obtain ⟨b23, hq, hw⟩ := hw
          rw [hq]
          obtain ⟨hk, hw⟩ := hw
          refine gf_RX11_190 (pc := 86) C dX11_mended_86 hk ?_
          refine G_iload_n (pc := 89) C 1 dX11_mended_89 rfl rfl ?_
          obtain ⟨b24, hq, hw⟩ := hw
          rw [hq]
          obtain ⟨hk, hi, hw⟩ := hw
          refine G_aald (pc := 90) C 3 rfl (by decide) rfl hk hi dX11_mended_90 ?_
          refine G_iload_n (pc := 91) C 2 dX11_mended_91 rfl rfl ?_
          obtain ⟨b25, hq, hw⟩ := hw
          rw [hq]
          obtain ⟨hk, hw⟩ := hw
          obtain ⟨b28, hq, hw⟩ := hw
          rw [hq]
          refine cl_RX11_213 (pc := 92) C (c_X5_placeInStripe l z (b25) (x2) S22 _ hw) ⟨Nat.le_of_ble_eq_true rfl, Nat.le_of_ble_eq_true rfl⟩ hk dX11_mended_92 (Nat.le_of_ble_eq_true rfl) (fun v S' hp => ?_)
          clear hw
          obtain ⟨hS, e26, rfl, hw⟩ := hp
          subst S'
          obtain ⟨hk, hw⟩ := hw
          refine cl_RX11_216 (pc := 95) C (c_X1_coefficient l z (b28) (e26) S22 _ hw) ⟨Nat.le_of_ble_eq_true rfl, Nat.le_of_ble_eq_true rfl⟩ hk dX11_mended_95 (Nat.le_of_ble_eq_true rfl) (fun v S' hp => ?_)
          clear hw
          obtain ⟨hS, e29, rfl, hw⟩ := hp
          subst S'
          refine G_goto (pc := 98) C 102 dX11_mended_98 (by decide) ?_
          exact G_sub [] rfl (g_X11_mended_102 C  hw)
      · have hw := hw.2 hc
        refine G_bipush (pc := 65) C (v := -4) dX11_mended_65 (by decide) ?_
        exact G_iret (pc := 67) C rfl dX11_mended_67 ⟨_, rfl, hw⟩
    · have hw := hw.2 hc
      exact G_sub [] rfl (g_X11_mended_27 C  hw)
/-! FirstParts.blamed(I)I -/
abbrev wp_X11_blamed_28  (Q : Int32 → Hp → Prop) (s0 : Int32) (S : Hp) : Prop :=
  Q s0 S
abbrev wp_X11_blamed (a0 : Nat) (x1 : Int32) (S : Hp) (Q : Int32 → Hp → Prop) : Prop :=
  kd S a0 = 12 ∧ ∃ b1, (gR S 183 a0 0) = some b1 ∧ kd S b1 = 4 ∧ wp_X3_hasPacket (b1) (x1) S (fun e2 => ((e2 = 0 → wp_X11_blamed_28 Q ((-2 : Int32)) (S)) ∧ (¬ e2 = 0 → kd S a0 = 12 ∧ kd S a0 = 12 ∧ ∃ b4, (gR S 182 a0 0) = some b4 ∧ ∃ b5, (gR S 183 a0 0) = some b5 ∧ kd S b5 = 4 ∧ wp_X3_timesBlamed (b5) (x1) (b4) S (fun e6 S7 => wp_X11_blamed_28 Q (e6) (S7)))))
set_option maxHeartbeats 4000000 in
set_option maxRecDepth 100000 in
theorem g_X11_blamed_28 (C : Cx p s m args meth c z cX11_blamed 2 RX11 (some .int) "blamed")  {Q : Int32 → Hp → Prop} {s0 : Int32} {S : Hp}   (hw : wp_X11_blamed_28  Q s0 S) : Go p l e { frames := 6, cells := 0, slots := 0, locals := 142 } s m args below meth c z 2 (MQ below (Qx z (wI Q)) args s 0 0 (own z)) (0) (0) 28 [] [.int (s0)] (S) := by
  exact G_iret (pc := 28) C rfl dX11_blamed_28 ⟨_, rfl, hw⟩
set_option maxHeartbeats 4000000 in
set_option maxRecDepth 100000 in
theorem c_X11_blamed (l : Launch) (z : Zt) (a0 : Nat) (x1 : Int32) (S : Hp) (Q : Int32 → Hp → Prop) (hw : wp_X11_blamed a0 x1 S Q) : Ct l z yX11_blamed cX11_blamed 2 (some .int) 6 142 0 0 [.ref (a0), .int (x1)] S (wI Q) := by
  refine Ct_of (by decide) (Nat.le_of_ble_eq_true rfl) ?_
  intro p e s m args below meth c C
  have C : Cx p s m args meth c z cX11_blamed 2 RX11 (some .int) "blamed" := C
  refine G_sub (lv' := [(0, .ref (a0)), (1, .int (x1))]) [0, 1] rfl ?_
  refine G_aload_n (pc := 0) C 0 dX11_blamed_0 rfl rfl ?_
  obtain ⟨hk, hw⟩ := hw
  refine gf_RX11_51 (pc := 1) C dX11_blamed_1 hk ?_
  refine G_iload_n (pc := 4) C 1 dX11_blamed_4 rfl rfl ?_
  obtain ⟨b1, hq, hw⟩ := hw
  rw [hq]
  obtain ⟨hk, hw⟩ := hw
  refine cl_RX11_145 (pc := 5) C (c_X3_hasPacket l z (b1) (x1) S _ hw) ⟨Nat.le_of_ble_eq_true rfl, Nat.le_of_ble_eq_true rfl⟩ hk dX11_blamed_5 (Nat.le_of_ble_eq_true rfl) (fun v S' hp => ?_)
  clear hw
  obtain ⟨hS, e2, rfl, hw⟩ := hp
  subst S'
  refine G_if_eq (pc := 8) C 26 dX11_blamed_8 (by decide) (fun hc => ?_) (fun hc => ?_)
  · have hw := hw.1 hc
    refine G_bipush (pc := 26) C (v := -2) dX11_blamed_26 (by decide) ?_
    exact G_sub [] rfl (g_X11_blamed_28 C  hw)
  · have hw := hw.2 hc
    refine G_aload_n (pc := 11) C 0 dX11_blamed_11 rfl rfl ?_
    obtain ⟨hk, hw⟩ := hw
    refine gf_RX11_51 (pc := 12) C dX11_blamed_12 hk ?_
    refine G_iload_n (pc := 15) C 1 dX11_blamed_15 rfl rfl ?_
    refine G_aload_n (pc := 16) C 0 dX11_blamed_16 rfl rfl ?_
    obtain ⟨hk, hw⟩ := hw
    refine gf_RX11_42 (pc := 17) C dX11_blamed_17 hk ?_
    obtain ⟨b4, hq, hw⟩ := hw
    rw [hq]
    obtain ⟨b5, hq, hw⟩ := hw
    rw [hq]
    obtain ⟨hk, hw⟩ := hw
    refine cl_RX11_222 (pc := 20) C (c_X3_timesBlamed l z (b5) (x1) (b4) S _ hw) ⟨Nat.le_of_ble_eq_true rfl, Nat.le_of_ble_eq_true rfl⟩ hk dX11_blamed_20 (Nat.le_of_ble_eq_true rfl) (fun v S' hp => ?_)
    clear hw
    obtain ⟨e6, rfl, hw⟩ := hp
    generalize S' = S7 at hw ⊢
    refine G_goto (pc := 23) C 28 dX11_blamed_23 (by decide) ?_
    exact G_sub [] rfl (g_X11_blamed_28 C  hw)
/-! FirstParts.opened(I)I -/
abbrev wp_X11_opened_23  (Q : Int32 → Prop) (s0 : Int32) (S : Hp) : Prop :=
  Q s0
abbrev wp_X11_opened (a0 : Nat) (x1 : Int32) (S : Hp) (Q : Int32 → Prop) : Prop :=
  wp_X11_within (x1) ((0 : Int32)) ((8 : Int32)) S (fun e1 => ((e1 = 0 → wp_X11_opened_23 Q ((-3 : Int32)) (S)) ∧ (¬ e1 = 0 → kd S a0 = 12 ∧ ∃ b3, (gR S 183 a0 0) = some b3 ∧ kd S b3 = 4 ∧ wp_X3_openedBy (b3) (x1) S (fun e4 => wp_X11_opened_23 Q (e4) (S)))))
set_option maxHeartbeats 4000000 in
set_option maxRecDepth 100000 in
theorem g_X11_opened_23 (C : Cx p s m args meth c z cX11_opened 2 RX11 (some .int) "opened")  {Q : Int32 → Prop} {s0 : Int32} {S : Hp}   (hw : wp_X11_opened_23  Q s0 S) : Go p l e { frames := 1, cells := 0, slots := 0, locals := 23 } s m args below meth c z 2 (MQ below (Qx z (pI S Q)) args s 0 0 (own z)) (0) (0) 23 [] [.int (s0)] (S) := by
  exact G_iret (pc := 23) C rfl dX11_opened_23 ⟨rfl, _, rfl, hw⟩
set_option maxHeartbeats 4000000 in
set_option maxRecDepth 100000 in
theorem c_X11_opened (l : Launch) (z : Zt) (a0 : Nat) (x1 : Int32) (S : Hp) (Q : Int32 → Prop) (hw : wp_X11_opened a0 x1 S Q) : Ct l z yX11_opened cX11_opened 2 (some .int) 1 23 0 0 [.ref (a0), .int (x1)] S (pI S Q) := by
  refine Ct_of (by decide) (Nat.le_of_ble_eq_true rfl) ?_
  intro p e s m args below meth c C
  have C : Cx p s m args meth c z cX11_opened 2 RX11 (some .int) "opened" := C
  refine G_sub (lv' := [(0, .ref (a0)), (1, .int (x1))]) [0, 1] rfl ?_
  refine G_iload_n (pc := 0) C 1 dX11_opened_0 rfl rfl ?_
  refine G_iconst (pc := 1) C (v := 0) dX11_opened_1 (by decide) ?_
  refine G_bipush (pc := 2) C (v := 8) dX11_opened_2 (by decide) ?_
  refine cl_RX11_64 (pc := 4) C (c_X11_within l z (x1) ((0 : Int32)) ((8 : Int32)) S _ hw) ⟨Nat.le_of_ble_eq_true rfl, Nat.le_of_ble_eq_true rfl⟩ dX11_opened_4 (Nat.le_of_ble_eq_true rfl) (fun v S' hp => ?_)
  clear hw
  obtain ⟨hS, e1, rfl, hw⟩ := hp
  subst S'
  refine G_if_eq (pc := 7) C 21 dX11_opened_7 (by decide) (fun hc => ?_) (fun hc => ?_)
  · have hw := hw.1 hc
    refine G_bipush (pc := 21) C (v := -3) dX11_opened_21 (by decide) ?_
    exact G_sub [] rfl (g_X11_opened_23 C  hw)
  · have hw := hw.2 hc
    refine G_aload_n (pc := 10) C 0 dX11_opened_10 rfl rfl ?_
    obtain ⟨hk, hw⟩ := hw
    refine gf_RX11_51 (pc := 11) C dX11_opened_11 hk ?_
    refine G_iload_n (pc := 14) C 1 dX11_opened_14 rfl rfl ?_
    obtain ⟨b3, hq, hw⟩ := hw
    rw [hq]
    obtain ⟨hk, hw⟩ := hw
    refine cl_RX11_225 (pc := 15) C (c_X3_openedBy l z (b3) (x1) S _ hw) ⟨Nat.le_of_ble_eq_true rfl, Nat.le_of_ble_eq_true rfl⟩ hk dX11_opened_15 (Nat.le_of_ble_eq_true rfl) (fun v S' hp => ?_)
    clear hw
    obtain ⟨hS, e4, rfl, hw⟩ := hp
    subst S'
    refine G_goto (pc := 18) C 23 dX11_opened_18 (by decide) ?_
    exact G_sub [] rfl (g_X11_opened_23 C  hw)
/-! FirstParts.plan(I)I -/
abbrev wp_X11_plan_41  (Q : Int32 → Hp → Prop) (s0 : Int32) (S : Hp) : Prop :=
  Q s0 S
abbrev wp_X11_plan (a0 : Nat) (x1 : Int32) (S : Hp) (Q : Int32 → Hp → Prop) : Prop :=
  kd S a0 = 12 ∧ ∃ b1, (gR S 179 a0 0) = some b1 ∧ kd S b1 = 3 ∧ wp_X2_has (b1) (x1) S (fun e2 => ((e2 ≠ 0 → kd S a0 = 12 ∧ kd S a0 = 12 ∧ ∃ b4, (gR S 179 a0 0) = some b4 ∧ ∃ b5, (gR S 181 a0 0) = some b5 ∧ kd S b5 = 7 ∧ wp_X6_makePlan (b5) (b4) S (fun e6 S7 => ((e6 = 0 → wp_X11_plan_41 Q ((-1 : Int32)) (S7)) ∧ (¬ e6 = 0 → kd S7 a0 = 12 ∧ ∃ b8, (gR S7 181 a0 0) = some b8 ∧ kd S7 b8 = 7 ∧ ∃ b9, (gR S7 98 b8 0) = some b9 ∧ kd S7 b9 = 20 ∧ vp_in x1 (ln S7 b9) ∧ wp_X11_plan_41 Q ((gI S7 0 b9 (x1).toNatClampNeg)) (S7))))) ∧ (e2 = 0 → Q (-2 : Int32) S)))
set_option maxHeartbeats 4000000 in
set_option maxRecDepth 100000 in
theorem g_X11_plan_41 (C : Cx p s m args meth c z cX11_plan 2 RX11 (some .int) "plan")  {Q : Int32 → Hp → Prop} {s0 : Int32} {S : Hp}   (hw : wp_X11_plan_41  Q s0 S) : Go p l e { frames := 4, cells := 0, slots := 0, locals := 95 } s m args below meth c z 2 (MQ below (Qx z (wI Q)) args s 0 0 (own z)) (0) (0) 41 [] [.int (s0)] (S) := by
  exact G_iret (pc := 41) C rfl dX11_plan_41 ⟨_, rfl, hw⟩
set_option maxHeartbeats 4000000 in
set_option maxRecDepth 100000 in
theorem c_X11_plan (l : Launch) (z : Zt) (a0 : Nat) (x1 : Int32) (S : Hp) (Q : Int32 → Hp → Prop) (hw : wp_X11_plan a0 x1 S Q) : Ct l z yX11_plan cX11_plan 2 (some .int) 4 95 0 0 [.ref (a0), .int (x1)] S (wI Q) := by
  refine Ct_of (by decide) (Nat.le_of_ble_eq_true rfl) ?_
  intro p e s m args below meth c C
  have C : Cx p s m args meth c z cX11_plan 2 RX11 (some .int) "plan" := C
  refine G_sub (lv' := [(0, .ref (a0)), (1, .int (x1))]) [0, 1] rfl ?_
  refine G_aload_n (pc := 0) C 0 dX11_plan_0 rfl rfl ?_
  obtain ⟨hk, hw⟩ := hw
  refine gf_RX11_28 (pc := 1) C dX11_plan_1 hk ?_
  refine G_iload_n (pc := 4) C 1 dX11_plan_4 rfl rfl ?_
  obtain ⟨b1, hq, hw⟩ := hw
  rw [hq]
  obtain ⟨hk, hw⟩ := hw
  refine cl_RX11_97 (pc := 5) C (c_X2_has l z (b1) (x1) S _ hw) ⟨Nat.le_of_ble_eq_true rfl, Nat.le_of_ble_eq_true rfl⟩ hk dX11_plan_5 (Nat.le_of_ble_eq_true rfl) (fun v S' hp => ?_)
  clear hw
  obtain ⟨hS, e2, rfl, hw⟩ := hp
  subst S'
  refine G_if_ne (pc := 8) C 14 dX11_plan_8 (by decide) (fun hc => ?_) (fun hc => ?_)
  · have hw := hw.1 hc
    refine G_aload_n (pc := 14) C 0 dX11_plan_14 rfl rfl ?_
    obtain ⟨hk, hw⟩ := hw
    refine gf_RX11_35 (pc := 15) C dX11_plan_15 hk ?_
    refine G_aload_n (pc := 18) C 0 dX11_plan_18 rfl rfl ?_
    obtain ⟨hk, hw⟩ := hw
    refine gf_RX11_28 (pc := 19) C dX11_plan_19 hk ?_
    obtain ⟨b4, hq, hw⟩ := hw
    rw [hq]
    obtain ⟨b5, hq, hw⟩ := hw
    rw [hq]
    obtain ⟨hk, hw⟩ := hw
    refine cl_RX11_228 (pc := 22) C (c_X6_makePlan l z (b5) (b4) S _ hw) ⟨Nat.le_of_ble_eq_true rfl, Nat.le_of_ble_eq_true rfl⟩ hk dX11_plan_22 (Nat.le_of_ble_eq_true rfl) (fun v S' hp => ?_)
    clear hw
    obtain ⟨e6, rfl, hw⟩ := hp
    generalize S' = S7 at hw ⊢
    refine G_if_eq (pc := 25) C 40 dX11_plan_25 (by decide) (fun hc => ?_) (fun hc => ?_)
    · have hw := hw.1 hc
      refine G_iconst (pc := 40) C (v := -1) dX11_plan_40 (by decide) ?_
      exact G_sub [] rfl (g_X11_plan_41 C  hw)
    · have hw := hw.2 hc
      refine G_aload_n (pc := 28) C 0 dX11_plan_28 rfl rfl ?_
      obtain ⟨hk, hw⟩ := hw
      refine gf_RX11_35 (pc := 29) C dX11_plan_29 hk ?_
      obtain ⟨b8, hq, hw⟩ := hw
      rw [hq]
      obtain ⟨hk, hw⟩ := hw
      refine gf_RX11_232 (pc := 32) C dX11_plan_32 hk ?_
      refine G_iload_n (pc := 35) C 1 dX11_plan_35 rfl rfl ?_
      obtain ⟨b9, hq, hw⟩ := hw
      rw [hq]
      obtain ⟨hk, hi, hw⟩ := hw
      refine G_iald (pc := 36) C hk hi dX11_plan_36 ?_
      refine G_goto (pc := 37) C 41 dX11_plan_37 (by decide) ?_
      exact G_sub [] rfl (g_X11_plan_41 C  hw)
  · have hw := hw.2 hc
    refine G_bipush (pc := 11) C (v := -2) dX11_plan_11 (by decide) ?_
    exact G_iret (pc := 13) C rfl dX11_plan_13 ⟨_, rfl, hw⟩
/-! FirstParts.lesser(I)I -/
abbrev wp_X11_lesser_23  (Q : Int32 → Prop) (s0 : Int32) (S : Hp) : Prop :=
  Q s0
abbrev wp_X11_lesser (a0 : Nat) (x1 : Int32) (S : Hp) (Q : Int32 → Prop) : Prop :=
  wp_X11_within (x1) ((0 : Int32)) ((40 : Int32)) S (fun e1 => ((e1 = 0 → wp_X11_lesser_23 Q ((-3 : Int32)) (S)) ∧ (¬ e1 = 0 → kd S a0 = 12 ∧ ∃ b3, (gR S 179 a0 0) = some b3 ∧ kd S b3 = 3 ∧ wp_X2_heaviestWithin (b3) (x1) S (fun e4 => wp_X11_lesser_23 Q (e4) (S)))))
set_option maxHeartbeats 4000000 in
set_option maxRecDepth 100000 in
theorem g_X11_lesser_23 (C : Cx p s m args meth c z cX11_lesser 2 RX11 (some .int) "lesser")  {Q : Int32 → Prop} {s0 : Int32} {S : Hp}   (hw : wp_X11_lesser_23  Q s0 S) : Go p l e { frames := 4, cells := 0, slots := 0, locals := 91 } s m args below meth c z 2 (MQ below (Qx z (pI S Q)) args s 0 0 (own z)) (0) (0) 23 [] [.int (s0)] (S) := by
  exact G_iret (pc := 23) C rfl dX11_lesser_23 ⟨rfl, _, rfl, hw⟩
set_option maxHeartbeats 4000000 in
set_option maxRecDepth 100000 in
theorem c_X11_lesser (l : Launch) (z : Zt) (a0 : Nat) (x1 : Int32) (S : Hp) (Q : Int32 → Prop) (hw : wp_X11_lesser a0 x1 S Q) : Ct l z yX11_lesser cX11_lesser 2 (some .int) 4 91 0 0 [.ref (a0), .int (x1)] S (pI S Q) := by
  refine Ct_of (by decide) (Nat.le_of_ble_eq_true rfl) ?_
  intro p e s m args below meth c C
  have C : Cx p s m args meth c z cX11_lesser 2 RX11 (some .int) "lesser" := C
  refine G_sub (lv' := [(0, .ref (a0)), (1, .int (x1))]) [0, 1] rfl ?_
  refine G_iload_n (pc := 0) C 1 dX11_lesser_0 rfl rfl ?_
  refine G_iconst (pc := 1) C (v := 0) dX11_lesser_1 (by decide) ?_
  refine G_bipush (pc := 2) C (v := 40) dX11_lesser_2 (by decide) ?_
  refine cl_RX11_64 (pc := 4) C (c_X11_within l z (x1) ((0 : Int32)) ((40 : Int32)) S _ hw) ⟨Nat.le_of_ble_eq_true rfl, Nat.le_of_ble_eq_true rfl⟩ dX11_lesser_4 (Nat.le_of_ble_eq_true rfl) (fun v S' hp => ?_)
  clear hw
  obtain ⟨hS, e1, rfl, hw⟩ := hp
  subst S'
  refine G_if_eq (pc := 7) C 21 dX11_lesser_7 (by decide) (fun hc => ?_) (fun hc => ?_)
  · have hw := hw.1 hc
    refine G_bipush (pc := 21) C (v := -3) dX11_lesser_21 (by decide) ?_
    exact G_sub [] rfl (g_X11_lesser_23 C  hw)
  · have hw := hw.2 hc
    refine G_aload_n (pc := 10) C 0 dX11_lesser_10 rfl rfl ?_
    obtain ⟨hk, hw⟩ := hw
    refine gf_RX11_28 (pc := 11) C dX11_lesser_11 hk ?_
    refine G_iload_n (pc := 14) C 1 dX11_lesser_14 rfl rfl ?_
    obtain ⟨b3, hq, hw⟩ := hw
    rw [hq]
    obtain ⟨hk, hw⟩ := hw
    refine cl_RX11_235 (pc := 15) C (c_X2_heaviestWithin l z (b3) (x1) S _ hw) ⟨Nat.le_of_ble_eq_true rfl, Nat.le_of_ble_eq_true rfl⟩ hk dX11_lesser_15 (Nat.le_of_ble_eq_true rfl) (fun v S' hp => ?_)
    clear hw
    obtain ⟨hS, e4, rfl, hw⟩ := hp
    subst S'
    refine G_goto (pc := 18) C 23 dX11_lesser_18 (by decide) ?_
    exact G_sub [] rfl (g_X11_lesser_23 C  hw)
/-! FirstParts.count(I)I -/
abbrev wp_X11_count_123  (Q : Int32 → Hp → Prop) (s0 : Int32) (S : Hp) : Prop :=
  Q s0 S
abbrev wp_X11_count_157  (Q : Int32 → Hp → Prop) (s0 : Int32) (S : Hp) : Prop :=
  Q s0 S
abbrev wp_X11_count (a0 : Nat) (x1 : Int32) (S : Hp) (Q : Int32 → Hp → Prop) : Prop :=
  ((x1 = 0 → kd S a0 = 12 ∧ ∃ b1, (gR S 179 a0 0) = some b1 ∧ kd S b1 = 3 ∧ Q (gI S 34 b1 0) S) ∧ (¬ x1 = 0 → ((x1 = 1 → kd S a0 = 12 ∧ ∃ b2, (gR S 179 a0 0) = some b2 ∧ kd S b2 = 3 ∧ Q (gI S 35 b2 0) S) ∧ (¬ x1 = 1 → ((x1 = 2 → kd S a0 = 12 ∧ ∃ b3, (gR S 179 a0 0) = some b3 ∧ kd S b3 = 3 ∧ Q (gI S 36 b3 0) S) ∧ (¬ x1 = 2 → ((x1 = 3 → kd S a0 = 12 ∧ ∃ b4, (gR S 179 a0 0) = some b4 ∧ kd S b4 = 3 ∧ wp_X2_length (b4) S (fun e5 => Q e5 S)) ∧ (¬ x1 = 3 → ((x1 = 4 → kd S a0 = 12 ∧ ∃ b7, (gR S 179 a0 0) = some b7 ∧ kd S b7 = 3 ∧ wp_X2_fits (b7) S (fun e8 => ((e8 = 0 → wp_X11_count_123 Q ((0 : Int32)) (S)) ∧ (¬ e8 = 0 → wp_X11_count_123 Q ((1 : Int32)) (S))))) ∧ (¬ x1 = 4 → ((x1 = 5 → kd S a0 = 12 ∧ ∃ b10, (gR S 179 a0 0) = some b10 ∧ kd S b10 = 3 ∧ wp_X2_cost (b10) S (fun e11 => Q e11 S)) ∧ (¬ x1 = 5 → ((x1 = 6 → kd S a0 = 12 ∧ kd S a0 = 12 ∧ ∃ b13, (gR S 179 a0 0) = some b13 ∧ ∃ b14, (gR S 181 a0 0) = some b14 ∧ kd S b14 = 7 ∧ wp_X6_makePlan (b14) (b13) S (fun e15 S16 => ((e15 = 0 → wp_X11_count_157 Q ((-1 : Int32)) (S16)) ∧ (¬ e15 = 0 → kd S16 a0 = 12 ∧ ∃ b17, (gR S16 181 a0 0) = some b17 ∧ kd S16 b17 = 7 ∧ wp_X11_count_157 Q ((gI S16 99 b17 0)) (S16))))) ∧ (¬ x1 = 6 → ((x1 = 7 → kd S a0 = 12 ∧ ∃ b18, (gR S 183 a0 0) = some b18 ∧ kd S b18 = 4 ∧ Q (gI S 50 b18 0) S) ∧ (¬ x1 = 7 → ((x1 = 8 → kd S a0 = 12 ∧ ∃ b19, (gR S 183 a0 0) = some b19 ∧ kd S b19 = 4 ∧ Q (gI S 53 b19 0) S) ∧ (¬ x1 = 8 → ((x1 = 9 → kd S a0 = 12 ∧ ∃ b20, (gR S 183 a0 0) = some b20 ∧ kd S b20 = 4 ∧ Q (gI S 54 b20 0) S) ∧ (¬ x1 = 9 → ((x1 = 10 → kd S a0 = 12 ∧ ∃ b21, (gR S 183 a0 0) = some b21 ∧ kd S b21 = 4 ∧ wp_X3_lostPackets (b21) S (fun e22 => Q e22 S)) ∧ (¬ x1 = 10 → ((x1 = 11 → kd S a0 = 12 ∧ kd S a0 = 12 ∧ ∃ b24, (gR S 182 a0 0) = some b24 ∧ ∃ b25, (gR S 183 a0 0) = some b25 ∧ kd S b25 = 4 ∧ wp_X3_partsInState (b25) ((0 : Int32)) (b24) S (fun e26 S27 => Q e26 S27)) ∧ (¬ x1 = 11 → ((x1 = 12 → kd S a0 = 12 ∧ kd S a0 = 12 ∧ ∃ b28, (gR S 182 a0 0) = some b28 ∧ ∃ b29, (gR S 183 a0 0) = some b29 ∧ kd S b29 = 4 ∧ wp_X3_partsInState (b29) ((2 : Int32)) (b28) S (fun e30 S31 => Q e30 S31)) ∧ (¬ x1 = 12 → ((x1 = 13 → kd S a0 = 12 ∧ ∃ b32, (gR S 180 a0 0) = some b32 ∧ kd S b32 = 10 ∧ Q (gI S 147 b32 0) S) ∧ (¬ x1 = 13 → ((x1 = 14 → kd S a0 = 12 ∧ ∃ b33, (gR S 177 a0 0) = some b33 ∧ kd S b33 = 11 ∧ Q (gI S 162 b33 0) S) ∧ (¬ x1 = 14 → Q (-3 : Int32) S))))))))))))))))))))))))))))))
set_option maxHeartbeats 4000000 in
set_option maxRecDepth 100000 in
theorem g_X11_count_123 (C : Cx p s m args meth c z cX11_count 2 RX11 (some .int) "count")  {Q : Int32 → Hp → Prop} {s0 : Int32} {S : Hp}   (hw : wp_X11_count_123  Q s0 S) : Go p l e { frames := 6, cells := 0, slots := 0, locals := 136 } s m args below meth c z 2 (MQ below (Qx z (wI Q)) args s 0 0 (own z)) (0) (0) 123 [] [.int (s0)] (S) := by
  exact G_iret (pc := 123) C rfl dX11_count_123 ⟨_, rfl, hw⟩
set_option maxHeartbeats 4000000 in
set_option maxRecDepth 100000 in
theorem g_X11_count_157 (C : Cx p s m args meth c z cX11_count 2 RX11 (some .int) "count")  {Q : Int32 → Hp → Prop} {s0 : Int32} {S : Hp}   (hw : wp_X11_count_157  Q s0 S) : Go p l e { frames := 6, cells := 0, slots := 0, locals := 136 } s m args below meth c z 2 (MQ below (Qx z (wI Q)) args s 0 0 (own z)) (0) (0) 157 [] [.int (s0)] (S) := by
  exact G_iret (pc := 157) C rfl dX11_count_157 ⟨_, rfl, hw⟩
set_option maxHeartbeats 4000000 in
set_option maxRecDepth 100000 in
theorem c_X11_count (l : Launch) (z : Zt) (a0 : Nat) (x1 : Int32) (S : Hp) (Q : Int32 → Hp → Prop) (hw : wp_X11_count a0 x1 S Q) : Ct l z yX11_count cX11_count 2 (some .int) 6 136 0 0 [.ref (a0), .int (x1)] S (wI Q) := by
  refine Ct_of (by decide) (Nat.le_of_ble_eq_true rfl) ?_
  intro p e s m args below meth c C
  have C : Cx p s m args meth c z cX11_count 2 RX11 (some .int) "count" := C
  refine G_sub (lv' := [(0, .ref (a0)), (1, .int (x1))]) [0, 1] rfl ?_
  refine G_iload_n (pc := 0) C 1 dX11_count_0 rfl rfl ?_
  by_cases hc0 : x1 = 0
  · have hw := hw.1 hc0
    refine G_tableIn (pc := 1) C 76 dX11_count_1 (by rw [hc0]; decide) (by rw [hc0]; decide) (off := 75) (by rw [hc0]; rfl) (by decide) ?_
    refine G_aload_n (pc := 76) C 0 dX11_count_76 rfl rfl ?_
    obtain ⟨hk, hw⟩ := hw
    refine gf_RX11_28 (pc := 77) C dX11_count_77 hk ?_
    obtain ⟨b1, hq, hw⟩ := hw
    rw [hq]
    obtain ⟨hk, hw⟩ := hw
    refine gf_RX11_76 (pc := 80) C dX11_count_80 hk ?_
    exact G_iret (pc := 83) C rfl dX11_count_83 ⟨_, rfl, hw⟩
  have hw := hw.2 hc0
  by_cases hc1 : x1 = 1
  · have hw := hw.1 hc1
    refine G_tableIn (pc := 1) C 84 dX11_count_1 (by rw [hc1]; decide) (by rw [hc1]; decide) (off := 83) (by rw [hc1]; rfl) (by decide) ?_
    refine G_aload_n (pc := 84) C 0 dX11_count_84 rfl rfl ?_
    obtain ⟨hk, hw⟩ := hw
    refine gf_RX11_28 (pc := 85) C dX11_count_85 hk ?_
    obtain ⟨b2, hq, hw⟩ := hw
    rw [hq]
    obtain ⟨hk, hw⟩ := hw
    refine gf_RX11_127 (pc := 88) C dX11_count_88 hk ?_
    exact G_iret (pc := 91) C rfl dX11_count_91 ⟨_, rfl, hw⟩
  have hw := hw.2 hc1
  by_cases hc2 : x1 = 2
  · have hw := hw.1 hc2
    refine G_tableIn (pc := 1) C 92 dX11_count_1 (by rw [hc2]; decide) (by rw [hc2]; decide) (off := 91) (by rw [hc2]; rfl) (by decide) ?_
    refine G_aload_n (pc := 92) C 0 dX11_count_92 rfl rfl ?_
    obtain ⟨hk, hw⟩ := hw
    refine gf_RX11_28 (pc := 93) C dX11_count_93 hk ?_
    obtain ⟨b3, hq, hw⟩ := hw
    rw [hq]
    obtain ⟨hk, hw⟩ := hw
    refine gf_RX11_130 (pc := 96) C dX11_count_96 hk ?_
    exact G_iret (pc := 99) C rfl dX11_count_99 ⟨_, rfl, hw⟩
  have hw := hw.2 hc2
  by_cases hc3 : x1 = 3
  · have hw := hw.1 hc3
    refine G_tableIn (pc := 1) C 100 dX11_count_1 (by rw [hc3]; decide) (by rw [hc3]; decide) (off := 99) (by rw [hc3]; rfl) (by decide) ?_
    refine G_aload_n (pc := 100) C 0 dX11_count_100 rfl rfl ?_
    obtain ⟨hk, hw⟩ := hw
    refine gf_RX11_28 (pc := 101) C dX11_count_101 hk ?_
    obtain ⟨b4, hq, hw⟩ := hw
    rw [hq]
    obtain ⟨hk, hw⟩ := hw
    refine cl_RX11_238 (pc := 104) C (c_X2_length l z (b4) S _ hw) ⟨Nat.le_of_ble_eq_true rfl, Nat.le_of_ble_eq_true rfl⟩ hk dX11_count_104 (Nat.le_of_ble_eq_true rfl) (fun v S' hp => ?_)
    clear hw
    obtain ⟨hS, e5, rfl, hw⟩ := hp
    subst S'
    exact G_iret (pc := 107) C rfl dX11_count_107 ⟨_, rfl, hw⟩
  have hw := hw.2 hc3
  by_cases hc4 : x1 = 4
  · have hw := hw.1 hc4
    refine G_tableIn (pc := 1) C 108 dX11_count_1 (by rw [hc4]; decide) (by rw [hc4]; decide) (off := 107) (by rw [hc4]; rfl) (by decide) ?_
    refine G_aload_n (pc := 108) C 0 dX11_count_108 rfl rfl ?_
    obtain ⟨hk, hw⟩ := hw
    refine gf_RX11_28 (pc := 109) C dX11_count_109 hk ?_
    obtain ⟨b7, hq, hw⟩ := hw
    rw [hq]
    obtain ⟨hk, hw⟩ := hw
    refine cl_RX11_140 (pc := 112) C (c_X2_fits l z (b7) S _ hw) ⟨Nat.le_of_ble_eq_true rfl, Nat.le_of_ble_eq_true rfl⟩ hk dX11_count_112 (Nat.le_of_ble_eq_true rfl) (fun v S' hp => ?_)
    clear hw
    obtain ⟨hS, e8, rfl, hw⟩ := hp
    subst S'
    refine G_if_eq (pc := 115) C 122 dX11_count_115 (by decide) (fun hc => ?_) (fun hc => ?_)
    · have hw := hw.1 hc
      refine G_iconst (pc := 122) C (v := 0) dX11_count_122 (by decide) ?_
      exact G_sub [] rfl (g_X11_count_123 C  hw)
    · have hw := hw.2 hc
      refine G_iconst (pc := 118) C (v := 1) dX11_count_118 (by decide) ?_
      refine G_goto (pc := 119) C 123 dX11_count_119 (by decide) ?_
      exact G_sub [] rfl (g_X11_count_123 C  hw)
  have hw := hw.2 hc4
  by_cases hc5 : x1 = 5
  · have hw := hw.1 hc5
    refine G_tableIn (pc := 1) C 124 dX11_count_1 (by rw [hc5]; decide) (by rw [hc5]; decide) (off := 123) (by rw [hc5]; rfl) (by decide) ?_
    refine G_aload_n (pc := 124) C 0 dX11_count_124 rfl rfl ?_
    obtain ⟨hk, hw⟩ := hw
    refine gf_RX11_28 (pc := 125) C dX11_count_125 hk ?_
    obtain ⟨b10, hq, hw⟩ := hw
    rw [hq]
    obtain ⟨hk, hw⟩ := hw
    refine cl_RX11_240 (pc := 128) C (c_X2_cost l z (b10) S _ hw) ⟨Nat.le_of_ble_eq_true rfl, Nat.le_of_ble_eq_true rfl⟩ hk dX11_count_128 (Nat.le_of_ble_eq_true rfl) (fun v S' hp => ?_)
    clear hw
    obtain ⟨hS, e11, rfl, hw⟩ := hp
    subst S'
    exact G_iret (pc := 131) C rfl dX11_count_131 ⟨_, rfl, hw⟩
  have hw := hw.2 hc5
  by_cases hc6 : x1 = 6
  · have hw := hw.1 hc6
    refine G_tableIn (pc := 1) C 132 dX11_count_1 (by rw [hc6]; decide) (by rw [hc6]; decide) (off := 131) (by rw [hc6]; rfl) (by decide) ?_
    refine G_aload_n (pc := 132) C 0 dX11_count_132 rfl rfl ?_
    obtain ⟨hk, hw⟩ := hw
    refine gf_RX11_35 (pc := 133) C dX11_count_133 hk ?_
    refine G_aload_n (pc := 136) C 0 dX11_count_136 rfl rfl ?_
    obtain ⟨hk, hw⟩ := hw
    refine gf_RX11_28 (pc := 137) C dX11_count_137 hk ?_
    obtain ⟨b13, hq, hw⟩ := hw
    rw [hq]
    obtain ⟨b14, hq, hw⟩ := hw
    rw [hq]
    obtain ⟨hk, hw⟩ := hw
    refine cl_RX11_228 (pc := 140) C (c_X6_makePlan l z (b14) (b13) S _ hw) ⟨Nat.le_of_ble_eq_true rfl, Nat.le_of_ble_eq_true rfl⟩ hk dX11_count_140 (Nat.le_of_ble_eq_true rfl) (fun v S' hp => ?_)
    clear hw
    obtain ⟨e15, rfl, hw⟩ := hp
    generalize S' = S16 at hw ⊢
    refine G_if_eq (pc := 143) C 156 dX11_count_143 (by decide) (fun hc => ?_) (fun hc => ?_)
    · have hw := hw.1 hc
      refine G_iconst (pc := 156) C (v := -1) dX11_count_156 (by decide) ?_
      exact G_sub [] rfl (g_X11_count_157 C  hw)
    · have hw := hw.2 hc
      refine G_aload_n (pc := 146) C 0 dX11_count_146 rfl rfl ?_
      obtain ⟨hk, hw⟩ := hw
      refine gf_RX11_35 (pc := 147) C dX11_count_147 hk ?_
      obtain ⟨b17, hq, hw⟩ := hw
      rw [hq]
      obtain ⟨hk, hw⟩ := hw
      refine gf_RX11_243 (pc := 150) C dX11_count_150 hk ?_
      refine G_goto (pc := 153) C 157 dX11_count_153 (by decide) ?_
      exact G_sub [] rfl (g_X11_count_157 C  hw)
  have hw := hw.2 hc6
  by_cases hc7 : x1 = 7
  · have hw := hw.1 hc7
    refine G_tableIn (pc := 1) C 158 dX11_count_1 (by rw [hc7]; decide) (by rw [hc7]; decide) (off := 157) (by rw [hc7]; rfl) (by decide) ?_
    refine G_aload_n (pc := 158) C 0 dX11_count_158 rfl rfl ?_
    obtain ⟨hk, hw⟩ := hw
    refine gf_RX11_51 (pc := 159) C dX11_count_159 hk ?_
    obtain ⟨b18, hq, hw⟩ := hw
    rw [hq]
    obtain ⟨hk, hw⟩ := hw
    refine gf_RX11_245 (pc := 162) C dX11_count_162 hk ?_
    exact G_iret (pc := 165) C rfl dX11_count_165 ⟨_, rfl, hw⟩
  have hw := hw.2 hc7
  by_cases hc8 : x1 = 8
  · have hw := hw.1 hc8
    refine G_tableIn (pc := 1) C 166 dX11_count_1 (by rw [hc8]; decide) (by rw [hc8]; decide) (off := 165) (by rw [hc8]; rfl) (by decide) ?_
    refine G_aload_n (pc := 166) C 0 dX11_count_166 rfl rfl ?_
    obtain ⟨hk, hw⟩ := hw
    refine gf_RX11_51 (pc := 167) C dX11_count_167 hk ?_
    obtain ⟨b19, hq, hw⟩ := hw
    rw [hq]
    obtain ⟨hk, hw⟩ := hw
    refine gf_RX11_246 (pc := 170) C dX11_count_170 hk ?_
    exact G_iret (pc := 173) C rfl dX11_count_173 ⟨_, rfl, hw⟩
  have hw := hw.2 hc8
  by_cases hc9 : x1 = 9
  · have hw := hw.1 hc9
    refine G_tableIn (pc := 1) C 174 dX11_count_1 (by rw [hc9]; decide) (by rw [hc9]; decide) (off := 173) (by rw [hc9]; rfl) (by decide) ?_
    refine G_aload_n (pc := 174) C 0 dX11_count_174 rfl rfl ?_
    obtain ⟨hk, hw⟩ := hw
    refine gf_RX11_51 (pc := 175) C dX11_count_175 hk ?_
    obtain ⟨b20, hq, hw⟩ := hw
    rw [hq]
    obtain ⟨hk, hw⟩ := hw
    refine gf_RX11_144 (pc := 178) C dX11_count_178 hk ?_
    exact G_iret (pc := 181) C rfl dX11_count_181 ⟨_, rfl, hw⟩
  have hw := hw.2 hc9
  by_cases hc10 : x1 = 10
  · have hw := hw.1 hc10
    refine G_tableIn (pc := 1) C 182 dX11_count_1 (by rw [hc10]; decide) (by rw [hc10]; decide) (off := 181) (by rw [hc10]; rfl) (by decide) ?_
    refine G_aload_n (pc := 182) C 0 dX11_count_182 rfl rfl ?_
    obtain ⟨hk, hw⟩ := hw
    refine gf_RX11_51 (pc := 183) C dX11_count_183 hk ?_
    obtain ⟨b21, hq, hw⟩ := hw
    rw [hq]
    obtain ⟨hk, hw⟩ := hw
    refine cl_RX11_249 (pc := 186) C (c_X3_lostPackets l z (b21) S _ hw) ⟨Nat.le_of_ble_eq_true rfl, Nat.le_of_ble_eq_true rfl⟩ hk dX11_count_186 (Nat.le_of_ble_eq_true rfl) (fun v S' hp => ?_)
    clear hw
    obtain ⟨hS, e22, rfl, hw⟩ := hp
    subst S'
    exact G_iret (pc := 189) C rfl dX11_count_189 ⟨_, rfl, hw⟩
  have hw := hw.2 hc10
  by_cases hc11 : x1 = 11
  · have hw := hw.1 hc11
    refine G_tableIn (pc := 1) C 190 dX11_count_1 (by rw [hc11]; decide) (by rw [hc11]; decide) (off := 189) (by rw [hc11]; rfl) (by decide) ?_
    refine G_aload_n (pc := 190) C 0 dX11_count_190 rfl rfl ?_
    obtain ⟨hk, hw⟩ := hw
    refine gf_RX11_51 (pc := 191) C dX11_count_191 hk ?_
    refine G_iconst (pc := 194) C (v := 0) dX11_count_194 (by decide) ?_
    refine G_aload_n (pc := 195) C 0 dX11_count_195 rfl rfl ?_
    obtain ⟨hk, hw⟩ := hw
    refine gf_RX11_42 (pc := 196) C dX11_count_196 hk ?_
    obtain ⟨b24, hq, hw⟩ := hw
    rw [hq]
    obtain ⟨b25, hq, hw⟩ := hw
    rw [hq]
    obtain ⟨hk, hw⟩ := hw
    refine cl_RX11_252 (pc := 199) C (c_X3_partsInState l z (b25) ((0 : Int32)) (b24) S _ hw) ⟨Nat.le_of_ble_eq_true rfl, Nat.le_of_ble_eq_true rfl⟩ hk dX11_count_199 (Nat.le_of_ble_eq_true rfl) (fun v S' hp => ?_)
    clear hw
    obtain ⟨e26, rfl, hw⟩ := hp
    generalize S' = S27 at hw ⊢
    exact G_iret (pc := 202) C rfl dX11_count_202 ⟨_, rfl, hw⟩
  have hw := hw.2 hc11
  by_cases hc12 : x1 = 12
  · have hw := hw.1 hc12
    refine G_tableIn (pc := 1) C 203 dX11_count_1 (by rw [hc12]; decide) (by rw [hc12]; decide) (off := 202) (by rw [hc12]; rfl) (by decide) ?_
    refine G_aload_n (pc := 203) C 0 dX11_count_203 rfl rfl ?_
    obtain ⟨hk, hw⟩ := hw
    refine gf_RX11_51 (pc := 204) C dX11_count_204 hk ?_
    refine G_iconst (pc := 207) C (v := 2) dX11_count_207 (by decide) ?_
    refine G_aload_n (pc := 208) C 0 dX11_count_208 rfl rfl ?_
    obtain ⟨hk, hw⟩ := hw
    refine gf_RX11_42 (pc := 209) C dX11_count_209 hk ?_
    obtain ⟨b28, hq, hw⟩ := hw
    rw [hq]
    obtain ⟨b29, hq, hw⟩ := hw
    rw [hq]
    obtain ⟨hk, hw⟩ := hw
    refine cl_RX11_252 (pc := 212) C (c_X3_partsInState l z (b29) ((2 : Int32)) (b28) S _ hw) ⟨Nat.le_of_ble_eq_true rfl, Nat.le_of_ble_eq_true rfl⟩ hk dX11_count_212 (Nat.le_of_ble_eq_true rfl) (fun v S' hp => ?_)
    clear hw
    obtain ⟨e30, rfl, hw⟩ := hp
    generalize S' = S31 at hw ⊢
    exact G_iret (pc := 215) C rfl dX11_count_215 ⟨_, rfl, hw⟩
  have hw := hw.2 hc12
  by_cases hc13 : x1 = 13
  · have hw := hw.1 hc13
    refine G_tableIn (pc := 1) C 216 dX11_count_1 (by rw [hc13]; decide) (by rw [hc13]; decide) (off := 215) (by rw [hc13]; rfl) (by decide) ?_
    refine G_aload_n (pc := 216) C 0 dX11_count_216 rfl rfl ?_
    obtain ⟨hk, hw⟩ := hw
    refine gf_RX11_60 (pc := 217) C dX11_count_217 hk ?_
    obtain ⟨b32, hq, hw⟩ := hw
    rw [hq]
    obtain ⟨hk, hw⟩ := hw
    refine gf_RX11_169 (pc := 220) C dX11_count_220 hk ?_
    exact G_iret (pc := 223) C rfl dX11_count_223 ⟨_, rfl, hw⟩
  have hw := hw.2 hc13
  by_cases hc14 : x1 = 14
  · have hw := hw.1 hc14
    refine G_tableIn (pc := 1) C 224 dX11_count_1 (by rw [hc14]; decide) (by rw [hc14]; decide) (off := 223) (by rw [hc14]; rfl) (by decide) ?_
    refine G_aload_n (pc := 224) C 0 dX11_count_224 rfl rfl ?_
    obtain ⟨hk, hw⟩ := hw
    refine gf_RX11_10 (pc := 225) C dX11_count_225 hk ?_
    obtain ⟨b33, hq, hw⟩ := hw
    rw [hq]
    obtain ⟨hk, hw⟩ := hw
    refine gf_RX11_72 (pc := 228) C dX11_count_228 hk ?_
    exact G_iret (pc := 231) C rfl dX11_count_231 ⟨_, rfl, hw⟩
  have hw := hw.2 hc14
  refine G_tableOut (pc := 1) C 232 dX11_count_1 (by have k0 := ne_ti hc0 (by decide : (0 : Int32).toInt = 0); have k1 := ne_ti hc1 (by decide : (1 : Int32).toInt = 1); have k2 := ne_ti hc2 (by decide : (2 : Int32).toInt = 2); have k3 := ne_ti hc3 (by decide : (3 : Int32).toInt = 3); have k4 := ne_ti hc4 (by decide : (4 : Int32).toInt = 4); have k5 := ne_ti hc5 (by decide : (5 : Int32).toInt = 5); have k6 := ne_ti hc6 (by decide : (6 : Int32).toInt = 6); have k7 := ne_ti hc7 (by decide : (7 : Int32).toInt = 7); have k8 := ne_ti hc8 (by decide : (8 : Int32).toInt = 8); have k9 := ne_ti hc9 (by decide : (9 : Int32).toInt = 9); have k10 := ne_ti hc10 (by decide : (10 : Int32).toInt = 10); have k11 := ne_ti hc11 (by decide : (11 : Int32).toInt = 11); have k12 := ne_ti hc12 (by decide : (12 : Int32).toInt = 12); have k13 := ne_ti hc13 (by decide : (13 : Int32).toInt = 13); have k14 := ne_ti hc14 (by decide : (14 : Int32).toInt = 14); omega) (by decide) ?_
  refine G_bipush (pc := 232) C (v := -3) dX11_count_232 (by decide) ?_
  exact G_iret (pc := 234) C rfl dX11_count_234 ⟨_, rfl, hw⟩
end W22firstleantxt
