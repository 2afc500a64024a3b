section W16packedleantxt
variable {p : Program} {l : Launch} {e : Env} {R : Room} {s : State} {m : MethodId} {args : Array Value} {below : List Frame} {meth : Method} {c : Code} {z : Zt} {cc : ByteArray} {nL : Nat} {ow : String} {ret : Option FieldType} {nm : String} {Q : State → Prop} {bc bs pc : Nat} {lv : List (Nat × Value)} {st : List Value} {S : Hp}
theorem cl_RX3_63 (C : Cx p s m args meth c z cc nL RX3 ret nm) {a : Nat}  {rest : List Value} {post : Option Value → Hp → Prop} (hm : Ct l z yX5_stripes cX5_stripes 1 (some .int) 1 21 0 0 [.ref a] S post) (hR : 1 + 1 ≤ R.frames ∧ 8 + (1 + 11) + 21 ≤ R.locals) (hk : kd S a = 6) (hd : decode cc pc = .ok (.invokevirtual 63, 3)) (hW : (rest.map fun v => v.category).sum ≤ 8) (k : ∀ (v : Option Value) (S' : Hp), post v S' → Go p l e R s m args below meth c z nL Q bc bs (pc + 3) lv (v.toList ++ rest) S') : Go p l e R s m args below meth c z nL Q bc bs pc lv (.ref a :: rest) S := G_callV C 5 3 rfl rfl (gt_t 227 (by decide +kernel) rfl) (gt_t 228 (by decide +kernel) rfl) (gt_t 229 (by decide +kernel) rfl) (gt_t 6 (by decide +kernel) rfl) (gt_t 230 (by decide +kernel) rfl) (dsc_X5_stripes) hm rfl hR hk rfl hW hd k
theorem gf_RX3_18 (C : Cx p s m args meth c z cc nL RX3 ret nm) {a : Nat} (hd : decode cc pc = .ok (.getfield 18, 3)) (hk : kd S a = 4) (k : Go p l e R s m args below meth c z nL Q bc bs (pc + 3) lv (.int (gI S 50 a 0) :: st) S) : Go p l e R s m args below meth c z nL Q bc bs pc lv (.ref a :: st) S := G_getI C 3 1 6 rfl rfl (by decide) in_X3 rfl rfl (gt_t 283 (by decide +kernel) rfl) hd hk k
theorem gf_RX3_29 (C : Cx p s m args meth c z cc nL RX3 ret nm) {a : Nat} (hd : decode cc pc = .ok (.getfield 29, 3)) (hk : kd S a = 4) (k : Go p l e R s m args below meth c z nL Q bc bs (pc + 3) lv (va_rf (gR S 49 a 0) :: st) S) : Go p l e R s m args below meth c z nL Q bc bs pc lv (.ref a :: st) S := G_getR C 3 0 6 rfl rfl (by decide) in_X3 rfl rfl (gt_t 281 (by decide +kernel) rfl) hd hk k
theorem gf_RX3_33 (C : Cx p s m args meth c z cc nL RX3 ret nm) {a : Nat} (hd : decode cc pc = .ok (.getfield 33, 3)) (hk : kd S a = 4) (k : Go p l e R s m args below meth c z nL Q bc bs (pc + 3) lv (va_rf (gR S 51 a 0) :: st) S) : Go p l e R s m args below meth c z nL Q bc bs pc lv (.ref a :: st) S := G_getR C 3 2 6 rfl rfl (by decide) in_X3 rfl rfl (gt_t 285 (by decide +kernel) rfl) hd hk k
theorem gf_RX3_60 (C : Cx p s m args meth c z cc nL RX3 ret nm) {a : Nat} (hd : decode cc pc = .ok (.getfield 60, 3)) (hk : kd S a = 6) (k : Go p l e R s m args below meth c z nL Q bc bs (pc + 3) lv (.int (gI S 82 a 0) :: st) S) : Go p l e R s m args below meth c z nL Q bc bs pc lv (.ref a :: st) S := G_getI C 5 1 3 rfl rfl (by decide) in_X5 rfl rfl (gt_t 125 (by decide +kernel) rfl) hd hk k
theorem cl_RX3_69 (C : Cx p s m args meth c z cc nL RX3 ret nm) {q0 : Nat} {q1 : Int32} {q2 : Int32} {q3 : Int32} {rest : List Value} {post : Option Value → Hp → Prop} (hm : Ct l z yX11_valueAt cX11_valueAt 7 (some .int) 1 22 0 0 [.ref (q0), .int (q1), .int (q2), .int (q3)] S post) (hR : 1 + 1 ≤ R.frames ∧ 8 + (7 + 11) + 22 ≤ R.locals) (hd : decode cc pc = .ok (.invokestatic 69, 3)) (hW : (rest.map fun v => v.category).sum ≤ 8) (k : ∀ (v : Option Value) (S' : Hp), post v S' → Go p l e R s m args below meth c z nL Q bc bs (pc + 3) lv (v.toList ++ rest) S') : Go p l e R s m args below meth c z nL Q bc bs pc lv (.int (q3) :: .int (q2) :: .int (q1) :: .ref (q0) :: rest) S := G_callN C (by decide) (gt_t 268 (by decide +kernel) rfl) (gt_t 1 (by decide +kernel) rfl) (gt_t 269 (by decide +kernel) rfl) (dsc_X11_valueAt) hm rfl hR rfl hW hd k
theorem dsc_X4_put : dsc yX4_put 2 := ⟨by decide, by decide, by decide +kernel⟩
theorem cl_RX3_73 (C : Cx p s m args meth c z cc nL RX3 ret nm) {a : Nat} {q0 : Int32} {q1 : Int32} {rest : List Value} {post : Option Value → Hp → Prop} (hm : Ct l z yX4_put cX4_put 3 none 1 22 0 0 [.ref a, .int (q0), .int (q1)] S post) (hR : 1 + 1 ≤ R.frames ∧ 8 + (3 + 11) + 22 ≤ R.locals) (hk : kd S a = 5) (hd : decode cc pc = .ok (.invokevirtual 73, 3)) (hW : (rest.map fun v => v.category).sum ≤ 8) (k : ∀ (v : Option Value) (S' : Hp), post v S' → Go p l e R s m args below meth c z nL Q bc bs (pc + 3) lv (v.toList ++ rest) S') : Go p l e R s m args below meth c z nL Q bc bs pc lv (.int (q1) :: .int (q0) :: .ref a :: rest) S := G_callV C 4 4 rfl rfl (gt_t 276 (by decide +kernel) rfl) (gt_t 277 (by decide +kernel) rfl) (gt_t 278 (by decide +kernel) rfl) (gt_t 11 (by decide +kernel) rfl) (gt_t 279 (by decide +kernel) rfl) (dsc_X4_put) hm rfl hR hk rfl hW hd k
theorem gf_RX3_66 (C : Cx p s m args meth c z cc nL RX3 ret nm) {a : Nat} (hd : decode cc pc = .ok (.getfield 66, 3)) (hk : kd S a = 6) (k : Go p l e R s m args below meth c z nL Q bc bs (pc + 3) lv (va_rf (gR S 81 a 0) :: st) S) : Go p l e R s m args below meth c z nL Q bc bs pc lv (.ref a :: st) S := G_getR C 5 0 3 rfl rfl (by decide) in_X5 rfl rfl (gt_t 121 (by decide +kernel) rfl) hd hk k
theorem cl_RX3_9 (C : Cx p s m args meth c z cc nL RX3 ret nm) {q0 : Int32} {q1 : Int32} {rest : List Value} {post : Option Value → Hp → Prop} (hm : Ct l z yJ9_min_7cf53 cJ9_min_7cf53 2 (some .int) 0 0 0 0 [.int (q0), .int (q1)] S post) (hR : 0 + 1 ≤ R.frames ∧ 8 + (2 + 11) + 0 ≤ R.locals) (hd : decode cc pc = .ok (.invokestatic 9, 3)) (hW : (rest.map fun v => v.category).sum ≤ 8) (k : ∀ (v : Option Value) (S' : Hp), post v S' → Go p l e R s m args below meth c z nL Q bc bs (pc + 3) lv (v.toList ++ rest) S') : Go p l e R s m args below meth c z nL Q bc bs pc lv (.int (q1) :: .int (q0) :: rest) S := G_callS C (gt_t 216 (by decide +kernel) rfl) (gt_t 217 (by decide +kernel) rfl) (gt_t 10 (by decide +kernel) rfl) (gt_t 218 (by decide +kernel) rfl) (dsc_J9_min_7cf53) hm rfl hR rfl hW hd k
theorem cl_RX3_15 (C : Cx p s m args meth c z cc nL RX3 ret nm) {q0 : Int32} {q1 : Int32} {rest : List Value} {post : Option Value → Hp → Prop} (hm : Ct l z yJ9_max_7cf53 cJ9_max_7cf53 2 (some .int) 0 0 0 0 [.int (q0), .int (q1)] S post) (hR : 0 + 1 ≤ R.frames ∧ 8 + (2 + 11) + 0 ≤ R.locals) (hd : decode cc pc = .ok (.invokestatic 15, 3)) (hW : (rest.map fun v => v.category).sum ≤ 8) (k : ∀ (v : Option Value) (S' : Hp), post v S' → Go p l e R s m args below meth c z nL Q bc bs (pc + 3) lv (v.toList ++ rest) S') : Go p l e R s m args below meth c z nL Q bc bs pc lv (.int (q1) :: .int (q0) :: rest) S := G_callS C (gt_t 219 (by decide +kernel) rfl) (gt_t 220 (by decide +kernel) rfl) (gt_t 10 (by decide +kernel) rfl) (gt_t 221 (by decide +kernel) rfl) (dsc_J9_max_7cf53) hm rfl hR rfl hW hd k
theorem dsc_X3_order : dsc yX3_order 0 := ⟨by decide, by decide, by decide +kernel⟩
theorem cl_RX3_40 (C : Cx p s m args meth c z cc nL RX3 ret nm) {a : Nat}  {rest : List Value} {post : Option Value → Hp → Prop} (hm : Ct l z yX3_order cX3_order 4 (some .int) 2 41 0 0 [.ref a] S post) (hR : 2 + 1 ≤ R.frames ∧ 8 + (4 + 11) + 41 ≤ R.locals) (hk : kd S a = 4) (hd : decode cc pc = .ok (.invokevirtual 40, 3)) (hW : (rest.map fun v => v.category).sum ≤ 8) (k : ∀ (v : Option Value) (S' : Hp), post v S' → Go p l e R s m args below meth c z nL Q bc bs (pc + 3) lv (v.toList ++ rest) S') : Go p l e R s m args below meth c z nL Q bc bs pc lv (.ref a :: rest) S := G_callV C 3 6 rfl rfl (gt_t 223 (by decide +kernel) rfl) (gt_t 225 (by decide +kernel) rfl) (gt_s 0 (by decide +kernel) rfl) (gt_t 9 (by decide +kernel) rfl) (gt_t 226 (by decide +kernel) rfl) (dsc_X3_order) hm rfl hR hk rfl hW hd k
theorem dsc_X4_init : dsc yX4_init 1 := ⟨by decide, by decide, by decide +kernel⟩
theorem cl_RX3_53 (C : Cx p s m args meth c z cc nL RX3 ret nm) {a : Nat} {q0 : Int32} {rest : List Value} {post : Option Value → Hp → Prop} (hm : Ct l z yX4_init cX4_init 2 none 1 21 2 80 [.ref a, .int (q0)] S post) (hR : 1 + 1 ≤ R.frames ∧ 8 + (2 + 11) + 21 ≤ R.locals) (hd : decode cc pc = .ok (.invokespecial 53, 3)) (hW : (rest.map fun v => v.category).sum ≤ 8) (k : ∀ (v : Option Value) (S' : Hp), post v S' → Go p l e R s m args below meth c z nL Q bc bs (pc + 3) lv (v.toList ++ rest) S') : Go p l e R s m args below meth c z nL Q (bc + 2) (bs + 80) pc lv (.int (q0) :: .ref a :: rest) S := G_callI C rfl (gt_t 237 (by decide +kernel) rfl) (gt_t 238 (by decide +kernel) rfl) (gt_t 11 (by decide +kernel) rfl) (gt_t 239 (by decide +kernel) rfl) (dsc_X4_init) hm rfl hR rfl hW hd k
theorem dsc_X3_fill : dsc yX3_fill 2 := ⟨by decide, by decide, by decide +kernel⟩
theorem cl_RX3_56 (C : Cx p s m args meth c z cc nL RX3 ret nm) {a : Nat} {q0 : Nat} {q1 : Int32} {rest : List Value} {post : Option Value → Hp → Prop} (hm : Ct l z yX3_fill cX3_fill 6 none 2 48 0 0 [.ref a, .ref (q0), .int (q1)] S post) (hR : 2 + 1 ≤ R.frames ∧ 8 + (6 + 11) + 48 ≤ R.locals) (hk : kd S a = 4) (hd : decode cc pc = .ok (.invokevirtual 56, 3)) (hW : (rest.map fun v => v.category).sum ≤ 8) (k : ∀ (v : Option Value) (S' : Hp), post v S' → Go p l e R s m args below meth c z nL Q bc bs (pc + 3) lv (v.toList ++ rest) S') : Go p l e R s m args below meth c z nL Q bc bs pc lv (.int (q1) :: .ref (q0) :: .ref a :: rest) S := G_callV C 3 6 rfl rfl (gt_t 263 (by decide +kernel) rfl) (gt_t 265 (by decide +kernel) rfl) (gt_s 1 (by decide +kernel) rfl) (gt_t 9 (by decide +kernel) rfl) (gt_t 266 (by decide +kernel) rfl) (dsc_X3_fill) hm rfl hR hk rfl hW hd k
theorem cw_RX3_27 : Cond.classLink RX3 27 "FirstParts$Part" ∈ gt := gt_t 222 (by decide +kernel) rfl
theorem cw_RX3_47 : Cond.classLink RX3 47 "FirstParts$Packet" ∈ gt := gt_t 234 (by decide +kernel) rfl
theorem gf_RX3_24 (C : Cx p s m args meth c z cc nL RX3 ret nm) {a : Nat} (hd : decode cc pc = .ok (.getfield 24, 3)) (hk : kd S a = 4) (k : Go p l e R s m args below meth c z nL Q bc bs (pc + 3) lv (.int (gI S 53 a 0) :: st) S) : Go p l e R s m args below meth c z nL Q bc bs pc lv (.ref a :: st) S := G_getI C 3 4 6 rfl rfl (by decide) in_X3 rfl rfl (gt_t 289 (by decide +kernel) rfl) hd hk k
theorem gf_RX3_37 (C : Cx p s m args meth c z cc nL RX3 ret nm) {a : Nat} (hd : decode cc pc = .ok (.getfield 37, 3)) (hk : kd S a = 3) (k : Go p l e R s m args below meth c z nL Q bc bs (pc + 3) lv (va_rf (gR S 33 a 0) :: st) S) : Go p l e R s m args below meth c z nL Q bc bs pc lv (.ref a :: st) S := G_getR C 2 0 4 rfl rfl (by decide) in_X2 rfl rfl (gt_t 140 (by decide +kernel) rfl) hd hk k
theorem gf_RX3_44 (C : Cx p s m args meth c z cc nL RX3 ret nm) {a : Nat} (hd : decode cc pc = .ok (.getfield 44, 3)) (hk : kd S a = 4) (k : Go p l e R s m args below meth c z nL Q bc bs (pc + 3) lv (.int (gI S 54 a 0) :: st) S) : Go p l e R s m args below meth c z nL Q bc bs pc lv (.ref a :: st) S := G_getI C 3 5 6 rfl rfl (by decide) in_X3 rfl rfl (gt_t 291 (by decide +kernel) rfl) hd hk k
theorem gf_RX3_49 (C : Cx p s m args meth c z cc nL RX3 ret nm) {a : Nat} (hd : decode cc pc = .ok (.getfield 49, 3)) (hk : kd S a = 4) (k : Go p l e R s m args below meth c z nL Q bc bs (pc + 3) lv (va_rf (gR S 52 a 0) :: st) S) : Go p l e R s m args below meth c z nL Q bc bs pc lv (.ref a :: st) S := G_getR C 3 3 6 rfl rfl (by decide) in_X3 rfl rfl (gt_t 287 (by decide +kernel) rfl) hd hk k
theorem nw_RX3_47 (C : Cx p s m args meth c z cc nL RX3 ret nm) (hd : decode cc pc = .ok (.new 47, 3)) (k : Go p l e R s m args below meth c z nL Q bc bs (pc + 3) lv (.ref (sz S) :: st) (nw S 5 0)) : Go p l e R s m args below meth c z nL Q (bc + 1) (bs + 4) pc lv st S := G_new C 4 4 rfl rfl in_X4 tyX4 tyX4_ok (by decide) (gt_t 234 (by decide +kernel) rfl) (gt_t 236 (by decide +kernel) rfl) (gt_t 11 (by decide +kernel) rfl) hd k
theorem oi_RX3_3 : Cond.methodLink RX3 3 Lib.objectInit ∈ gt := gt_t 215 (by decide +kernel) rfl
theorem pf_RX3_18 (C : Cx p s m args meth c z cc nL RX3 ret nm) {a : Nat} {v : Int32} (hfn : nm = "<init>") (hd : decode cc pc = .ok (.putfield 18, 3)) (hk : kd S a = 4) (k : Go p l e R s m args below meth c z nL Q bc bs (pc + 3) lv st (sI S 50 a 0 v)) : Go p l e R s m args below meth c z nL Q bc bs pc lv (.int v :: .ref a :: st) S := G_putI C 3 1 6 rfl rfl (by decide) in_X3 tyX3 tyX3_ok nmX3 rfl rfl (gt_t 283 (by decide +kernel) rfl) (Or.inr ⟨rfl, hfn, rfl⟩) rfl rfl hd hk k
theorem pf_RX3_24 (C : Cx p s m args meth c z cc nL RX3 ret nm) {a : Nat} {v : Int32} (hfn : nm = "<init>") (hd : decode cc pc = .ok (.putfield 24, 3)) (hk : kd S a = 4) (k : Go p l e R s m args below meth c z nL Q bc bs (pc + 3) lv st (sI S 53 a 0 v)) : Go p l e R s m args below meth c z nL Q bc bs pc lv (.int v :: .ref a :: st) S := G_putI C 3 4 6 rfl rfl (by decide) in_X3 tyX3 tyX3_ok nmX3 rfl rfl (gt_t 289 (by decide +kernel) rfl) (Or.inr ⟨rfl, hfn, rfl⟩) rfl rfl hd hk k
theorem pf_RX3_29 (C : Cx p s m args meth c z cc nL RX3 ret nm) {a : Nat} {v : Option Nat} (hfn : nm = "<init>") (hd : decode cc pc = .ok (.putfield 29, 3)) (hk : kd S a = 4) (k : Go p l e R s m args below meth c z nL Q bc bs (pc + 3) lv st (sR S 49 a 0 v)) : Go p l e R s m args below meth c z nL Q bc bs pc lv (va_rf v :: .ref a :: st) S := G_putR C 3 0 6 rfl rfl (by decide) in_X3 tyX3 tyX3_ok nmX3 rfl rfl (gt_t 281 (by decide +kernel) rfl) (Or.inr ⟨rfl, hfn, rfl⟩) (fun _ => rfl) rfl (fun _ => rfl) rfl hd hk k
theorem pf_RX3_33 (C : Cx p s m args meth c z cc nL RX3 ret nm) {a : Nat} {v : Option Nat} (hfn : nm = "<init>") (hd : decode cc pc = .ok (.putfield 33, 3)) (hk : kd S a = 4) (k : Go p l e R s m args below meth c z nL Q bc bs (pc + 3) lv st (sR S 51 a 0 v)) : Go p l e R s m args below meth c z nL Q bc bs pc lv (va_rf v :: .ref a :: st) S := G_putR C 3 2 6 rfl rfl (by decide) in_X3 tyX3 tyX3_ok nmX3 rfl rfl (gt_t 285 (by decide +kernel) rfl) (Or.inr ⟨rfl, hfn, rfl⟩) (fun _ => rfl) rfl (fun _ => rfl) rfl hd hk k
theorem pf_RX3_44 (C : Cx p s m args meth c z cc nL RX3 ret nm) {a : Nat} {v : Int32} (hfn : nm = "<init>") (hd : decode cc pc = .ok (.putfield 44, 3)) (hk : kd S a = 4) (k : Go p l e R s m args below meth c z nL Q bc bs (pc + 3) lv st (sI S 54 a 0 v)) : Go p l e R s m args below meth c z nL Q bc bs pc lv (.int v :: .ref a :: st) S := G_putI C 3 5 6 rfl rfl (by decide) in_X3 tyX3 tyX3_ok nmX3 rfl rfl (gt_t 291 (by decide +kernel) rfl) (Or.inr ⟨rfl, hfn, rfl⟩) rfl rfl hd hk k
theorem pf_RX3_49 (C : Cx p s m args meth c z cc nL RX3 ret nm) {a : Nat} {v : Option Nat} (hfn : nm = "<init>") (hd : decode cc pc = .ok (.putfield 49, 3)) (hk : kd S a = 4) (k : Go p l e R s m args below meth c z nL Q bc bs (pc + 3) lv st (sR S 52 a 0 v)) : Go p l e R s m args below meth c z nL Q bc bs pc lv (va_rf v :: .ref a :: st) S := G_putR C 3 3 6 rfl rfl (by decide) in_X3 tyX3 tyX3_ok nmX3 rfl rfl (gt_t 287 (by decide +kernel) rfl) (Or.inr ⟨rfl, hfn, rfl⟩) (fun _ => rfl) rfl (fun _ => rfl) rfl hd hk k
theorem cl_RX3_77 (C : Cx p s m args meth c z cc nL RX3 ret nm) {q0 : Int32} {q1 : Int32} {q2 : Int32} {rest : List Value} {post : Option Value → Hp → Prop} (hm : Ct l z yX11_within cX11_within 3 (some .boolean) 0 0 0 0 [.int (q0), .int (q1), .int (q2)] S post) (hR : 0 + 1 ≤ R.frames ∧ 8 + (3 + 11) + 0 ≤ R.locals) (hd : decode cc pc = .ok (.invokestatic 77, 3)) (hW : (rest.map fun v => v.category).sum ≤ 8) (k : ∀ (v : Option Value) (S' : Hp), post v S' → Go p l e R s m args below meth c z nL Q bc bs (pc + 3) lv (v.toList ++ rest) S') : Go p l e R s m args below meth c z nL Q bc bs pc lv (.int (q2) :: .int (q1) :: .int (q0) :: rest) S := G_callN C (by decide) (gt_t 271 (by decide +kernel) rfl) (gt_t 1 (by decide +kernel) rfl) (gt_t 272 (by decide +kernel) rfl) (dsc_X11_within) hm rfl hR rfl hW hd k
theorem dsc_X1_begin : dsc yX1_begin 1 := ⟨by decide, by decide, by decide +kernel⟩
theorem cl_RX3_81 (C : Cx p s m args meth c z cc nL RX3 ret nm) {a : Nat} {q0 : Int32} {rest : List Value} {post : Option Value → Hp → Prop} (hm : Ct l z yX1_begin cX1_begin 2 none 1 21 0 0 [.ref a, .int (q0)] S post) (hR : 1 + 1 ≤ R.frames ∧ 8 + (2 + 11) + 21 ≤ R.locals) (hk : kd S a = 2) (hd : decode cc pc = .ok (.invokevirtual 81, 3)) (hW : (rest.map fun v => v.category).sum ≤ 8) (k : ∀ (v : Option Value) (S' : Hp), post v S' → Go p l e R s m args below meth c z nL Q bc bs (pc + 3) lv (v.toList ++ rest) S') : Go p l e R s m args below meth c z nL Q bc bs pc lv (.int (q0) :: .ref a :: rest) S := G_callV C 1 7 rfl rfl (gt_t 656 (by decide +kernel) rfl) (gt_t 657 (by decide +kernel) rfl) (gt_t 658 (by decide +kernel) rfl) (gt_t 8 (by decide +kernel) rfl) (gt_t 659 (by decide +kernel) rfl) (dsc_X1_begin) hm rfl hR hk rfl hW hd k
theorem cl_RX3_86 (C : Cx p s m args meth c z cc nL RX3 ret nm) {a : Nat} {q0 : Int32} {rest : List Value} {post : Option Value → Hp → Prop} (hm : Ct l z yX4_holds cX4_holds 2 (some .boolean) 1 22 0 0 [.ref a, .int (q0)] S post) (hR : 1 + 1 ≤ R.frames ∧ 8 + (2 + 11) + 22 ≤ R.locals) (hk : kd S a = 5) (hd : decode cc pc = .ok (.invokevirtual 86, 3)) (hW : (rest.map fun v => v.category).sum ≤ 8) (k : ∀ (v : Option Value) (S' : Hp), post v S' → Go p l e R s m args below meth c z nL Q bc bs (pc + 3) lv (v.toList ++ rest) S') : Go p l e R s m args below meth c z nL Q bc bs pc lv (.int (q0) :: .ref a :: rest) S := G_callV C 4 4 rfl rfl (gt_t 662 (by decide +kernel) rfl) (gt_t 611 (by decide +kernel) rfl) (gt_t 612 (by decide +kernel) rfl) (gt_t 11 (by decide +kernel) rfl) (gt_t 613 (by decide +kernel) rfl) (dsc_X4_holds) hm rfl hR hk rfl hW hd k
theorem dsc_X1_hold : dsc yX1_hold 2 := ⟨by decide, by decide, by decide +kernel⟩
theorem cl_RX3_93 (C : Cx p s m args meth c z cc nL RX3 ret nm) {a : Nat} {q0 : Int32} {q1 : Int32} {rest : List Value} {post : Option Value → Hp → Prop} (hm : Ct l z yX1_hold cX1_hold 3 none 0 0 0 0 [.ref a, .int (q0), .int (q1)] S post) (hR : 0 + 1 ≤ R.frames ∧ 8 + (3 + 11) + 0 ≤ R.locals) (hk : kd S a = 2) (hd : decode cc pc = .ok (.invokevirtual 93, 3)) (hW : (rest.map fun v => v.category).sum ≤ 8) (k : ∀ (v : Option Value) (S' : Hp), post v S' → Go p l e R s m args below meth c z nL Q bc bs (pc + 3) lv (v.toList ++ rest) S') : Go p l e R s m args below meth c z nL Q bc bs pc lv (.int (q1) :: .int (q0) :: .ref a :: rest) S := G_callV C 1 7 rfl rfl (gt_t 663 (by decide +kernel) rfl) (gt_t 664 (by decide +kernel) rfl) (gt_t 665 (by decide +kernel) rfl) (gt_t 8 (by decide +kernel) rfl) (gt_t 666 (by decide +kernel) rfl) (dsc_X1_hold) hm rfl hR hk rfl hW hd k
theorem gf_RX3_90 (C : Cx p s m args meth c z cc nL RX3 ret nm) {a : Nat} (hd : decode cc pc = .ok (.getfield 90, 3)) (hk : kd S a = 5) (k : Go p l e R s m args below meth c z nL Q bc bs (pc + 3) lv (va_rf (gR S 66 a 0) :: st) S) : Go p l e R s m args below meth c z nL Q bc bs pc lv (.ref a :: st) S := G_getR C 4 1 4 rfl rfl (by decide) in_X4 rfl rfl (gt_t 245 (by decide +kernel) rfl) hd hk k
theorem dsc_X3_gather : dsc yX3_gather 3 := ⟨by decide, by decide, by decide +kernel⟩
theorem cl_RX3_96 (C : Cx p s m args meth c z cc nL RX3 ret nm) {a : Nat} {q0 : Int32} {q1 : Int32} {q2 : Nat} {rest : List Value} {post : Option Value → Hp → Prop} (hm : Ct l z yX3_gather cX3_gather 6 none 2 43 0 0 [.ref a, .int (q0), .int (q1), .ref (q2)] S post) (hR : 2 + 1 ≤ R.frames ∧ 8 + (6 + 11) + 43 ≤ R.locals) (hk : kd S a = 4) (hd : decode cc pc = .ok (.invokevirtual 96, 3)) (hW : (rest.map fun v => v.category).sum ≤ 8) (k : ∀ (v : Option Value) (S' : Hp), post v S' → Go p l e R s m args below meth c z nL Q bc bs (pc + 3) lv (v.toList ++ rest) S') : Go p l e R s m args below meth c z nL Q bc bs pc lv (.ref (q2) :: .int (q1) :: .int (q0) :: .ref a :: rest) S := G_callV C 3 6 rfl rfl (gt_t 652 (by decide +kernel) rfl) (gt_t 653 (by decide +kernel) rfl) (gt_t 654 (by decide +kernel) rfl) (gt_t 9 (by decide +kernel) rfl) (gt_t 655 (by decide +kernel) rfl) (dsc_X3_gather) hm rfl hR hk rfl hW hd k
theorem dsc_X1_hasEnough : dsc yX1_hasEnough 0 := ⟨by decide, by decide, by decide +kernel⟩
theorem cl_RX3_100 (C : Cx p s m args meth c z cc nL RX3 ret nm) {a : Nat}  {rest : List Value} {post : Option Value → Hp → Prop} (hm : Ct l z yX1_hasEnough cX1_hasEnough 1 (some .boolean) 0 0 0 0 [.ref a] S post) (hR : 0 + 1 ≤ R.frames ∧ 8 + (1 + 11) + 0 ≤ R.locals) (hk : kd S a = 2) (hd : decode cc pc = .ok (.invokevirtual 100, 3)) (hW : (rest.map fun v => v.category).sum ≤ 8) (k : ∀ (v : Option Value) (S' : Hp), post v S' → Go p l e R s m args below meth c z nL Q bc bs (pc + 3) lv (v.toList ++ rest) S') : Go p l e R s m args below meth c z nL Q bc bs pc lv (.ref a :: rest) S := G_callV C 1 7 rfl rfl (gt_t 667 (by decide +kernel) rfl) (gt_t 668 (by decide +kernel) rfl) (gt_t 669 (by decide +kernel) rfl) (gt_t 8 (by decide +kernel) rfl) (gt_t 670 (by decide +kernel) rfl) (dsc_X1_hasEnough) hm rfl hR hk rfl hW hd k
theorem dsc_X1_goThroughFirst : dsc yX1_goThroughFirst 0 := ⟨by decide, by decide, by decide +kernel⟩
theorem cl_RX3_104 (C : Cx p s m args meth c z cc nL RX3 ret nm) {a : Nat}  {rest : List Value} {post : Option Value → Hp → Prop} (hm : Ct l z yX1_goThroughFirst cX1_goThroughFirst 1 none 3 68 0 0 [.ref a] S post) (hR : 3 + 1 ≤ R.frames ∧ 8 + (1 + 11) + 68 ≤ R.locals) (hk : kd S a = 2) (hd : decode cc pc = .ok (.invokevirtual 104, 3)) (hW : (rest.map fun v => v.category).sum ≤ 8) (k : ∀ (v : Option Value) (S' : Hp), post v S' → Go p l e R s m args below meth c z nL Q bc bs (pc + 3) lv (v.toList ++ rest) S') : Go p l e R s m args below meth c z nL Q bc bs pc lv (.ref a :: rest) S := G_callV C 1 7 rfl rfl (gt_t 671 (by decide +kernel) rfl) (gt_t 672 (by decide +kernel) rfl) (gt_t 673 (by decide +kernel) rfl) (gt_t 8 (by decide +kernel) rfl) (gt_t 674 (by decide +kernel) rfl) (dsc_X1_goThroughFirst) hm rfl hR hk rfl hW hd k
theorem cl_RX3_107 (C : Cx p s m args meth c z cc nL RX3 ret nm) {a : Nat}  {rest : List Value} {post : Option Value → Hp → Prop} (hm : Ct l z yX1_agreeing cX1_agreeing 3 (some .int) 2 48 0 0 [.ref a] S post) (hR : 2 + 1 ≤ R.frames ∧ 8 + (3 + 11) + 48 ≤ R.locals) (hk : kd S a = 2) (hd : decode cc pc = .ok (.invokevirtual 107, 3)) (hW : (rest.map fun v => v.category).sum ≤ 8) (k : ∀ (v : Option Value) (S' : Hp), post v S' → Go p l e R s m args below meth c z nL Q bc bs (pc + 3) lv (v.toList ++ rest) S') : Go p l e R s m args below meth c z nL Q bc bs pc lv (.ref a :: rest) S := G_callV C 1 7 rfl rfl (gt_t 690 (by decide +kernel) rfl) (gt_t 691 (by decide +kernel) rfl) (gt_t 692 (by decide +kernel) rfl) (gt_t 8 (by decide +kernel) rfl) (gt_t 693 (by decide +kernel) rfl) (dsc_X1_agreeing) hm rfl hR hk rfl hW hd k
theorem gf_RX3_110 (C : Cx p s m args meth c z cc nL RX3 ret nm) {a : Nat} (hd : decode cc pc = .ok (.getfield 110, 3)) (hk : kd S a = 2) (k : Go p l e R s m args below meth c z nL Q bc bs (pc + 3) lv (.int (gI S 19 a 0) :: st) S) : Go p l e R s m args below meth c z nL Q bc bs pc lv (.ref a :: st) S := G_getI C 1 2 7 rfl rfl (by decide) in_X1 rfl rfl (gt_t 190 (by decide +kernel) rfl) hd hk k
theorem dsc_X3_stateOf : dsc yX3_stateOf 2 := ⟨by decide, by decide, by decide +kernel⟩
theorem cl_RX3_113 (C : Cx p s m args meth c z cc nL RX3 ret nm) {a : Nat} {q0 : Int32} {q1 : Nat} {rest : List Value} {post : Option Value → Hp → Prop} (hm : Ct l z yX3_stateOf cX3_stateOf 5 (some .int) 4 88 0 0 [.ref a, .int (q0), .ref (q1)] S post) (hR : 4 + 1 ≤ R.frames ∧ 8 + (5 + 11) + 88 ≤ R.locals) (hk : kd S a = 4) (hd : decode cc pc = .ok (.invokevirtual 113, 3)) (hW : (rest.map fun v => v.category).sum ≤ 8) (k : ∀ (v : Option Value) (S' : Hp), post v S' → Go p l e R s m args below meth c z nL Q bc bs (pc + 3) lv (v.toList ++ rest) S') : Go p l e R s m args below meth c z nL Q bc bs pc lv (.ref (q1) :: .int (q0) :: .ref a :: rest) S := G_callV C 3 6 rfl rfl (gt_t 821 (by decide +kernel) rfl) (gt_t 649 (by decide +kernel) rfl) (gt_t 650 (by decide +kernel) rfl) (gt_t 9 (by decide +kernel) rfl) (gt_t 651 (by decide +kernel) rfl) (dsc_X3_stateOf) hm rfl hR hk rfl hW hd k
theorem dsc_X3_holdersAt : dsc yX3_holdersAt 1 := ⟨by decide, by decide, by decide +kernel⟩
theorem cl_RX3_117 (C : Cx p s m args meth c z cc nL RX3 ret nm) {a : Nat} {q0 : Int32} {rest : List Value} {post : Option Value → Hp → Prop} (hm : Ct l z yX3_holdersAt cX3_holdersAt 4 (some .int) 2 43 0 0 [.ref a, .int (q0)] S post) (hR : 2 + 1 ≤ R.frames ∧ 8 + (4 + 11) + 43 ≤ R.locals) (hk : kd S a = 4) (hd : decode cc pc = .ok (.invokevirtual 117, 3)) (hW : (rest.map fun v => v.category).sum ≤ 8) (k : ∀ (v : Option Value) (S' : Hp), post v S' → Go p l e R s m args below meth c z nL Q bc bs (pc + 3) lv (v.toList ++ rest) S') : Go p l e R s m args below meth c z nL Q bc bs pc lv (.int (q0) :: .ref a :: rest) S := G_callV C 3 6 rfl rfl (gt_t 699 (by decide +kernel) rfl) (gt_t 701 (by decide +kernel) rfl) (gt_s 13 (by decide +kernel) rfl) (gt_t 9 (by decide +kernel) rfl) (gt_t 702 (by decide +kernel) rfl) (dsc_X3_holdersAt) hm rfl hR hk rfl hW hd k
theorem cl_RX3_121 (C : Cx p s m args meth c z cc nL RX3 ret nm) {q0 : Int32} {rest : List Value} {post : Option Value → Hp → Prop} (hm : Ct l z yJ6_bitCount_0f7a4 cJ6_bitCount_0f7a4 1 (some .int) 0 0 0 0 [.int (q0)] S post) (hR : 0 + 1 ≤ R.frames ∧ 8 + (1 + 11) + 0 ≤ R.locals) (hd : decode cc pc = .ok (.invokestatic 121, 3)) (hW : (rest.map fun v => v.category).sum ≤ 8) (k : ∀ (v : Option Value) (S' : Hp), post v S' → Go p l e R s m args below meth c z nL Q bc bs (pc + 3) lv (v.toList ++ rest) S') : Go p l e R s m args below meth c z nL Q bc bs pc lv (.int (q0) :: rest) S := G_callS C (gt_t 707 (by decide +kernel) rfl) (gt_t 708 (by decide +kernel) rfl) (gt_t 20 (by decide +kernel) rfl) (gt_t 709 (by decide +kernel) rfl) (dsc_J6_bitCount_0f7a4) hm rfl hR rfl hW hd k
theorem dsc_X1_mend : dsc yX1_mend 0 := ⟨by decide, by decide, by decide +kernel⟩
theorem cl_RX3_130 (C : Cx p s m args meth c z cc nL RX3 ret nm) {a : Nat}  {rest : List Value} {post : Option Value → Hp → Prop} (hm : Ct l z yX1_mend cX1_mend 3 (some .boolean) 3 70 0 0 [.ref a] S post) (hR : 3 + 1 ≤ R.frames ∧ 8 + (3 + 11) + 70 ≤ R.locals) (hk : kd S a = 2) (hd : decode cc pc = .ok (.invokevirtual 130, 3)) (hW : (rest.map fun v => v.category).sum ≤ 8) (k : ∀ (v : Option Value) (S' : Hp), post v S' → Go p l e R s m args below meth c z nL Q bc bs (pc + 3) lv (v.toList ++ rest) S') : Go p l e R s m args below meth c z nL Q bc bs pc lv (.ref a :: rest) S := G_callV C 1 7 rfl rfl (gt_t 755 (by decide +kernel) rfl) (gt_t 738 (by decide +kernel) rfl) (gt_t 739 (by decide +kernel) rfl) (gt_t 8 (by decide +kernel) rfl) (gt_t 740 (by decide +kernel) rfl) (dsc_X1_mend) hm rfl hR hk rfl hW hd k
theorem dsc_X1_at : dsc yX1_at 1 := ⟨by decide, by decide, by decide +kernel⟩
theorem cl_RX3_133 (C : Cx p s m args meth c z cc nL RX3 ret nm) {a : Nat} {q0 : Int32} {rest : List Value} {post : Option Value → Hp → Prop} (hm : Ct l z yX1_at cX1_at 2 (some .int) 2 48 0 0 [.ref a, .int (q0)] S post) (hR : 2 + 1 ≤ R.frames ∧ 8 + (2 + 11) + 48 ≤ R.locals) (hk : kd S a = 2) (hd : decode cc pc = .ok (.invokevirtual 133, 3)) (hW : (rest.map fun v => v.category).sum ≤ 8) (k : ∀ (v : Option Value) (S' : Hp), post v S' → Go p l e R s m args below meth c z nL Q bc bs (pc + 3) lv (v.toList ++ rest) S') : Go p l e R s m args below meth c z nL Q bc bs pc lv (.int (q0) :: .ref a :: rest) S := G_callV C 1 7 rfl rfl (gt_t 756 (by decide +kernel) rfl) (gt_t 757 (by decide +kernel) rfl) (gt_t 758 (by decide +kernel) rfl) (gt_t 8 (by decide +kernel) rfl) (gt_t 759 (by decide +kernel) rfl) (dsc_X1_at) hm rfl hR hk rfl hW hd k
theorem dsc_X3_blames : dsc yX3_blames 4 := ⟨by decide, by decide, by decide +kernel⟩
theorem cl_RX3_126 (C : Cx p s m args meth c z cc nL RX3 ret nm) {a : Nat} {q0 : Int32} {q1 : Int32} {q2 : Int32} {q3 : Nat} {rest : List Value} {post : Option Value → Hp → Prop} (hm : Ct l z yX3_blames cX3_blames 6 (some .boolean) 4 92 0 0 [.ref a, .int (q0), .int (q1), .int (q2), .ref (q3)] S post) (hR : 4 + 1 ≤ R.frames ∧ 8 + (6 + 11) + 92 ≤ R.locals) (hk : kd S a = 4) (hd : decode cc pc = .ok (.invokevirtual 126, 3)) (hW : (rest.map fun v => v.category).sum ≤ 8) (k : ∀ (v : Option Value) (S' : Hp), post v S' → Go p l e R s m args below meth c z nL Q bc bs (pc + 3) lv (v.toList ++ rest) S') : Go p l e R s m args below meth c z nL Q bc bs pc lv (.ref (q3) :: .int (q2) :: .int (q1) :: .int (q0) :: .ref a :: rest) S := G_callV C 3 6 rfl rfl (gt_t 751 (by decide +kernel) rfl) (gt_t 753 (by decide +kernel) rfl) (gt_s 14 (by decide +kernel) rfl) (gt_t 9 (by decide +kernel) rfl) (gt_t 754 (by decide +kernel) rfl) (dsc_X3_blames) hm rfl hR hk rfl hW hd k
theorem gf_RX3_136 (C : Cx p s m args meth c z cc nL RX3 ret nm) {a : Nat} (hd : decode cc pc = .ok (.getfield 136, 3)) (hk : kd S a = 5) (k : Go p l e R s m args below meth c z nL Q bc bs (pc + 3) lv (.int (gI S 68 a 0) :: st) S) : Go p l e R s m args below meth c z nL Q bc bs pc lv (.ref a :: st) S := G_getI C 4 3 4 rfl rfl (by decide) in_X4 rfl rfl (gt_t 253 (by decide +kernel) rfl) hd hk k
/-! FirstParts$Packed.order()I -/
abbrev wp_X3_order_52 (K4 : Int32 → Int32 → Hp → Prop) (K12 : Int32 → Int32 → Hp → Prop) (Q : Int32 → Hp → Prop) (v0 : Nat) (v1 : Int32) (v2 : Int32) (v3 : Int32) (S : Hp) : Prop :=
  ∀ e4 : Int32, e4 = (v3 + 1) → K12 (v1) (e4) (S)
abbrev wb_X3_order_12 (K4 : Int32 → Int32 → Hp → Prop) (K12 : Int32 → Int32 → Hp → Prop) (Q : Int32 → Hp → Prop) (v0 : Nat) (v1 : Int32) (v2 : Int32) (v3 : Int32) (S : Hp) : Prop :=
  kd S v0 = 4 ∧ (((gI S 50 v0 0) ≤ v3 → ∀ e1 : Int32, e1 = (v2 + 1) → K4 (v1) (e1) (S)) ∧ (¬ (gI S 50 v0 0) ≤ v3 → kd S v0 = 4 ∧ ∃ b2, (gR S 49 v0 0) = some b2 ∧ kd S b2 = 23 ∧ vp_in v3 (ln S b2) ∧ ∃ b3, (gR S 0 b2 (v3).toNatClampNeg) = some b3 ∧ kd S b3 = 6 ∧ (((gI S 82 b3 0) ≠ v2 → wp_X3_order_52 K4 K12 Q (v0) (v1) (v2) (v3) (S)) ∧ ((gI S 82 b3 0) = v2 → kd S v0 = 4 ∧ ∃ b5, (gR S 51 v0 0) = some b5 ∧ kd S b5 = 20 ∧ vp_in v3 (ln S b5) ∧ ∀ S6 : Hp, S6 = sI S 0 b5 (v3).toNatClampNeg v1 → kd S6 v0 = 4 ∧ ∃ b7, (gR S6 49 v0 0) = some b7 ∧ kd S6 b7 = 23 ∧ vp_in v3 (ln S6 b7) ∧ ∃ b8, (gR S6 0 b7 (v3).toNatClampNeg) = some b8 ∧ kd S6 b8 = 6 ∧ wp_X5_stripes (b8) S6 (fun e9 => ∀ e11 : Int32, e11 = (v1 + e9) → wp_X3_order_52 K4 K12 Q (v0) (e11) (v2) (v3) (S6))))))
abbrev wp_X3_order_12 (K4 : Int32 → Int32 → Hp → Prop) (Q : Int32 → Hp → Prop) (v0 : Nat) (v1 : Int32) (v2 : Int32) (v3 : Int32) (S : Hp) : Prop :=
  Lp (X := Int32 × Int32 × Hp) (fun K y => wb_X3_order_12 K4 (fun w0 w1 w2 => K (w0, w1, w2)) Q v0 y.1 v2 y.2.1 y.2.2) (v1, v3, S)
abbrev wb_X3_order_4  (K4 : Int32 → Int32 → Hp → Prop) (Q : Int32 → Hp → Prop) (v0 : Nat) (v1 : Int32) (v2 : Int32) (S : Hp) : Prop :=
  (((8 : Int32) < v2 → Q v1 S) ∧ (¬ (8 : Int32) < v2 → wp_X3_order_12 K4 Q (v0) (v1) (v2) ((0 : Int32)) (S)))
abbrev wp_X3_order_4  (Q : Int32 → Hp → Prop) (v0 : Nat) (v1 : Int32) (v2 : Int32) (S : Hp) : Prop :=
  Lp (X := Int32 × Int32 × Hp) (fun K y => wb_X3_order_4  (fun w0 w1 w2 => K (w0, w1, w2)) Q v0 y.1 y.2.1 y.2.2) (v1, v2, S)
abbrev wp_X3_order (a0 : Nat) (S : Hp) (Q : Int32 → Hp → Prop) : Prop :=
  wp_X3_order_4 Q (a0) ((0 : Int32)) ((1 : Int32)) (S)
set_option maxHeartbeats 4000000 in
set_option maxRecDepth 100000 in
theorem g_X3_order_52 (C : Cx p s m args meth c z cX3_order 4 RX3 (some .int) "order") {K4 : Int32 → Int32 → Hp → Prop} {K12 : Int32 → Int32 → Hp → Prop} {Q : Int32 → Hp → Prop} {v0 : Nat} {v1 : Int32} {v2 : Int32} {v3 : Int32} {S : Hp}  (hK4 : ∀ (w1 : Int32) (w2 : Int32) (S2 : Hp), K4 w1 w2 S2 → Go p l e { frames := 2, cells := 0, slots := 0, locals := 41 } s m args below meth c z 4 (MQ below (Qx z (wI Q)) args s 0 0 (own z)) (0) (0) 4 [(0, .ref (v0)), (1, .int (w1)), (2, .int (w2))] [] (S2)) (hK12 : ∀ (w1 : Int32) (w3 : Int32) (S2 : Hp), K12 w1 w3 S2 → Go p l e { frames := 2, cells := 0, slots := 0, locals := 41 } s m args below meth c z 4 (MQ below (Qx z (wI Q)) args s 0 0 (own z)) (0) (0) 12 [(0, .ref (v0)), (1, .int (w1)), (2, .int (v2)), (3, .int (w3))] [] (S2)) (hw : wp_X3_order_52 K4 K12 Q v0 v1 v2 v3 S) : Go p l e { frames := 2, cells := 0, slots := 0, locals := 41 } s m args below meth c z 4 (MQ below (Qx z (wI Q)) args s 0 0 (own z)) (0) (0) 52 [(0, .ref (v0)), (1, .int (v1)), (2, .int (v2)), (3, .int (v3))] [] (S) := by
  obtain ⟨e4, he4⟩ : ∃ y : Int32, y = (v3 + 1) := ⟨_, rfl⟩
  have hw := hw e4 he4
  refine G_iinc (pc := 52) C [(3, .int (e4)), (0, .ref (v0)), (1, .int (v1)), (2, .int (v2))] 3 (v := e4) dX3_order_52 rfl (by rw [he4]; rfl) (by decide) rfl ?_
  clear he4
  refine G_goto (pc := 55) C 12 dX3_order_55 (by decide) ?_
  exact G_sub [1, 2, 3, 0] rfl (hK12 _ _ _ hw)
set_option maxHeartbeats 4000000 in
set_option maxRecDepth 100000 in
theorem gb_X3_order_12 (C : Cx p s m args meth c z cX3_order 4 RX3 (some .int) "order") {K4 : Int32 → Int32 → Hp → Prop} {K12 : Int32 → Int32 → Hp → Prop} {Q : Int32 → Hp → Prop} {v0 : Nat} {v1 : Int32} {v2 : Int32} {v3 : Int32} {S : Hp}  (hK4 : ∀ (w1 : Int32) (w2 : Int32) (S2 : Hp), K4 w1 w2 S2 → Go p l e { frames := 2, cells := 0, slots := 0, locals := 41 } s m args below meth c z 4 (MQ below (Qx z (wI Q)) args s 0 0 (own z)) (0) (0) 4 [(0, .ref (v0)), (1, .int (w1)), (2, .int (w2))] [] (S2)) (hK12 : ∀ (w1 : Int32) (w3 : Int32) (S2 : Hp), K12 w1 w3 S2 → Go p l e { frames := 2, cells := 0, slots := 0, locals := 41 } s m args below meth c z 4 (MQ below (Qx z (wI Q)) args s 0 0 (own z)) (0) (0) 12 [(0, .ref (v0)), (1, .int (w1)), (2, .int (v2)), (3, .int (w3))] [] (S2)) (hw : wb_X3_order_12 K4 K12 Q v0 v1 v2 v3 S) : Go p l e { frames := 2, cells := 0, slots := 0, locals := 41 } s m args below meth c z 4 (MQ below (Qx z (wI Q)) args s 0 0 (own z)) (0) (0) 12 [(0, .ref (v0)), (1, .int (v1)), (2, .int (v2)), (3, .int (v3))] [] (S) := by
  refine G_iload_n (pc := 12) C 3 dX3_order_12 rfl rfl ?_
  refine G_aload_n (pc := 13) C 0 dX3_order_13 rfl rfl ?_
  obtain ⟨hk, hw⟩ := hw
  refine gf_RX3_18 (pc := 14) C dX3_order_14 hk ?_
  refine G_icmp_ge (pc := 17) C 58 dX3_order_17 (by decide) (fun hc => ?_) (fun hc => ?_)
  · have hw := hw.1 hc
    obtain ⟨e1, he1⟩ : ∃ y : Int32, y = (v2 + 1) := ⟨_, rfl⟩
    have hw := hw e1 he1
    refine G_iinc (pc := 58) C [(2, .int (e1)), (0, .ref (v0)), (1, .int (v1)), (3, .int (v3))] 2 (v := e1) dX3_order_58 rfl (by rw [he1]; rfl) (by decide) rfl ?_
    clear he1
    refine G_goto (pc := 61) C 4 dX3_order_61 (by decide) ?_
    exact G_sub [1, 2, 0] rfl (hK4 _ _ _ hw)
  · have hw := hw.2 hc
    refine G_aload_n (pc := 20) C 0 dX3_order_20 rfl rfl ?_
    obtain ⟨hk, hw⟩ := hw
    refine gf_RX3_29 (pc := 21) C dX3_order_21 hk ?_
    refine G_iload_n (pc := 24) C 3 dX3_order_24 rfl rfl ?_
    obtain ⟨b2, hq, hw⟩ := hw
    rw [hq]
    obtain ⟨hk, hi, hw⟩ := hw
    refine G_aald (pc := 25) C 3 rfl (by decide) rfl hk hi dX3_order_25 ?_
    obtain ⟨b3, hq, hw⟩ := hw
    rw [hq]
    obtain ⟨hk, hw⟩ := hw
    refine gf_RX3_60 (pc := 26) C dX3_order_26 hk ?_
    refine G_iload_n (pc := 29) C 2 dX3_order_29 rfl rfl ?_
    refine G_icmp_ne (pc := 30) C 52 dX3_order_30 (by decide) (fun hc => ?_) (fun hc => ?_)
    · have hw := hw.1 hc
      exact G_sub [0, 1, 2, 3] rfl (g_X3_order_52 C hK4 hK12 hw)
    · have hw := hw.2 hc
      refine G_aload_n (pc := 33) C 0 dX3_order_33 rfl rfl ?_
      obtain ⟨hk, hw⟩ := hw
      refine gf_RX3_33 (pc := 34) C dX3_order_34 hk ?_
      refine G_iload_n (pc := 37) C 3 dX3_order_37 rfl rfl ?_
      refine G_iload_n (pc := 38) C 1 dX3_order_38 rfl rfl ?_
      obtain ⟨b5, hq, hw⟩ := hw
      rw [hq]
      obtain ⟨hk, hi, hw⟩ := hw
      refine G_iast (pc := 39) C hk hi dX3_order_39 ?_
      obtain ⟨S6, hS6⟩ : ∃ y : Hp, y = sI S 0 b5 (v3).toNatClampNeg v1 := ⟨_, rfl⟩
      have hw := hw S6 hS6
      rw [← hS6]
      clear hS6
      refine G_iload_n (pc := 40) C 1 dX3_order_40 rfl rfl ?_
      refine G_aload_n (pc := 41) C 0 dX3_order_41 rfl rfl ?_
      obtain ⟨hk, hw⟩ := hw
      refine gf_RX3_29 (pc := 42) C dX3_order_42 hk ?_
      refine G_iload_n (pc := 45) C 3 dX3_order_45 rfl rfl ?_
      obtain ⟨b7, hq, hw⟩ := hw
      rw [hq]
      obtain ⟨hk, hi, hw⟩ := hw
      refine G_aald (pc := 46) C 3 rfl (by decide) rfl hk hi dX3_order_46 ?_
      obtain ⟨b8, hq, hw⟩ := hw
      rw [hq]
      obtain ⟨hk, hw⟩ := hw
      refine cl_RX3_63 (pc := 47) C (c_X5_stripes l z (b8) S6 _ hw) ⟨Nat.le_of_ble_eq_true rfl, Nat.le_of_ble_eq_true rfl⟩ hk dX3_order_47 (Nat.le_of_ble_eq_true rfl) (fun v S' hp => ?_)
      clear hw
      obtain ⟨hS, e9, rfl, hw⟩ := hp
      subst S'
      refine G_iadd (pc := 50) C dX3_order_50 ?_
      refine G_topi (fun e11 he11 => ?_)
      have hw := hw e11 he11
      clear he11
      refine G_istore_n (pc := 51) C [(1, .int (e11)), (0, .ref (v0)), (2, .int (v2)), (3, .int (v3))] dX3_order_51 rfl (by decide) rfl ?_
      exact G_sub [1, 0, 2, 3] rfl (g_X3_order_52 C hK4 hK12 hw)
set_option maxHeartbeats 4000000 in
set_option maxRecDepth 100000 in
theorem g_X3_order_12 (C : Cx p s m args meth c z cX3_order 4 RX3 (some .int) "order") {K4 : Int32 → Int32 → Hp → Prop} {Q : Int32 → Hp → Prop} {v0 : Nat} {v1 : Int32} {v2 : Int32} {v3 : Int32} {S : Hp}  (hK4 : ∀ (w1 : Int32) (w2 : Int32) (S2 : Hp), K4 w1 w2 S2 → Go p l e { frames := 2, cells := 0, slots := 0, locals := 41 } s m args below meth c z 4 (MQ below (Qx z (wI Q)) args s 0 0 (own z)) (0) (0) 4 [(0, .ref (v0)), (1, .int (w1)), (2, .int (w2))] [] (S2)) (hw : wp_X3_order_12 K4 Q v0 v1 v2 v3 S) : Go p l e { frames := 2, cells := 0, slots := 0, locals := 41 } s m args below meth c z 4 (MQ below (Qx z (wI Q)) args s 0 0 (own z)) (0) (0) 12 [(0, .ref (v0)), (1, .int (v1)), (2, .int (v2)), (3, .int (v3))] [] (S) :=
  Lp_go (G := fun y : Int32 × Int32 × Hp => Go p l e { frames := 2, cells := 0, slots := 0, locals := 41 } s m args below meth c z 4 (MQ below (Qx z (wI Q)) args s 0 0 (own z)) (0) (0) 12 [(0, .ref (v0)), (1, .int (y.1)), (2, .int (v2)), (3, .int (y.2.1))] [] (y.2.2)) (fun K y hK hB => gb_X3_order_12 C hK4 (fun w0 w1 w2 h => hK (w0, w1, w2) h) hB) hw
set_option maxHeartbeats 4000000 in
set_option maxRecDepth 100000 in
theorem gb_X3_order_4 (C : Cx p s m args meth c z cX3_order 4 RX3 (some .int) "order") {K4 : Int32 → Int32 → Hp → Prop} {Q : Int32 → Hp → Prop} {v0 : Nat} {v1 : Int32} {v2 : Int32} {S : Hp}  (hK4 : ∀ (w1 : Int32) (w2 : Int32) (S2 : Hp), K4 w1 w2 S2 → Go p l e { frames := 2, cells := 0, slots := 0, locals := 41 } s m args below meth c z 4 (MQ below (Qx z (wI Q)) args s 0 0 (own z)) (0) (0) 4 [(0, .ref (v0)), (1, .int (w1)), (2, .int (w2))] [] (S2)) (hw : wb_X3_order_4  K4 Q v0 v1 v2 S) : Go p l e { frames := 2, cells := 0, slots := 0, locals := 41 } s m args below meth c z 4 (MQ below (Qx z (wI Q)) args s 0 0 (own z)) (0) (0) 4 [(0, .ref (v0)), (1, .int (v1)), (2, .int (v2))] [] (S) := by
  refine G_iload_n (pc := 4) C 2 dX3_order_4 rfl rfl ?_
  refine G_bipush (pc := 5) C (v := 8) dX3_order_5 (by decide) ?_
  refine G_icmp_gt (pc := 7) C 64 dX3_order_7 (by decide) (fun hc => ?_) (fun hc => ?_)
  · have hw := hw.1 hc
    refine G_iload_n (pc := 64) C 1 dX3_order_64 rfl rfl ?_
    exact G_iret (pc := 65) C rfl dX3_order_65 ⟨_, rfl, hw⟩
  · have hw := hw.2 hc
    refine G_iconst (pc := 10) C (v := 0) dX3_order_10 (by decide) ?_
    refine G_istore_n (pc := 11) C [(3, .int ((0 : Int32))), (0, .ref (v0)), (1, .int (v1)), (2, .int (v2))] dX3_order_11 rfl (by decide) rfl ?_
    exact G_sub [1, 2, 3, 0] rfl (g_X3_order_12 C hK4 hw)
set_option maxHeartbeats 4000000 in
set_option maxRecDepth 100000 in
theorem g_X3_order_4 (C : Cx p s m args meth c z cX3_order 4 RX3 (some .int) "order")  {Q : Int32 → Hp → Prop} {v0 : Nat} {v1 : Int32} {v2 : Int32} {S : Hp}   (hw : wp_X3_order_4  Q v0 v1 v2 S) : Go p l e { frames := 2, cells := 0, slots := 0, locals := 41 } s m args below meth c z 4 (MQ below (Qx z (wI Q)) args s 0 0 (own z)) (0) (0) 4 [(0, .ref (v0)), (1, .int (v1)), (2, .int (v2))] [] (S) :=
  Lp_go (G := fun y : Int32 × Int32 × Hp => Go p l e { frames := 2, cells := 0, slots := 0, locals := 41 } s m args below meth c z 4 (MQ below (Qx z (wI Q)) args s 0 0 (own z)) (0) (0) 4 [(0, .ref (v0)), (1, .int (y.1)), (2, .int (y.2.1))] [] (y.2.2)) (fun K y hK hB => gb_X3_order_4 C  (fun w0 w1 w2 h => hK (w0, w1, w2) h) hB) hw
set_option maxHeartbeats 4000000 in
set_option maxRecDepth 100000 in
theorem c_X3_order (l : Launch) (z : Zt) (a0 : Nat) (S : Hp) (Q : Int32 → Hp → Prop) (hw : wp_X3_order a0 S Q) : Ct l z yX3_order cX3_order 4 (some .int) 2 41 0 0 [.ref (a0)] S (wI Q) := by
  refine Ct_of (by decide) (Nat.le_of_ble_eq_true rfl) ?_
  intro p e s m args below meth c C
  have C : Cx p s m args meth c z cX3_order 4 RX3 (some .int) "order" := C
  refine G_sub (lv' := [(0, .ref (a0))]) [0] rfl ?_
  refine G_iconst (pc := 0) C (v := 0) dX3_order_0 (by decide) ?_
  refine G_istore_n (pc := 1) C [(1, .int ((0 : Int32))), (0, .ref (a0))] dX3_order_1 rfl (by decide) rfl ?_
  refine G_iconst (pc := 2) C (v := 1) dX3_order_2 (by decide) ?_
  refine G_istore_n (pc := 3) C [(2, .int ((1 : Int32))), (1, .int ((0 : Int32))), (0, .ref (a0))] dX3_order_3 rfl (by decide) rfl ?_
  exact G_sub [2, 1, 0] rfl (g_X3_order_4 C  hw)
/-! FirstParts$Packed.fill(LFirstParts$Packet;I)V -/
abbrev wb_X3_fill_24 (K2 : Int32 → Hp → Prop) (K24 : Int32 → Hp → Prop) (Q : Hp → Prop) (v0 : Nat) (v1 : Nat) (v2 : Int32) (v3 : Int32) (v4 : Int32) (v5 : Int32) (S : Hp) : Prop :=
  kd S v0 = 4 ∧ ∃ b4, (gR S 49 v0 0) = some b4 ∧ kd S b4 = 23 ∧ vp_in v3 (ln S b4) ∧ ∃ b5, (gR S 0 b4 (v3).toNatClampNeg) = some b5 ∧ kd S b5 = 6 ∧ wp_X5_stripes (b5) S (fun e6 => ((e6 ≤ v5 → ∀ e8 : Int32, e8 = (v3 + 1) → K2 (e8) (S)) ∧ (¬ e6 ≤ v5 → kd S v0 = 4 ∧ ∃ b9, (gR S 51 v0 0) = some b9 ∧ kd S b9 = 20 ∧ vp_in v3 (ln S b9) ∧ kd S v0 = 4 ∧ ∃ b10, (gR S 49 v0 0) = some b10 ∧ kd S b10 = 23 ∧ vp_in v3 (ln S b10) ∧ ∃ b11, (gR S 0 b10 (v3).toNatClampNeg) = some b11 ∧ kd S b11 = 6 ∧ ∃ b12, (gR S 81 b11 0) = some b12 ∧ wp_X11_valueAt (b12) ((v5 * v4)) (v4) (v2) S (fun e13 => kd S v1 = 5 ∧ wp_X4_put (v1) (((gI S 0 b9 (v3).toNatClampNeg) + v5)) (e13) S (fun S16 => ∀ e17 : Int32, e17 = (v5 + 1) → K24 (e17) (S16))))))
abbrev wp_X3_fill_24 (K2 : Int32 → Hp → Prop) (Q : Hp → Prop) (v0 : Nat) (v1 : Nat) (v2 : Int32) (v3 : Int32) (v4 : Int32) (v5 : Int32) (S : Hp) : Prop :=
  Lp (X := Int32 × Hp) (fun K y => wb_X3_fill_24 K2 (fun w0 w1 => K (w0, w1)) Q v0 v1 v2 v3 v4 y.1 y.2) (v5, S)
abbrev wb_X3_fill_2  (K2 : Int32 → Hp → Prop) (Q : Hp → Prop) (v0 : Nat) (v1 : Nat) (v2 : Int32) (v3 : Int32) (S : Hp) : Prop :=
  kd S v0 = 4 ∧ (((gI S 50 v0 0) ≤ v3 → Q S) ∧ (¬ (gI S 50 v0 0) ≤ v3 → kd S v0 = 4 ∧ ∃ b1, (gR S 49 v0 0) = some b1 ∧ kd S b1 = 23 ∧ vp_in v3 (ln S b1) ∧ ∃ b2, (gR S 0 b1 (v3).toNatClampNeg) = some b2 ∧ kd S b2 = 6 ∧ ∀ e3 : Int32, e3 = (gI S 82 b2 0) → wp_X3_fill_24 K2 Q (v0) (v1) (v2) (v3) (e3) ((0 : Int32)) (S)))
abbrev wp_X3_fill_2  (Q : Hp → Prop) (v0 : Nat) (v1 : Nat) (v2 : Int32) (v3 : Int32) (S : Hp) : Prop :=
  Lp (X := Int32 × Hp) (fun K y => wb_X3_fill_2  (fun w0 w1 => K (w0, w1)) Q v0 v1 v2 y.1 y.2) (v3, S)
abbrev wp_X3_fill (a0 : Nat) (a1 : Nat) (x2 : Int32) (S : Hp) (Q : Hp → Prop) : Prop :=
  wp_X3_fill_2 Q (a0) (a1) (x2) ((0 : Int32)) (S)
set_option maxHeartbeats 4000000 in
set_option maxRecDepth 100000 in
theorem gb_X3_fill_24 (C : Cx p s m args meth c z cX3_fill 6 RX3 none "fill") {K2 : Int32 → Hp → Prop} {K24 : Int32 → Hp → Prop} {Q : Hp → Prop} {v0 : Nat} {v1 : Nat} {v2 : Int32} {v3 : Int32} {v4 : Int32} {v5 : Int32} {S : Hp}  (hK2 : ∀ (w3 : Int32) (S2 : Hp), K2 w3 S2 → Go p l e { frames := 2, cells := 0, slots := 0, locals := 48 } s m args below meth c z 6 (MQ below (Qx z (wV Q)) args s 0 0 (own z)) (0) (0) 2 [(0, .ref (v0)), (1, .ref (v1)), (2, .int (v2)), (3, .int (w3))] [] (S2)) (hK24 : ∀ (w5 : Int32) (S2 : Hp), K24 w5 S2 → Go p l e { frames := 2, cells := 0, slots := 0, locals := 48 } s m args below meth c z 6 (MQ below (Qx z (wV Q)) args s 0 0 (own z)) (0) (0) 24 [(0, .ref (v0)), (1, .ref (v1)), (2, .int (v2)), (3, .int (v3)), (4, .int (v4)), (5, .int (w5))] [] (S2)) (hw : wb_X3_fill_24 K2 K24 Q v0 v1 v2 v3 v4 v5 S) : Go p l e { frames := 2, cells := 0, slots := 0, locals := 48 } s m args below meth c z 6 (MQ below (Qx z (wV Q)) args s 0 0 (own z)) (0) (0) 24 [(0, .ref (v0)), (1, .ref (v1)), (2, .int (v2)), (3, .int (v3)), (4, .int (v4)), (5, .int (v5))] [] (S) := by
  refine G_iload (pc := 24) C 5 dX3_fill_24 rfl ?_
  refine G_aload_n (pc := 26) C 0 dX3_fill_26 rfl rfl ?_
  obtain ⟨hk, hw⟩ := hw
  refine gf_RX3_29 (pc := 27) C dX3_fill_27 hk ?_
  refine G_iload_n (pc := 30) C 3 dX3_fill_30 rfl rfl ?_
  obtain ⟨b4, hq, hw⟩ := hw
  rw [hq]
  obtain ⟨hk, hi, hw⟩ := hw
  refine G_aald (pc := 31) C 3 rfl (by decide) rfl hk hi dX3_fill_31 ?_
  obtain ⟨b5, hq, hw⟩ := hw
  rw [hq]
  obtain ⟨hk, hw⟩ := hw
  refine cl_RX3_63 (pc := 32) C (c_X5_stripes l z (b5) S _ hw) ⟨Nat.le_of_ble_eq_true rfl, Nat.le_of_ble_eq_true rfl⟩ hk dX3_fill_32 (Nat.le_of_ble_eq_true rfl) (fun v S' hp => ?_)
  clear hw
  obtain ⟨hS, e6, rfl, hw⟩ := hp
  subst S'
  refine G_icmp_ge (pc := 35) C 77 dX3_fill_35 (by decide) (fun hc => ?_) (fun hc => ?_)
  · have hw := hw.1 hc
    obtain ⟨e8, he8⟩ : ∃ y : Int32, y = (v3 + 1) := ⟨_, rfl⟩
    have hw := hw e8 he8
    refine G_iinc (pc := 77) C [(3, .int (e8)), (0, .ref (v0)), (1, .ref (v1)), (2, .int (v2)), (4, .int (v4)), (5, .int (v5))] 3 (v := e8) dX3_fill_77 rfl (by rw [he8]; rfl) (by decide) rfl ?_
    clear he8
    refine G_goto (pc := 80) C 2 dX3_fill_80 (by decide) ?_
    exact G_sub [1, 2, 3, 0] rfl (hK2 _ _ hw)
  · have hw := hw.2 hc
    refine G_aload_n (pc := 38) C 1 dX3_fill_38 rfl rfl ?_
    refine G_aload_n (pc := 39) C 0 dX3_fill_39 rfl rfl ?_
    obtain ⟨hk, hw⟩ := hw
    refine gf_RX3_33 (pc := 40) C dX3_fill_40 hk ?_
    refine G_iload_n (pc := 43) C 3 dX3_fill_43 rfl rfl ?_
    obtain ⟨b9, hq, hw⟩ := hw
    rw [hq]
    obtain ⟨hk, hi, hw⟩ := hw
    refine G_iald (pc := 44) C hk hi dX3_fill_44 ?_
    refine G_iload (pc := 45) C 5 dX3_fill_45 rfl ?_
    refine G_iadd (pc := 47) C dX3_fill_47 ?_
    refine G_aload_n (pc := 48) C 0 dX3_fill_48 rfl rfl ?_
    obtain ⟨hk, hw⟩ := hw
    refine gf_RX3_29 (pc := 49) C dX3_fill_49 hk ?_
    refine G_iload_n (pc := 52) C 3 dX3_fill_52 rfl rfl ?_
    obtain ⟨b10, hq, hw⟩ := hw
    rw [hq]
    obtain ⟨hk, hi, hw⟩ := hw
    refine G_aald (pc := 53) C 3 rfl (by decide) rfl hk hi dX3_fill_53 ?_
    obtain ⟨b11, hq, hw⟩ := hw
    rw [hq]
    obtain ⟨hk, hw⟩ := hw
    refine gf_RX3_66 (pc := 54) C dX3_fill_54 hk ?_
    refine G_iload (pc := 57) C 5 dX3_fill_57 rfl ?_
    refine G_iload (pc := 59) C 4 dX3_fill_59 rfl ?_
    refine G_imul (pc := 61) C dX3_fill_61 ?_
    refine G_iload (pc := 62) C 4 dX3_fill_62 rfl ?_
    refine G_iload_n (pc := 64) C 2 dX3_fill_64 rfl rfl ?_
    obtain ⟨b12, hq, hw⟩ := hw
    rw [hq]
    refine cl_RX3_69 (pc := 65) C (c_X11_valueAt l z (b12) ((v5 * v4)) (v4) (v2) S _ hw) ⟨Nat.le_of_ble_eq_true rfl, Nat.le_of_ble_eq_true rfl⟩ dX3_fill_65 (Nat.le_of_ble_eq_true rfl) (fun v S' hp => ?_)
    clear hw
    obtain ⟨hS, e13, rfl, hw⟩ := hp
    subst S'
    obtain ⟨hk, hw⟩ := hw
    refine cl_RX3_73 (pc := 68) C (c_X4_put l z (v1) (((gI S 0 b9 (v3).toNatClampNeg) + v5)) (e13) S _ hw) ⟨Nat.le_of_ble_eq_true rfl, Nat.le_of_ble_eq_true rfl⟩ hk dX3_fill_68 (Nat.le_of_ble_eq_true rfl) (fun v S' hp => ?_)
    clear hw
    obtain ⟨rfl, hw⟩ := hp
    generalize S' = S16 at hw ⊢
    obtain ⟨e17, he17⟩ : ∃ y : Int32, y = (v5 + 1) := ⟨_, rfl⟩
    have hw := hw e17 he17
    refine G_iinc (pc := 71) C [(5, .int (e17)), (0, .ref (v0)), (1, .ref (v1)), (2, .int (v2)), (3, .int (v3)), (4, .int (v4))] 5 (v := e17) dX3_fill_71 rfl (by rw [he17]; rfl) (by decide) rfl ?_
    clear he17
    refine G_goto (pc := 74) C 24 dX3_fill_74 (by decide) ?_
    exact G_sub [1, 2, 3, 4, 5, 0] rfl (hK24 _ _ hw)
set_option maxHeartbeats 4000000 in
set_option maxRecDepth 100000 in
theorem g_X3_fill_24 (C : Cx p s m args meth c z cX3_fill 6 RX3 none "fill") {K2 : Int32 → Hp → Prop} {Q : Hp → Prop} {v0 : Nat} {v1 : Nat} {v2 : Int32} {v3 : Int32} {v4 : Int32} {v5 : Int32} {S : Hp}  (hK2 : ∀ (w3 : Int32) (S2 : Hp), K2 w3 S2 → Go p l e { frames := 2, cells := 0, slots := 0, locals := 48 } s m args below meth c z 6 (MQ below (Qx z (wV Q)) args s 0 0 (own z)) (0) (0) 2 [(0, .ref (v0)), (1, .ref (v1)), (2, .int (v2)), (3, .int (w3))] [] (S2)) (hw : wp_X3_fill_24 K2 Q v0 v1 v2 v3 v4 v5 S) : Go p l e { frames := 2, cells := 0, slots := 0, locals := 48 } s m args below meth c z 6 (MQ below (Qx z (wV Q)) args s 0 0 (own z)) (0) (0) 24 [(0, .ref (v0)), (1, .ref (v1)), (2, .int (v2)), (3, .int (v3)), (4, .int (v4)), (5, .int (v5))] [] (S) :=
  Lp_go (G := fun y : Int32 × Hp => Go p l e { frames := 2, cells := 0, slots := 0, locals := 48 } s m args below meth c z 6 (MQ below (Qx z (wV Q)) args s 0 0 (own z)) (0) (0) 24 [(0, .ref (v0)), (1, .ref (v1)), (2, .int (v2)), (3, .int (v3)), (4, .int (v4)), (5, .int (y.1))] [] (y.2)) (fun K y hK hB => gb_X3_fill_24 C hK2 (fun w0 w1 h => hK (w0, w1) h) hB) hw
set_option maxHeartbeats 4000000 in
set_option maxRecDepth 100000 in
theorem gb_X3_fill_2 (C : Cx p s m args meth c z cX3_fill 6 RX3 none "fill") {K2 : Int32 → Hp → Prop} {Q : Hp → Prop} {v0 : Nat} {v1 : Nat} {v2 : Int32} {v3 : Int32} {S : Hp}  (hK2 : ∀ (w3 : Int32) (S2 : Hp), K2 w3 S2 → Go p l e { frames := 2, cells := 0, slots := 0, locals := 48 } s m args below meth c z 6 (MQ below (Qx z (wV Q)) args s 0 0 (own z)) (0) (0) 2 [(0, .ref (v0)), (1, .ref (v1)), (2, .int (v2)), (3, .int (w3))] [] (S2)) (hw : wb_X3_fill_2  K2 Q v0 v1 v2 v3 S) : Go p l e { frames := 2, cells := 0, slots := 0, locals := 48 } s m args below meth c z 6 (MQ below (Qx z (wV Q)) args s 0 0 (own z)) (0) (0) 2 [(0, .ref (v0)), (1, .ref (v1)), (2, .int (v2)), (3, .int (v3))] [] (S) := by
  refine G_iload_n (pc := 2) C 3 dX3_fill_2 rfl rfl ?_
  refine G_aload_n (pc := 3) C 0 dX3_fill_3 rfl rfl ?_
  obtain ⟨hk, hw⟩ := hw
  refine gf_RX3_18 (pc := 4) C dX3_fill_4 hk ?_
  refine G_icmp_ge (pc := 7) C 83 dX3_fill_7 (by decide) (fun hc => ?_) (fun hc => ?_)
  · have hw := hw.1 hc
    exact G_vret (pc := 83) C rfl dX3_fill_83 ⟨rfl, hw⟩
  · have hw := hw.2 hc
    refine G_aload_n (pc := 10) C 0 dX3_fill_10 rfl rfl ?_
    obtain ⟨hk, hw⟩ := hw
    refine gf_RX3_29 (pc := 11) C dX3_fill_11 hk ?_
    refine G_iload_n (pc := 14) C 3 dX3_fill_14 rfl rfl ?_
    obtain ⟨b1, hq, hw⟩ := hw
    rw [hq]
    obtain ⟨hk, hi, hw⟩ := hw
    refine G_aald (pc := 15) C 3 rfl (by decide) rfl hk hi dX3_fill_15 ?_
    obtain ⟨b2, hq, hw⟩ := hw
    rw [hq]
    obtain ⟨hk, hw⟩ := hw
    refine gf_RX3_60 (pc := 16) C dX3_fill_16 hk ?_
    refine G_topi (fun e3 he3 => ?_)
    have hw := hw e3 he3
    clear he3
    refine G_istore (pc := 19) C [(4, .int (e3)), (0, .ref (v0)), (1, .ref (v1)), (2, .int (v2)), (3, .int (v3))] dX3_fill_19 (by decide) rfl ?_
    refine G_iconst (pc := 21) C (v := 0) dX3_fill_21 (by decide) ?_
    refine G_istore (pc := 22) C [(5, .int ((0 : Int32))), (4, .int (e3)), (0, .ref (v0)), (1, .ref (v1)), (2, .int (v2)), (3, .int (v3))] dX3_fill_22 (by decide) rfl ?_
    exact G_sub [2, 3, 4, 5, 1, 0] rfl (g_X3_fill_24 C hK2 hw)
set_option maxHeartbeats 4000000 in
set_option maxRecDepth 100000 in
theorem g_X3_fill_2 (C : Cx p s m args meth c z cX3_fill 6 RX3 none "fill")  {Q : Hp → Prop} {v0 : Nat} {v1 : Nat} {v2 : Int32} {v3 : Int32} {S : Hp}   (hw : wp_X3_fill_2  Q v0 v1 v2 v3 S) : Go p l e { frames := 2, cells := 0, slots := 0, locals := 48 } s m args below meth c z 6 (MQ below (Qx z (wV Q)) args s 0 0 (own z)) (0) (0) 2 [(0, .ref (v0)), (1, .ref (v1)), (2, .int (v2)), (3, .int (v3))] [] (S) :=
  Lp_go (G := fun y : Int32 × Hp => Go p l e { frames := 2, cells := 0, slots := 0, locals := 48 } s m args below meth c z 6 (MQ below (Qx z (wV Q)) args s 0 0 (own z)) (0) (0) 2 [(0, .ref (v0)), (1, .ref (v1)), (2, .int (v2)), (3, .int (y.1))] [] (y.2)) (fun K y hK hB => gb_X3_fill_2 C  (fun w0 w1 h => hK (w0, w1) h) hB) hw
set_option maxHeartbeats 4000000 in
set_option maxRecDepth 100000 in
theorem c_X3_fill (l : Launch) (z : Zt) (a0 : Nat) (a1 : Nat) (x2 : Int32) (S : Hp) (Q : Hp → Prop) (hw : wp_X3_fill a0 a1 x2 S Q) : Ct l z yX3_fill cX3_fill 6 none 2 48 0 0 [.ref (a0), .ref (a1), .int (x2)] S (wV Q) := by
  refine Ct_of (by decide) (Nat.le_of_ble_eq_true rfl) ?_
  intro p e s m args below meth c C
  have C : Cx p s m args meth c z cX3_fill 6 RX3 none "fill" := C
  refine G_sub (lv' := [(0, .ref (a0)), (1, .ref (a1)), (2, .int (x2))]) [0, 1, 2] rfl ?_
  refine G_iconst (pc := 0) C (v := 0) dX3_fill_0 (by decide) ?_
  refine G_istore_n (pc := 1) C [(3, .int ((0 : Int32))), (0, .ref (a0)), (1, .ref (a1)), (2, .int (x2))] dX3_fill_1 rfl (by decide) rfl ?_
  exact G_sub [1, 2, 3, 0] rfl (g_X3_fill_2 C  hw)
/-! FirstParts$Packed.<init>(LFirstParts$Line;II)V -/
abbrev wb_X3_init_101  (K101 : Int32 → Hp → Nat → Nat → Prop) (Q : Hp → Prop) (v0 : Nat) (v4 : Int32) (S : Hp) (bc bs : Nat) : Prop :=
  kd S v0 = 4 ∧ (((gI S 53 v0 0) ≤ v4 → Q S) ∧ (¬ (gI S 53 v0 0) ≤ v4 → kd S v0 = 4 ∧ 1 ≤ bc ∧ 4 ≤ bs ∧ ∀ n23 : Nat, n23 = sz S → ∀ S24 : Hp, S24 = nw S 5 (0) → kd S24 v0 = 4 ∧ 2 ≤ (bc - 1) ∧ 80 ≤ (bs - 4) ∧ ∃ b27, (gR S 52 v0 0) = some b27 ∧ wp_X4_init (n23) ((gI S24 54 v0 0)) S24 (fun S26 => kd S26 b27 = 22 ∧ kd S26 n23 = 5 ∧ vp_in v4 (ln S26 b27) ∧ ∀ S28 : Hp, S28 = sR S26 0 b27 (v4).toNatClampNeg (some n23) → kd S28 v0 = 4 ∧ ∃ b29, (gR S28 52 v0 0) = some b29 ∧ kd S28 b29 = 22 ∧ vp_in v4 (ln S28 b29) ∧ ∃ b30, (gR S28 0 b29 (v4).toNatClampNeg) = some b30 ∧ kd S28 v0 = 4 ∧ wp_X3_fill (v0) (b30) ((v4 + (1 : Int32))) S28 (fun S32 => ∀ e33 : Int32, e33 = (v4 + 1) → K101 (e33) (S32) (((bc - 1) - 2)) (((bs - 4) - 80))))))
abbrev wp_X3_init_101  (Q : Hp → Prop) (v0 : Nat) (v4 : Int32) (S : Hp) (bc bs : Nat) : Prop :=
  Lp (X := Int32 × Hp × Nat × Nat) (fun K y => wb_X3_init_101  (fun w0 w1 w2 w3 => K (w0, w1, w2, w3)) Q v0 y.1 y.2.1 (y.2.2.1) (y.2.2.2)) (v4, S, bc, bs)
abbrev wb_X3_init_52  (K52 : Int32 → Hp → Nat → Nat → Prop) (Q : Hp → Prop) (v0 : Nat) (v1 : Nat) (v4 : Int32) (S : Hp) (bc bs : Nat) : Prop :=
  (((6 : Int32) ≤ v4 → kd S v0 = 4 ∧ wp_X3_order (v0) S (fun e17 S18 => kd S18 v0 = 4 ∧ ∀ S19 : Hp, S19 = sI S18 54 v0 0 e17 → kd S19 v0 = 4 ∧ 1 ≤ bc ∧ ((gI S19 53 v0 0)).toNatClampNeg ≤ bs ∧ ¬ (gI S19 53 v0 0) < 0 ∧ ((gI S19 53 v0 0)).toNatClampNeg * 4 ≤ 536870912 ∧ ∀ n20 : Nat, n20 = sz S19 → ∀ S21 : Hp, S21 = nw S19 22 (((gI S19 53 v0 0)).toNatClampNeg) → kd S21 v0 = 4 ∧ ∀ S22 : Hp, S22 = sR S21 52 v0 0 (some n20) → wp_X3_init_101 Q (v0) ((0 : Int32)) (S22) ((bc - 1)) ((bs - ((gI S19 53 v0 0)).toNatClampNeg)))) ∧ (¬ (6 : Int32) ≤ v4 → kd S v0 = 4 ∧ kd S v1 = 3 ∧ ∃ b34, (gR S 33 v1 0) = some b34 ∧ kd S b34 = 23 ∧ vp_in v4 (ln S b34) ∧ ∃ b35, (gR S 49 v0 0) = some b35 ∧ ∃ b36, (gR S 0 b34 (v4).toNatClampNeg) = some b36 ∧ kd S b35 = 23 ∧ kd S b36 = 6 ∧ vp_in v4 (ln S b35) ∧ ∀ S37 : Hp, S37 = sR S 0 b35 (v4).toNatClampNeg (some b36) → ∀ e38 : Int32, e38 = (v4 + 1) → K52 (e38) (S37) (bc) (bs)))
abbrev wp_X3_init_52  (Q : Hp → Prop) (v0 : Nat) (v1 : Nat) (v4 : Int32) (S : Hp) (bc bs : Nat) : Prop :=
  Lp (X := Int32 × Hp × Nat × Nat) (fun K y => wb_X3_init_52  (fun w0 w1 w2 w3 => K (w0, w1, w2, w3)) Q v0 v1 y.1 y.2.1 (y.2.2.1) (y.2.2.2)) (v4, S, bc, bs)
abbrev wp_X3_init (a0 : Nat) (a1 : Nat) (x2 : Int32) (x3 : Int32) (S : Hp) (Q : Hp → Prop) : Prop :=
  wp_J9_min_7cf53 (x2) ((6 : Int32)) S (fun e1 => wp_J9_max_7cf53 ((0 : Int32)) (e1) S (fun e3 => kd S a0 = 4 ∧ ∀ S5 : Hp, S5 = sI S 50 a0 0 e3 → wp_J9_min_7cf53 (x3) ((8 : Int32)) S5 (fun e6 => wp_J9_max_7cf53 ((0 : Int32)) (e6) S5 (fun e8 => kd S5 a0 = 4 ∧ ∀ S10 : Hp, S10 = sI S5 53 a0 0 e8 → 1 ≤ 27 ∧ 6 ≤ 692 ∧ ∀ n11 : Nat, n11 = sz S10 → ∀ S12 : Hp, S12 = nw S10 23 (6) → kd S12 a0 = 4 ∧ ∀ S13 : Hp, S13 = sR S12 49 a0 0 (some n11) → 1 ≤ (27 - 1) ∧ 6 ≤ (692 - 6) ∧ ∀ n14 : Nat, n14 = sz S13 → ∀ S15 : Hp, S15 = nw S13 20 (6) → kd S15 a0 = 4 ∧ ∀ S16 : Hp, S16 = sR S15 51 a0 0 (some n14) → wp_X3_init_52 Q (a0) (a1) ((0 : Int32)) (S16) (((27 - 1) - 1)) (((692 - 6) - 6))))))
set_option maxHeartbeats 4000000 in
set_option maxRecDepth 100000 in
theorem gb_X3_init_101 (C : Cx p s m args meth c z cX3_init 5 RX3 none "<init>") {K101 : Int32 → Hp → Nat → Nat → Prop} {Q : Hp → Prop} {v0 : Nat} {v4 : Int32} {S : Hp} {bc bs : Nat}  (hK101 : ∀ (w4 : Int32) (S2 : Hp) (bc2 bs2 : Nat), K101 w4 S2 bc2 bs2 → Go p l e { frames := 3, cells := 27, slots := 692, locals := 73 } s m args below meth c z 5 (MQ below (Qx z (wV Q)) args s 27 692 (own z)) (bc2) (bs2) 101 [(0, .ref (v0)), (4, .int (w4))] [] (S2)) (hw : wb_X3_init_101  K101 Q v0 v4 S bc bs) : Go p l e { frames := 3, cells := 27, slots := 692, locals := 73 } s m args below meth c z 5 (MQ below (Qx z (wV Q)) args s 27 692 (own z)) (bc) (bs) 101 [(0, .ref (v0)), (4, .int (v4))] [] (S) := by
  refine G_iload (pc := 101) C 1 dX3_init_101 rfl ?_
  refine G_aload_n (pc := 103) C 0 dX3_init_103 rfl rfl ?_
  obtain ⟨hk, hw⟩ := hw
  refine gf_RX3_24 (pc := 104) C dX3_init_104 hk ?_
  refine G_icmp_ge (pc := 107) C 149 dX3_init_107 (by decide) (fun hc => ?_) (fun hc => ?_)
  · have hw := hw.1 hc
    exact G_vret (pc := 149) C rfl dX3_init_149 ⟨rfl, hw⟩
  · have hw := hw.2 hc
    refine G_aload_n (pc := 110) C 0 dX3_init_110 rfl rfl ?_
    obtain ⟨hk, hw⟩ := hw
    refine gf_RX3_49 (pc := 111) C dX3_init_111 hk ?_
    refine G_iload (pc := 114) C 1 dX3_init_114 rfl ?_
    obtain ⟨hb1, hb2, hw⟩ := hw
    refine G_less (bc' := (bc - 1) + 1) (bs' := (bs - 4) + 4) (by omega) (by omega) ?_
    refine nw_RX3_47 (pc := 116) C dX3_init_116 ?_
    obtain ⟨n23, hn23⟩ : ∃ y : Nat, y = sz S := ⟨_, rfl⟩
    obtain ⟨S24, hS24⟩ : ∃ y : Hp, y = nw S 5 (0) := ⟨_, rfl⟩
    have hw := hw n23 hn23 S24 hS24
    rw [← hn23]
    rw [← hS24]
    clear hn23 hS24
    refine G_dup (pc := 119) C dX3_init_119 rfl ?_
    refine G_aload_n (pc := 120) C 0 dX3_init_120 rfl rfl ?_
    obtain ⟨hk, hw⟩ := hw
    refine gf_RX3_44 (pc := 121) C dX3_init_121 hk ?_
    obtain ⟨hb1, hb2, hw⟩ := hw
    refine G_less (bc' := ((bc - 1) - 2) + 2) (bs' := ((bs - 4) - 80) + 80) (by omega) (by omega) ?_
    obtain ⟨b27, hq, hw⟩ := hw
    rw [hq]
    refine cl_RX3_53 (pc := 124) C (c_X4_init l z (n23) ((gI S24 54 v0 0)) S24 _ hw) ⟨Nat.le_of_ble_eq_true rfl, Nat.le_of_ble_eq_true rfl⟩ dX3_init_124 (Nat.le_of_ble_eq_true rfl) (fun v S' hp => ?_)
    clear hw
    obtain ⟨rfl, hw⟩ := hp
    generalize S' = S26 at hw ⊢
    obtain ⟨hk, hv, hi, hw⟩ := hw
    refine G_aast (pc := 127) C 2 4 4 rfl (by decide) rfl rfl hk hv hi dX3_init_127 ?_
    obtain ⟨S28, hS28⟩ : ∃ y : Hp, y = sR S26 0 b27 (v4).toNatClampNeg (some n23) := ⟨_, rfl⟩
    have hw := hw S28 hS28
    rw [← hS28]
    clear hS28
    refine G_aload_n (pc := 128) C 0 dX3_init_128 rfl rfl ?_
    refine G_aload_n (pc := 129) C 0 dX3_init_129 rfl rfl ?_
    obtain ⟨hk, hw⟩ := hw
    refine gf_RX3_49 (pc := 130) C dX3_init_130 hk ?_
    refine G_iload (pc := 133) C 1 dX3_init_133 rfl ?_
    obtain ⟨b29, hq, hw⟩ := hw
    rw [hq]
    obtain ⟨hk, hi, hw⟩ := hw
    refine G_aald (pc := 135) C 2 rfl (by decide) rfl hk hi dX3_init_135 ?_
    refine G_iload (pc := 136) C 1 dX3_init_136 rfl ?_
    refine G_iconst (pc := 138) C (v := 1) dX3_init_138 (by decide) ?_
    refine G_iadd (pc := 139) C dX3_init_139 ?_
    obtain ⟨b30, hq, hw⟩ := hw
    rw [hq]
    obtain ⟨hk, hw⟩ := hw
    refine cl_RX3_56 (pc := 140) C (c_X3_fill l z (v0) (b30) ((v4 + (1 : Int32))) S28 _ hw) ⟨Nat.le_of_ble_eq_true rfl, Nat.le_of_ble_eq_true rfl⟩ hk dX3_init_140 (Nat.le_of_ble_eq_true rfl) (fun v S' hp => ?_)
    clear hw
    obtain ⟨rfl, hw⟩ := hp
    generalize S' = S32 at hw ⊢
    obtain ⟨e33, he33⟩ : ∃ y : Int32, y = (v4 + 1) := ⟨_, rfl⟩
    have hw := hw e33 he33
    refine G_iinc (pc := 143) C [(4, .int (e33)), (0, .ref (v0))] 1 (v := e33) dX3_init_143 rfl (by rw [he33]; rfl) (by decide) rfl ?_
    clear he33
    refine G_goto (pc := 146) C 101 dX3_init_146 (by decide) ?_
    exact G_sub [1, 0] rfl (hK101 _ _ _ _ hw)
set_option maxHeartbeats 4000000 in
set_option maxRecDepth 100000 in
theorem g_X3_init_101 (C : Cx p s m args meth c z cX3_init 5 RX3 none "<init>")  {Q : Hp → Prop} {v0 : Nat} {v4 : Int32} {S : Hp} {bc bs : Nat}   (hw : wp_X3_init_101  Q v0 v4 S bc bs) : Go p l e { frames := 3, cells := 27, slots := 692, locals := 73 } s m args below meth c z 5 (MQ below (Qx z (wV Q)) args s 27 692 (own z)) (bc) (bs) 101 [(0, .ref (v0)), (4, .int (v4))] [] (S) :=
  Lp_go (G := fun y : Int32 × Hp × Nat × Nat => Go p l e { frames := 3, cells := 27, slots := 692, locals := 73 } s m args below meth c z 5 (MQ below (Qx z (wV Q)) args s 27 692 (own z)) (y.2.2.1) (y.2.2.2) 101 [(0, .ref (v0)), (4, .int (y.1))] [] (y.2.1)) (fun K y hK hB => gb_X3_init_101 C  (fun w0 w1 w2 w3 h => hK (w0, w1, w2, w3) h) hB) hw
set_option maxHeartbeats 4000000 in
set_option maxRecDepth 100000 in
theorem gb_X3_init_52 (C : Cx p s m args meth c z cX3_init 5 RX3 none "<init>") {K52 : Int32 → Hp → Nat → Nat → Prop} {Q : Hp → Prop} {v0 : Nat} {v1 : Nat} {v4 : Int32} {S : Hp} {bc bs : Nat}  (hK52 : ∀ (w4 : Int32) (S2 : Hp) (bc2 bs2 : Nat), K52 w4 S2 bc2 bs2 → Go p l e { frames := 3, cells := 27, slots := 692, locals := 73 } s m args below meth c z 5 (MQ below (Qx z (wV Q)) args s 27 692 (own z)) (bc2) (bs2) 52 [(0, .ref (v0)), (1, .ref (v1)), (4, .int (w4))] [] (S2)) (hw : wb_X3_init_52  K52 Q v0 v1 v4 S bc bs) : Go p l e { frames := 3, cells := 27, slots := 692, locals := 73 } s m args below meth c z 5 (MQ below (Qx z (wV Q)) args s 27 692 (own z)) (bc) (bs) 52 [(0, .ref (v0)), (1, .ref (v1)), (4, .int (v4))] [] (S) := by
  refine G_iload (pc := 52) C 2 dX3_init_52 rfl ?_
  refine G_bipush (pc := 54) C (v := 6) dX3_init_54 (by decide) ?_
  refine G_icmp_ge (pc := 56) C 79 dX3_init_56 (by decide) (fun hc => ?_) (fun hc => ?_)
  · have hw := hw.1 hc
    refine G_aload_n (pc := 79) C 0 dX3_init_79 rfl rfl ?_
    refine G_aload_n (pc := 80) C 0 dX3_init_80 rfl rfl ?_
    obtain ⟨hk, hw⟩ := hw
    refine cl_RX3_40 (pc := 81) C (c_X3_order l z (v0) S _ hw) ⟨Nat.le_of_ble_eq_true rfl, Nat.le_of_ble_eq_true rfl⟩ hk dX3_init_81 (Nat.le_of_ble_eq_true rfl) (fun v S' hp => ?_)
    clear hw
    obtain ⟨e17, rfl, hw⟩ := hp
    generalize S' = S18 at hw ⊢
    obtain ⟨hk, hw⟩ := hw
    refine pf_RX3_44 (pc := 84) C rfl dX3_init_84 hk ?_
    obtain ⟨S19, hS19⟩ : ∃ y : Hp, y = sI S18 54 v0 0 e17 := ⟨_, rfl⟩
    have hw := hw S19 hS19
    rw [← hS19]
    clear hS19
    refine G_aload_n (pc := 87) C 0 dX3_init_87 rfl rfl ?_
    refine G_aload_n (pc := 88) C 0 dX3_init_88 rfl rfl ?_
    obtain ⟨hk, hw⟩ := hw
    refine gf_RX3_24 (pc := 89) C dX3_init_89 hk ?_
    obtain ⟨hb1, hb2, hw⟩ := hw
    obtain ⟨hn0, hn4, hw⟩ := hw
    refine G_less (bc' := (bc - 1) + 1) (bs' := (bs - ((gI S19 53 v0 0)).toNatClampNeg) + ((gI S19 53 v0 0)).toNatClampNeg) (by omega) (by omega) ?_
    refine G_anew (pc := 92) C (n := (gI S19 53 v0 0)) 2 ((gI S19 53 v0 0)).toNatClampNeg rfl (by decide) (by decide) cw_RX3_47 hn0 rfl hn4 dX3_init_92 ?_
    obtain ⟨n20, hn20⟩ : ∃ y : Nat, y = sz S19 := ⟨_, rfl⟩
    obtain ⟨S21, hS21⟩ : ∃ y : Hp, y = nw S19 22 (((gI S19 53 v0 0)).toNatClampNeg) := ⟨_, rfl⟩
    have hw := hw n20 hn20 S21 hS21
    rw [← hn20]
    rw [← hS21]
    clear hn20 hS21
    obtain ⟨hk, hw⟩ := hw
    refine pf_RX3_49 (pc := 95) C rfl (v := some n20) dX3_init_95 hk ?_
    obtain ⟨S22, hS22⟩ : ∃ y : Hp, y = sR S21 52 v0 0 (some n20) := ⟨_, rfl⟩
    have hw := hw S22 hS22
    rw [← hS22]
    clear hS22
    refine G_iconst (pc := 98) C (v := 0) dX3_init_98 (by decide) ?_
    refine G_istore (pc := 99) C [(4, .int ((0 : Int32))), (0, .ref (v0)), (1, .ref (v1))] dX3_init_99 (by decide) rfl ?_
    exact G_sub [1, 0] rfl (g_X3_init_101 C  hw)
  · have hw := hw.2 hc
    refine G_aload_n (pc := 59) C 0 dX3_init_59 rfl rfl ?_
    obtain ⟨hk, hw⟩ := hw
    refine gf_RX3_29 (pc := 60) C dX3_init_60 hk ?_
    refine G_iload (pc := 63) C 2 dX3_init_63 rfl ?_
    refine G_aload_n (pc := 65) C 1 dX3_init_65 rfl rfl ?_
    obtain ⟨hk, hw⟩ := hw
    refine gf_RX3_37 (pc := 66) C dX3_init_66 hk ?_
    refine G_iload (pc := 69) C 2 dX3_init_69 rfl ?_
    obtain ⟨b34, hq, hw⟩ := hw
    rw [hq]
    obtain ⟨hk, hi, hw⟩ := hw
    refine G_aald (pc := 71) C 3 rfl (by decide) rfl hk hi dX3_init_71 ?_
    obtain ⟨b35, hq, hw⟩ := hw
    rw [hq]
    obtain ⟨b36, hq, hw⟩ := hw
    rw [hq]
    obtain ⟨hk, hv, hi, hw⟩ := hw
    refine G_aast (pc := 72) C 3 5 3 rfl (by decide) rfl rfl hk hv hi dX3_init_72 ?_
    obtain ⟨S37, hS37⟩ : ∃ y : Hp, y = sR S 0 b35 (v4).toNatClampNeg (some b36) := ⟨_, rfl⟩
    have hw := hw S37 hS37
    rw [← hS37]
    clear hS37
    obtain ⟨e38, he38⟩ : ∃ y : Int32, y = (v4 + 1) := ⟨_, rfl⟩
    have hw := hw e38 he38
    refine G_iinc (pc := 73) C [(4, .int (e38)), (0, .ref (v0)), (1, .ref (v1))] 2 (v := e38) dX3_init_73 rfl (by rw [he38]; rfl) (by decide) rfl ?_
    clear he38
    refine G_goto (pc := 76) C 52 dX3_init_76 (by decide) ?_
    exact G_sub [1, 2, 0] rfl (hK52 _ _ _ _ hw)
set_option maxHeartbeats 4000000 in
set_option maxRecDepth 100000 in
theorem g_X3_init_52 (C : Cx p s m args meth c z cX3_init 5 RX3 none "<init>")  {Q : Hp → Prop} {v0 : Nat} {v1 : Nat} {v4 : Int32} {S : Hp} {bc bs : Nat}   (hw : wp_X3_init_52  Q v0 v1 v4 S bc bs) : Go p l e { frames := 3, cells := 27, slots := 692, locals := 73 } s m args below meth c z 5 (MQ below (Qx z (wV Q)) args s 27 692 (own z)) (bc) (bs) 52 [(0, .ref (v0)), (1, .ref (v1)), (4, .int (v4))] [] (S) :=
  Lp_go (G := fun y : Int32 × Hp × Nat × Nat => Go p l e { frames := 3, cells := 27, slots := 692, locals := 73 } s m args below meth c z 5 (MQ below (Qx z (wV Q)) args s 27 692 (own z)) (y.2.2.1) (y.2.2.2) 52 [(0, .ref (v0)), (1, .ref (v1)), (4, .int (y.1))] [] (y.2.1)) (fun K y hK hB => gb_X3_init_52 C  (fun w0 w1 w2 w3 h => hK (w0, w1, w2, w3) h) hB) hw
set_option maxHeartbeats 4000000 in
set_option maxRecDepth 100000 in
theorem c_X3_init (l : Launch) (z : Zt) (a0 : Nat) (a1 : Nat) (x2 : Int32) (x3 : Int32) (S : Hp) (Q : Hp → Prop) (hw : wp_X3_init a0 a1 x2 x3 S Q) : Ct l z yX3_init cX3_init 5 none 3 73 27 692 [.ref (a0), .ref (a1), .int (x2), .int (x3)] S (wV Q) := by
  refine Ct_of (by decide) (Nat.le_of_ble_eq_true rfl) ?_
  intro p e s m args below meth c C
  have C : Cx p s m args meth c z cX3_init 5 RX3 none "<init>" := C
  refine G_sub (lv' := [(0, .ref (a0)), (1, .ref (a1)), (2, .int (x2)), (3, .int (x3))]) [0, 1, 2, 3] rfl ?_
  refine G_aload_n (pc := 0) C 0 dX3_init_0 rfl rfl ?_
  refine G_objInit (pc := 1) C oi_RX3_3 (by decide) (by decide) dX3_init_1 ?_
  refine G_aload_n (pc := 4) C 0 dX3_init_4 rfl rfl ?_
  refine G_iconst (pc := 5) C (v := 0) dX3_init_5 (by decide) ?_
  refine G_iload_n (pc := 6) C 2 dX3_init_6 rfl rfl ?_
  refine G_bipush (pc := 7) C (v := 6) dX3_init_7 (by decide) ?_
  refine cl_RX3_9 (pc := 9) C (c_J9_min_7cf53 l z (x2) ((6 : Int32)) S _ hw) ⟨Nat.le_of_ble_eq_true rfl, Nat.le_of_ble_eq_true rfl⟩ dX3_init_9 (Nat.le_of_ble_eq_true rfl) (fun v S' hp => ?_)
  clear hw
  obtain ⟨hS, e1, rfl, hw⟩ := hp
  subst S'
  refine cl_RX3_15 (pc := 12) C (c_J9_max_7cf53 l z ((0 : Int32)) (e1) S _ hw) ⟨Nat.le_of_ble_eq_true rfl, Nat.le_of_ble_eq_true rfl⟩ dX3_init_12 (Nat.le_of_ble_eq_true rfl) (fun v S' hp => ?_)
  clear hw
  obtain ⟨hS, e3, rfl, hw⟩ := hp
  subst S'
  obtain ⟨hk, hw⟩ := hw
  refine pf_RX3_18 (pc := 15) C rfl dX3_init_15 hk ?_
  obtain ⟨S5, hS5⟩ : ∃ y : Hp, y = sI S 50 a0 0 e3 := ⟨_, rfl⟩
  have hw := hw S5 hS5
  rw [← hS5]
  clear hS5
  refine G_aload_n (pc := 18) C 0 dX3_init_18 rfl rfl ?_
  refine G_iconst (pc := 19) C (v := 0) dX3_init_19 (by decide) ?_
  refine G_iload_n (pc := 20) C 3 dX3_init_20 rfl rfl ?_
  refine G_bipush (pc := 21) C (v := 8) dX3_init_21 (by decide) ?_
  refine cl_RX3_9 (pc := 23) C (c_J9_min_7cf53 l z (x3) ((8 : Int32)) S5 _ hw) ⟨Nat.le_of_ble_eq_true rfl, Nat.le_of_ble_eq_true rfl⟩ dX3_init_23 (Nat.le_of_ble_eq_true rfl) (fun v S' hp => ?_)
  clear hw
  obtain ⟨hS, e6, rfl, hw⟩ := hp
  subst S'
  refine cl_RX3_15 (pc := 26) C (c_J9_max_7cf53 l z ((0 : Int32)) (e6) S5 _ hw) ⟨Nat.le_of_ble_eq_true rfl, Nat.le_of_ble_eq_true rfl⟩ dX3_init_26 (Nat.le_of_ble_eq_true rfl) (fun v S' hp => ?_)
  clear hw
  obtain ⟨hS, e8, rfl, hw⟩ := hp
  subst S'
  obtain ⟨hk, hw⟩ := hw
  refine pf_RX3_24 (pc := 29) C rfl dX3_init_29 hk ?_
  obtain ⟨S10, hS10⟩ : ∃ y : Hp, y = sI S5 53 a0 0 e8 := ⟨_, rfl⟩
  have hw := hw S10 hS10
  rw [← hS10]
  clear hS10
  refine G_aload_n (pc := 32) C 0 dX3_init_32 rfl rfl ?_
  refine G_bipush (pc := 33) C (v := 6) dX3_init_33 (by decide) ?_
  obtain ⟨hb1, hb2, hw⟩ := hw
  refine G_less (bc' := (27 - 1) + 1) (bs' := (692 - 6) + 6) (by omega) (by omega) ?_
  refine G_anew (pc := 35) C (n := (6 : Int32)) 3 6 rfl (by decide) (by decide) cw_RX3_27 (by decide) (by decide) (by decide) dX3_init_35 ?_
  obtain ⟨n11, hn11⟩ : ∃ y : Nat, y = sz S10 := ⟨_, rfl⟩
  obtain ⟨S12, hS12⟩ : ∃ y : Hp, y = nw S10 23 (6) := ⟨_, rfl⟩
  have hw := hw n11 hn11 S12 hS12
  rw [← hn11]
  rw [← hS12]
  clear hn11 hS12
  obtain ⟨hk, hw⟩ := hw
  refine pf_RX3_29 (pc := 38) C rfl (v := some n11) dX3_init_38 hk ?_
  obtain ⟨S13, hS13⟩ : ∃ y : Hp, y = sR S12 49 a0 0 (some n11) := ⟨_, rfl⟩
  have hw := hw S13 hS13
  rw [← hS13]
  clear hS13
  refine G_aload_n (pc := 41) C 0 dX3_init_41 rfl rfl ?_
  refine G_bipush (pc := 42) C (v := 6) dX3_init_42 (by decide) ?_
  obtain ⟨hb1, hb2, hw⟩ := hw
  refine G_less (bc' := ((27 - 1) - 1) + 1) (bs' := ((692 - 6) - 6) + 6) (by omega) (by omega) ?_
  refine G_newa (pc := 44) C (n := (6 : Int32)) 6 w_aI (by decide) (by decide) (by decide) dX3_init_44 ?_
  obtain ⟨n14, hn14⟩ : ∃ y : Nat, y = sz S13 := ⟨_, rfl⟩
  obtain ⟨S15, hS15⟩ : ∃ y : Hp, y = nw S13 20 (6) := ⟨_, rfl⟩
  have hw := hw n14 hn14 S15 hS15
  rw [← hn14]
  rw [← hS15]
  clear hn14 hS15
  obtain ⟨hk, hw⟩ := hw
  refine pf_RX3_33 (pc := 46) C rfl (v := some n14) dX3_init_46 hk ?_
  obtain ⟨S16, hS16⟩ : ∃ y : Hp, y = sR S15 51 a0 0 (some n14) := ⟨_, rfl⟩
  have hw := hw S16 hS16
  rw [← hS16]
  clear hS16
  refine G_iconst (pc := 49) C (v := 0) dX3_init_49 (by decide) ?_
  refine G_istore (pc := 50) C [(4, .int ((0 : Int32))), (0, .ref (a0)), (1, .ref (a1)), (2, .int (x2)), (3, .int (x3))] dX3_init_50 (by decide) rfl ?_
  exact G_sub [1, 2, 0] rfl (g_X3_init_52 C  hw)
/-! FirstParts$Packed.hasPart(I)Z -/
abbrev wp_X3_hasPart (a0 : Nat) (x1 : Int32) (S : Hp) (Q : Int32 → Prop) : Prop :=
  kd S a0 = 4 ∧ wp_X11_within (x1) ((0 : Int32)) (((gI S 50 a0 0) - (1 : Int32))) S (fun e1 => (e1 = 0 ∨ e1 = 1) ∧ Q e1)
set_option maxHeartbeats 4000000 in
set_option maxRecDepth 100000 in
theorem c_X3_hasPart (l : Launch) (z : Zt) (a0 : Nat) (x1 : Int32) (S : Hp) (Q : Int32 → Prop) (hw : wp_X3_hasPart a0 x1 S Q) : Ct l z yX3_hasPart cX3_hasPart 2 (some .boolean) 1 22 0 0 [.ref (a0), .int (x1)] S (pI S Q) := by
  refine Ct_of (by decide) (Nat.le_of_ble_eq_true rfl) ?_
  intro p e s m args below meth c C
  have C : Cx p s m args meth c z cX3_hasPart 2 RX3 (some .boolean) "hasPart" := C
  refine G_sub (lv' := [(0, .ref (a0)), (1, .int (x1))]) [0, 1] rfl ?_
  refine G_iload_n (pc := 0) C 1 dX3_hasPart_0 rfl rfl ?_
  refine G_iconst (pc := 1) C (v := 0) dX3_hasPart_1 (by decide) ?_
  refine G_aload_n (pc := 2) C 0 dX3_hasPart_2 rfl rfl ?_
  obtain ⟨hk, hw⟩ := hw
  refine gf_RX3_18 (pc := 3) C dX3_hasPart_3 hk ?_
  refine G_iconst (pc := 6) C (v := 1) dX3_hasPart_6 (by decide) ?_
  refine G_isub (pc := 7) C dX3_hasPart_7 ?_
  refine cl_RX3_77 (pc := 8) C (c_X11_within l z (x1) ((0 : Int32)) (((gI S 50 a0 0) - (1 : Int32))) S _ hw) ⟨Nat.le_of_ble_eq_true rfl, Nat.le_of_ble_eq_true rfl⟩ dX3_hasPart_8 (Nat.le_of_ble_eq_true rfl) (fun v S' hp => ?_)
  clear hw
  obtain ⟨hS, e1, rfl, hw⟩ := hp
  subst S'
  obtain ⟨hb, hw⟩ := hw
  exact G_zret (pc := 11) C rfl hb dX3_hasPart_11 ⟨rfl, _, rfl, hw⟩
/-! FirstParts$Packed.hasPacket(I)Z -/
abbrev wp_X3_hasPacket (a0 : Nat) (x1 : Int32) (S : Hp) (Q : Int32 → Prop) : Prop :=
  kd S a0 = 4 ∧ wp_X11_within (x1) ((0 : Int32)) (((gI S 53 a0 0) - (1 : Int32))) S (fun e1 => (e1 = 0 ∨ e1 = 1) ∧ Q e1)
set_option maxHeartbeats 4000000 in
set_option maxRecDepth 100000 in
theorem c_X3_hasPacket (l : Launch) (z : Zt) (a0 : Nat) (x1 : Int32) (S : Hp) (Q : Int32 → Prop) (hw : wp_X3_hasPacket a0 x1 S Q) : Ct l z yX3_hasPacket cX3_hasPacket 2 (some .boolean) 1 22 0 0 [.ref (a0), .int (x1)] S (pI S Q) := by
  refine Ct_of (by decide) (Nat.le_of_ble_eq_true rfl) ?_
  intro p e s m args below meth c C
  have C : Cx p s m args meth c z cX3_hasPacket 2 RX3 (some .boolean) "hasPacket" := C
  refine G_sub (lv' := [(0, .ref (a0)), (1, .int (x1))]) [0, 1] rfl ?_
  refine G_iload_n (pc := 0) C 1 dX3_hasPacket_0 rfl rfl ?_
  refine G_iconst (pc := 1) C (v := 0) dX3_hasPacket_1 (by decide) ?_
  refine G_aload_n (pc := 2) C 0 dX3_hasPacket_2 rfl rfl ?_
  obtain ⟨hk, hw⟩ := hw
  refine gf_RX3_24 (pc := 3) C dX3_hasPacket_3 hk ?_
  refine G_iconst (pc := 6) C (v := 1) dX3_hasPacket_6 (by decide) ?_
  refine G_isub (pc := 7) C dX3_hasPacket_7 ?_
  refine cl_RX3_77 (pc := 8) C (c_X11_within l z (x1) ((0 : Int32)) (((gI S 53 a0 0) - (1 : Int32))) S _ hw) ⟨Nat.le_of_ble_eq_true rfl, Nat.le_of_ble_eq_true rfl⟩ dX3_hasPacket_8 (Nat.le_of_ble_eq_true rfl) (fun v S' hp => ?_)
  clear hw
  obtain ⟨hS, e1, rfl, hw⟩ := hp
  subst S'
  obtain ⟨hb, hw⟩ := hw
  exact G_zret (pc := 11) C rfl hb dX3_hasPacket_11 ⟨rfl, _, rfl, hw⟩
/-! FirstParts$Packed.gather(IILFirstParts$Curve;)V -/
abbrev wp_X3_gather_71 (K26 : Int32 → Hp → Prop) (Q : Hp → Prop) (v0 : Nat) (v3 : Nat) (v4 : Int32) (v5 : Int32) (S : Hp) : Prop :=
  ∀ e11 : Int32, e11 = (v5 + 1) → K26 (e11) (S)
abbrev wb_X3_gather_26  (K26 : Int32 → Hp → Prop) (Q : Hp → Prop) (v0 : Nat) (v3 : Nat) (v4 : Int32) (v5 : Int32) (S : Hp) : Prop :=
  kd S v0 = 4 ∧ (((gI S 53 v0 0) ≤ v5 → Q S) ∧ (¬ (gI S 53 v0 0) ≤ v5 → kd S v0 = 4 ∧ ∃ b7, (gR S 52 v0 0) = some b7 ∧ kd S b7 = 22 ∧ vp_in v5 (ln S b7) ∧ ∃ b8, (gR S 0 b7 (v5).toNatClampNeg) = some b8 ∧ kd S b8 = 5 ∧ wp_X4_holds (b8) (v4) S (fun e9 => ((e9 = 0 → wp_X3_gather_71 K26 Q (v0) (v3) (v4) (v5) (S)) ∧ (¬ e9 = 0 → kd S v0 = 4 ∧ ∃ b12, (gR S 52 v0 0) = some b12 ∧ kd S b12 = 22 ∧ vp_in v5 (ln S b12) ∧ ∃ b13, (gR S 0 b12 (v5).toNatClampNeg) = some b13 ∧ kd S b13 = 5 ∧ ∃ b14, (gR S 66 b13 0) = some b14 ∧ kd S b14 = 20 ∧ vp_in v4 (ln S b14) ∧ kd S v3 = 2 ∧ wp_X1_hold (v3) ((v5 + (1 : Int32))) ((gI S 0 b14 (v4).toNatClampNeg)) S (fun S16 => wp_X3_gather_71 K26 Q (v0) (v3) (v4) (v5) (S16)))))))
abbrev wp_X3_gather_26  (Q : Hp → Prop) (v0 : Nat) (v3 : Nat) (v4 : Int32) (v5 : Int32) (S : Hp) : Prop :=
  Lp (X := Int32 × Hp) (fun K y => wb_X3_gather_26  (fun w0 w1 => K (w0, w1)) Q v0 v3 v4 y.1 y.2) (v5, S)
abbrev wp_X3_gather (a0 : Nat) (x1 : Int32) (x2 : Int32) (a3 : Nat) (S : Hp) (Q : Hp → Prop) : Prop :=
  kd S a0 = 4 ∧ ∃ b1, (gR S 51 a0 0) = some b1 ∧ kd S b1 = 20 ∧ vp_in x1 (ln S b1) ∧ ∀ e2 : Int32, e2 = ((gI S 0 b1 (x1).toNatClampNeg) + x2) → kd S a0 = 4 ∧ ∃ b3, (gR S 49 a0 0) = some b3 ∧ kd S b3 = 23 ∧ vp_in x1 (ln S b3) ∧ ∃ b4, (gR S 0 b3 (x1).toNatClampNeg) = some b4 ∧ kd S b4 = 6 ∧ kd S a3 = 2 ∧ wp_X1_begin (a3) ((gI S 82 b4 0)) S (fun S6 => wp_X3_gather_26 Q (a0) (a3) (e2) ((0 : Int32)) (S6))
set_option maxHeartbeats 4000000 in
set_option maxRecDepth 100000 in
theorem g_X3_gather_71 (C : Cx p s m args meth c z cX3_gather 6 RX3 none "gather") {K26 : Int32 → Hp → Prop} {Q : Hp → Prop} {v0 : Nat} {v3 : Nat} {v4 : Int32} {v5 : Int32} {S : Hp}  (hK26 : ∀ (w5 : Int32) (S2 : Hp), K26 w5 S2 → Go p l e { frames := 2, cells := 0, slots := 0, locals := 43 } s m args below meth c z 6 (MQ below (Qx z (wV Q)) args s 0 0 (own z)) (0) (0) 26 [(0, .ref (v0)), (3, .ref (v3)), (4, .int (v4)), (5, .int (w5))] [] (S2)) (hw : wp_X3_gather_71 K26 Q v0 v3 v4 v5 S) : Go p l e { frames := 2, cells := 0, slots := 0, locals := 43 } s m args below meth c z 6 (MQ below (Qx z (wV Q)) args s 0 0 (own z)) (0) (0) 71 [(0, .ref (v0)), (3, .ref (v3)), (4, .int (v4)), (5, .int (v5))] [] (S) := by
  obtain ⟨e11, he11⟩ : ∃ y : Int32, y = (v5 + 1) := ⟨_, rfl⟩
  have hw := hw e11 he11
  refine G_iinc (pc := 71) C [(5, .int (e11)), (0, .ref (v0)), (3, .ref (v3)), (4, .int (v4))] 3 (v := e11) dX3_gather_71 rfl (by rw [he11]; rfl) (by decide) rfl ?_
  clear he11
  refine G_goto (pc := 74) C 26 dX3_gather_74 (by decide) ?_
  exact G_sub [1, 2, 3, 0] rfl (hK26 _ _ hw)
set_option maxHeartbeats 4000000 in
set_option maxRecDepth 100000 in
theorem gb_X3_gather_26 (C : Cx p s m args meth c z cX3_gather 6 RX3 none "gather") {K26 : Int32 → Hp → Prop} {Q : Hp → Prop} {v0 : Nat} {v3 : Nat} {v4 : Int32} {v5 : Int32} {S : Hp}  (hK26 : ∀ (w5 : Int32) (S2 : Hp), K26 w5 S2 → Go p l e { frames := 2, cells := 0, slots := 0, locals := 43 } s m args below meth c z 6 (MQ below (Qx z (wV Q)) args s 0 0 (own z)) (0) (0) 26 [(0, .ref (v0)), (3, .ref (v3)), (4, .int (v4)), (5, .int (w5))] [] (S2)) (hw : wb_X3_gather_26  K26 Q v0 v3 v4 v5 S) : Go p l e { frames := 2, cells := 0, slots := 0, locals := 43 } s m args below meth c z 6 (MQ below (Qx z (wV Q)) args s 0 0 (own z)) (0) (0) 26 [(0, .ref (v0)), (3, .ref (v3)), (4, .int (v4)), (5, .int (v5))] [] (S) := by
  refine G_iload (pc := 26) C 3 dX3_gather_26 rfl ?_
  refine G_aload_n (pc := 28) C 0 dX3_gather_28 rfl rfl ?_
  obtain ⟨hk, hw⟩ := hw
  refine gf_RX3_24 (pc := 29) C dX3_gather_29 hk ?_
  refine G_icmp_ge (pc := 32) C 77 dX3_gather_32 (by decide) (fun hc => ?_) (fun hc => ?_)
  · have hw := hw.1 hc
    exact G_vret (pc := 77) C rfl dX3_gather_77 ⟨rfl, hw⟩
  · have hw := hw.2 hc
    refine G_aload_n (pc := 35) C 0 dX3_gather_35 rfl rfl ?_
    obtain ⟨hk, hw⟩ := hw
    refine gf_RX3_49 (pc := 36) C dX3_gather_36 hk ?_
    refine G_iload (pc := 39) C 3 dX3_gather_39 rfl ?_
    obtain ⟨b7, hq, hw⟩ := hw
    rw [hq]
    obtain ⟨hk, hi, hw⟩ := hw
    refine G_aald (pc := 41) C 2 rfl (by decide) rfl hk hi dX3_gather_41 ?_
    refine G_iload (pc := 42) C 2 dX3_gather_42 rfl ?_
    obtain ⟨b8, hq, hw⟩ := hw
    rw [hq]
    obtain ⟨hk, hw⟩ := hw
    refine cl_RX3_86 (pc := 44) C (c_X4_holds l z (b8) (v4) S _ hw) ⟨Nat.le_of_ble_eq_true rfl, Nat.le_of_ble_eq_true rfl⟩ hk dX3_gather_44 (Nat.le_of_ble_eq_true rfl) (fun v S' hp => ?_)
    clear hw
    obtain ⟨hS, e9, rfl, hw⟩ := hp
    subst S'
    refine G_if_eq (pc := 47) C 71 dX3_gather_47 (by decide) (fun hc => ?_) (fun hc => ?_)
    · have hw := hw.1 hc
      exact G_sub [0, 1, 2, 3] rfl (g_X3_gather_71 C hK26 hw)
    · have hw := hw.2 hc
      refine G_aload_n (pc := 50) C 1 dX3_gather_50 rfl rfl ?_
      refine G_iload (pc := 51) C 3 dX3_gather_51 rfl ?_
      refine G_iconst (pc := 53) C (v := 1) dX3_gather_53 (by decide) ?_
      refine G_iadd (pc := 54) C dX3_gather_54 ?_
      refine G_aload_n (pc := 55) C 0 dX3_gather_55 rfl rfl ?_
      obtain ⟨hk, hw⟩ := hw
      refine gf_RX3_49 (pc := 56) C dX3_gather_56 hk ?_
      refine G_iload (pc := 59) C 3 dX3_gather_59 rfl ?_
      obtain ⟨b12, hq, hw⟩ := hw
      rw [hq]
      obtain ⟨hk, hi, hw⟩ := hw
      refine G_aald (pc := 61) C 2 rfl (by decide) rfl hk hi dX3_gather_61 ?_
      obtain ⟨b13, hq, hw⟩ := hw
      rw [hq]
      obtain ⟨hk, hw⟩ := hw
      refine gf_RX3_90 (pc := 62) C dX3_gather_62 hk ?_
      refine G_iload (pc := 65) C 2 dX3_gather_65 rfl ?_
      obtain ⟨b14, hq, hw⟩ := hw
      rw [hq]
      obtain ⟨hk, hi, hw⟩ := hw
      refine G_iald (pc := 67) C hk hi dX3_gather_67 ?_
      obtain ⟨hk, hw⟩ := hw
      refine cl_RX3_93 (pc := 68) C (c_X1_hold l z (v3) ((v5 + (1 : Int32))) ((gI S 0 b14 (v4).toNatClampNeg)) S _ hw) ⟨Nat.le_of_ble_eq_true rfl, Nat.le_of_ble_eq_true rfl⟩ hk dX3_gather_68 (Nat.le_of_ble_eq_true rfl) (fun v S' hp => ?_)
      clear hw
      obtain ⟨rfl, hw⟩ := hp
      generalize S' = S16 at hw ⊢
      exact G_sub [0, 1, 2, 3] rfl (g_X3_gather_71 C hK26 hw)
set_option maxHeartbeats 4000000 in
set_option maxRecDepth 100000 in
theorem g_X3_gather_26 (C : Cx p s m args meth c z cX3_gather 6 RX3 none "gather")  {Q : Hp → Prop} {v0 : Nat} {v3 : Nat} {v4 : Int32} {v5 : Int32} {S : Hp}   (hw : wp_X3_gather_26  Q v0 v3 v4 v5 S) : Go p l e { frames := 2, cells := 0, slots := 0, locals := 43 } s m args below meth c z 6 (MQ below (Qx z (wV Q)) args s 0 0 (own z)) (0) (0) 26 [(0, .ref (v0)), (3, .ref (v3)), (4, .int (v4)), (5, .int (v5))] [] (S) :=
  Lp_go (G := fun y : Int32 × Hp => Go p l e { frames := 2, cells := 0, slots := 0, locals := 43 } s m args below meth c z 6 (MQ below (Qx z (wV Q)) args s 0 0 (own z)) (0) (0) 26 [(0, .ref (v0)), (3, .ref (v3)), (4, .int (v4)), (5, .int (y.1))] [] (y.2)) (fun K y hK hB => gb_X3_gather_26 C  (fun w0 w1 h => hK (w0, w1) h) hB) hw
set_option maxHeartbeats 4000000 in
set_option maxRecDepth 100000 in
theorem c_X3_gather (l : Launch) (z : Zt) (a0 : Nat) (x1 : Int32) (x2 : Int32) (a3 : Nat) (S : Hp) (Q : Hp → Prop) (hw : wp_X3_gather a0 x1 x2 a3 S Q) : Ct l z yX3_gather cX3_gather 6 none 2 43 0 0 [.ref (a0), .int (x1), .int (x2), .ref (a3)] S (wV Q) := by
  refine Ct_of (by decide) (Nat.le_of_ble_eq_true rfl) ?_
  intro p e s m args below meth c C
  have C : Cx p s m args meth c z cX3_gather 6 RX3 none "gather" := C
  refine G_sub (lv' := [(0, .ref (a0)), (1, .int (x1)), (2, .int (x2)), (3, .ref (a3))]) [0, 1, 2, 3] rfl ?_
  refine G_aload_n (pc := 0) C 0 dX3_gather_0 rfl rfl ?_
  obtain ⟨hk, hw⟩ := hw
  refine gf_RX3_33 (pc := 1) C dX3_gather_1 hk ?_
  refine G_iload_n (pc := 4) C 1 dX3_gather_4 rfl rfl ?_
  obtain ⟨b1, hq, hw⟩ := hw
  rw [hq]
  obtain ⟨hk, hi, hw⟩ := hw
  refine G_iald (pc := 5) C hk hi dX3_gather_5 ?_
  refine G_iload_n (pc := 6) C 2 dX3_gather_6 rfl rfl ?_
  refine G_iadd (pc := 7) C dX3_gather_7 ?_
  refine G_topi (fun e2 he2 => ?_)
  have hw := hw e2 he2
  clear he2
  refine G_istore (pc := 8) C [(4, .int (e2)), (0, .ref (a0)), (1, .int (x1)), (2, .int (x2)), (3, .ref (a3))] dX3_gather_8 (by decide) rfl ?_
  refine G_aload_n (pc := 10) C 4 dX3_gather_10 rfl rfl ?_
  refine G_aload_n (pc := 11) C 1 dX3_gather_11 rfl rfl ?_
  obtain ⟨hk, hw⟩ := hw
  refine gf_RX3_29 (pc := 12) C dX3_gather_12 hk ?_
  refine G_iload_n (pc := 15) C 2 dX3_gather_15 rfl rfl ?_
  obtain ⟨b3, hq, hw⟩ := hw
  rw [hq]
  obtain ⟨hk, hi, hw⟩ := hw
  refine G_aald (pc := 16) C 3 rfl (by decide) rfl hk hi dX3_gather_16 ?_
  obtain ⟨b4, hq, hw⟩ := hw
  rw [hq]
  obtain ⟨hk, hw⟩ := hw
  refine gf_RX3_60 (pc := 17) C dX3_gather_17 hk ?_
  obtain ⟨hk, hw⟩ := hw
  refine cl_RX3_81 (pc := 20) C (c_X1_begin l z (a3) ((gI S 82 b4 0)) S _ hw) ⟨Nat.le_of_ble_eq_true rfl, Nat.le_of_ble_eq_true rfl⟩ hk dX3_gather_20 (Nat.le_of_ble_eq_true rfl) (fun v S' hp => ?_)
  clear hw
  obtain ⟨rfl, hw⟩ := hp
  generalize S' = S6 at hw ⊢
  refine G_iconst (pc := 23) C (v := 0) dX3_gather_23 (by decide) ?_
  refine G_istore (pc := 24) C [(5, .int ((0 : Int32))), (4, .int (e2)), (0, .ref (a0)), (1, .int (x1)), (2, .int (x2)), (3, .ref (a3))] dX3_gather_24 (by decide) rfl ?_
  exact G_sub [2, 5, 1, 0] rfl (g_X3_gather_26 C  hw)
/-! FirstParts$Packed.stateOf(ILFirstParts$Curve;)I -/
abbrev wp_X3_stateOf_53 (K5 : Int32 → Int32 → Hp → Prop) (Q : Int32 → Hp → Prop) (v0 : Nat) (v1 : Int32) (v2 : Nat) (v3 : Int32) (v4 : Int32) (S : Hp) : Prop :=
  ∀ e13 : Int32, e13 = (v4 + 1) → K5 (v3) (e13) (S)
abbrev wb_X3_stateOf_5  (K5 : Int32 → Int32 → Hp → Prop) (Q : Int32 → Hp → Prop) (v0 : Nat) (v1 : Int32) (v2 : Nat) (v3 : Int32) (v4 : Int32) (S : Hp) : Prop :=
  kd S v0 = 4 ∧ ∃ b1, (gR S 49 v0 0) = some b1 ∧ kd S b1 = 23 ∧ vp_in v1 (ln S b1) ∧ ∃ b2, (gR S 0 b1 (v1).toNatClampNeg) = some b2 ∧ kd S b2 = 6 ∧ wp_X5_stripes (b2) S (fun e3 => ((e3 ≤ v4 → Q v3 S) ∧ (¬ e3 ≤ v4 → kd S v0 = 4 ∧ wp_X3_gather (v0) (v1) (v4) (v2) S (fun S6 => kd S6 v2 = 2 ∧ wp_X1_hasEnough (v2) S6 (fun e7 => ((e7 ≠ 0 → kd S6 v2 = 2 ∧ wp_X1_goThroughFirst (v2) S6 (fun S10 => kd S10 v2 = 2 ∧ wp_X1_agreeing (v2) S10 (fun e11 => kd S10 v2 = 2 ∧ (((gI S10 19 v2 0) ≤ e11 → wp_X3_stateOf_53 K5 Q (v0) (v1) (v2) (v3) (v4) (S10)) ∧ (¬ (gI S10 19 v2 0) ≤ e11 → wp_X3_stateOf_53 K5 Q (v0) (v1) (v2) ((2 : Int32)) (v4) (S10)))))) ∧ (e7 = 0 → Q (0 : Int32) S6)))))))
abbrev wp_X3_stateOf_5  (Q : Int32 → Hp → Prop) (v0 : Nat) (v1 : Int32) (v2 : Nat) (v3 : Int32) (v4 : Int32) (S : Hp) : Prop :=
  Lp (X := Int32 × Int32 × Hp) (fun K y => wb_X3_stateOf_5  (fun w0 w1 w2 => K (w0, w1, w2)) Q v0 v1 v2 y.1 y.2.1 y.2.2) (v3, v4, S)
abbrev wp_X3_stateOf (a0 : Nat) (x1 : Int32) (a2 : Nat) (S : Hp) (Q : Int32 → Hp → Prop) : Prop :=
  wp_X3_stateOf_5 Q (a0) (x1) (a2) ((1 : Int32)) ((0 : Int32)) (S)
set_option maxHeartbeats 4000000 in
set_option maxRecDepth 100000 in
theorem g_X3_stateOf_53 (C : Cx p s m args meth c z cX3_stateOf 5 RX3 (some .int) "stateOf") {K5 : Int32 → Int32 → Hp → Prop} {Q : Int32 → Hp → Prop} {v0 : Nat} {v1 : Int32} {v2 : Nat} {v3 : Int32} {v4 : Int32} {S : Hp}  (hK5 : ∀ (w3 : Int32) (w4 : Int32) (S2 : Hp), K5 w3 w4 S2 → Go p l e { frames := 4, cells := 0, slots := 0, locals := 88 } s m args below meth c z 5 (MQ below (Qx z (wI Q)) args s 0 0 (own z)) (0) (0) 5 [(0, .ref (v0)), (1, .int (v1)), (2, .ref (v2)), (3, .int (w3)), (4, .int (w4))] [] (S2)) (hw : wp_X3_stateOf_53 K5 Q v0 v1 v2 v3 v4 S) : Go p l e { frames := 4, cells := 0, slots := 0, locals := 88 } s m args below meth c z 5 (MQ below (Qx z (wI Q)) args s 0 0 (own z)) (0) (0) 53 [(0, .ref (v0)), (1, .int (v1)), (2, .ref (v2)), (3, .int (v3)), (4, .int (v4))] [] (S) := by
  obtain ⟨e13, he13⟩ : ∃ y : Int32, y = (v4 + 1) := ⟨_, rfl⟩
  have hw := hw e13 he13
  refine G_iinc (pc := 53) C [(4, .int (e13)), (0, .ref (v0)), (1, .int (v1)), (2, .ref (v2)), (3, .int (v3))] 4 (v := e13) dX3_stateOf_53 rfl (by rw [he13]; rfl) (by decide) rfl ?_
  clear he13
  refine G_goto (pc := 56) C 5 dX3_stateOf_56 (by decide) ?_
  exact G_sub [1, 2, 3, 4, 0] rfl (hK5 _ _ _ hw)
set_option maxHeartbeats 4000000 in
set_option maxRecDepth 100000 in
theorem gb_X3_stateOf_5 (C : Cx p s m args meth c z cX3_stateOf 5 RX3 (some .int) "stateOf") {K5 : Int32 → Int32 → Hp → Prop} {Q : Int32 → Hp → Prop} {v0 : Nat} {v1 : Int32} {v2 : Nat} {v3 : Int32} {v4 : Int32} {S : Hp}  (hK5 : ∀ (w3 : Int32) (w4 : Int32) (S2 : Hp), K5 w3 w4 S2 → Go p l e { frames := 4, cells := 0, slots := 0, locals := 88 } s m args below meth c z 5 (MQ below (Qx z (wI Q)) args s 0 0 (own z)) (0) (0) 5 [(0, .ref (v0)), (1, .int (v1)), (2, .ref (v2)), (3, .int (w3)), (4, .int (w4))] [] (S2)) (hw : wb_X3_stateOf_5  K5 Q v0 v1 v2 v3 v4 S) : Go p l e { frames := 4, cells := 0, slots := 0, locals := 88 } s m args below meth c z 5 (MQ below (Qx z (wI Q)) args s 0 0 (own z)) (0) (0) 5 [(0, .ref (v0)), (1, .int (v1)), (2, .ref (v2)), (3, .int (v3)), (4, .int (v4))] [] (S) := by
  refine G_iload (pc := 5) C 4 dX3_stateOf_5 rfl ?_
  refine G_aload_n (pc := 7) C 0 dX3_stateOf_7 rfl rfl ?_
  obtain ⟨hk, hw⟩ := hw
  refine gf_RX3_29 (pc := 8) C dX3_stateOf_8 hk ?_
  refine G_iload_n (pc := 11) C 1 dX3_stateOf_11 rfl rfl ?_
  obtain ⟨b1, hq, hw⟩ := hw
  rw [hq]
  obtain ⟨hk, hi, hw⟩ := hw
  refine G_aald (pc := 12) C 3 rfl (by decide) rfl hk hi dX3_stateOf_12 ?_
  obtain ⟨b2, hq, hw⟩ := hw
  rw [hq]
  obtain ⟨hk, hw⟩ := hw
  refine cl_RX3_63 (pc := 13) C (c_X5_stripes l z (b2) S _ hw) ⟨Nat.le_of_ble_eq_true rfl, Nat.le_of_ble_eq_true rfl⟩ hk dX3_stateOf_13 (Nat.le_of_ble_eq_true rfl) (fun v S' hp => ?_)
  clear hw
  obtain ⟨hS, e3, rfl, hw⟩ := hp
  subst S'
  refine G_icmp_ge (pc := 16) C 59 dX3_stateOf_16 (by decide) (fun hc => ?_) (fun hc => ?_)
  · have hw := hw.1 hc
    refine G_iload_n (pc := 59) C 3 dX3_stateOf_59 rfl rfl ?_
    exact G_iret (pc := 60) C rfl dX3_stateOf_60 ⟨_, rfl, hw⟩
  · have hw := hw.2 hc
    refine G_aload_n (pc := 19) C 0 dX3_stateOf_19 rfl rfl ?_
    refine G_iload_n (pc := 20) C 1 dX3_stateOf_20 rfl rfl ?_
    refine G_iload (pc := 21) C 4 dX3_stateOf_21 rfl ?_
    refine G_aload_n (pc := 23) C 2 dX3_stateOf_23 rfl rfl ?_
    obtain ⟨hk, hw⟩ := hw
    refine cl_RX3_96 (pc := 24) C (c_X3_gather l z (v0) (v1) (v4) (v2) S _ hw) ⟨Nat.le_of_ble_eq_true rfl, Nat.le_of_ble_eq_true rfl⟩ hk dX3_stateOf_24 (Nat.le_of_ble_eq_true rfl) (fun v S' hp => ?_)
    clear hw
    obtain ⟨rfl, hw⟩ := hp
    generalize S' = S6 at hw ⊢
    refine G_aload_n (pc := 27) C 2 dX3_stateOf_27 rfl rfl ?_
    obtain ⟨hk, hw⟩ := hw
    refine cl_RX3_100 (pc := 28) C (c_X1_hasEnough l z (v2) S6 _ hw) ⟨Nat.le_of_ble_eq_true rfl, Nat.le_of_ble_eq_true rfl⟩ hk dX3_stateOf_28 (Nat.le_of_ble_eq_true rfl) (fun v S' hp => ?_)
    clear hw
    obtain ⟨hS, e7, rfl, hw⟩ := hp
    subst S'
    refine G_if_ne (pc := 31) C 36 dX3_stateOf_31 (by decide) (fun hc => ?_) (fun hc => ?_)
    · have hw := hw.1 hc
      refine G_aload_n (pc := 36) C 2 dX3_stateOf_36 rfl rfl ?_
      obtain ⟨hk, hw⟩ := hw
      refine cl_RX3_104 (pc := 37) C (c_X1_goThroughFirst l z (v2) S6 _ hw) ⟨Nat.le_of_ble_eq_true rfl, Nat.le_of_ble_eq_true rfl⟩ hk dX3_stateOf_37 (Nat.le_of_ble_eq_true rfl) (fun v S' hp => ?_)
      clear hw
      obtain ⟨rfl, hw⟩ := hp
      generalize S' = S10 at hw ⊢
      refine G_aload_n (pc := 40) C 2 dX3_stateOf_40 rfl rfl ?_
      obtain ⟨hk, hw⟩ := hw
      refine cl_RX3_107 (pc := 41) C (c_X1_agreeing l z (v2) S10 _ hw) ⟨Nat.le_of_ble_eq_true rfl, Nat.le_of_ble_eq_true rfl⟩ hk dX3_stateOf_41 (Nat.le_of_ble_eq_true rfl) (fun v S' hp => ?_)
      clear hw
      obtain ⟨hS, e11, rfl, hw⟩ := hp
      subst S'
      refine G_aload_n (pc := 44) C 2 dX3_stateOf_44 rfl rfl ?_
      obtain ⟨hk, hw⟩ := hw
      refine gf_RX3_110 (pc := 45) C dX3_stateOf_45 hk ?_
      refine G_icmp_ge (pc := 48) C 53 dX3_stateOf_48 (by decide) (fun hc => ?_) (fun hc => ?_)
      · have hw := hw.1 hc
        exact G_sub [0, 1, 2, 3, 4] rfl (g_X3_stateOf_53 C hK5 hw)
      · have hw := hw.2 hc
        refine G_iconst (pc := 51) C (v := 2) dX3_stateOf_51 (by decide) ?_
        refine G_istore_n (pc := 52) C [(3, .int ((2 : Int32))), (0, .ref (v0)), (1, .int (v1)), (2, .ref (v2)), (4, .int (v4))] dX3_stateOf_52 rfl (by decide) rfl ?_
        exact G_sub [1, 2, 3, 0, 4] rfl (g_X3_stateOf_53 C hK5 hw)
    · have hw := hw.2 hc
      refine G_iconst (pc := 34) C (v := 0) dX3_stateOf_34 (by decide) ?_
      exact G_iret (pc := 35) C rfl dX3_stateOf_35 ⟨_, rfl, hw⟩
set_option maxHeartbeats 4000000 in
set_option maxRecDepth 100000 in
theorem g_X3_stateOf_5 (C : Cx p s m args meth c z cX3_stateOf 5 RX3 (some .int) "stateOf")  {Q : Int32 → Hp → Prop} {v0 : Nat} {v1 : Int32} {v2 : Nat} {v3 : Int32} {v4 : Int32} {S : Hp}   (hw : wp_X3_stateOf_5  Q v0 v1 v2 v3 v4 S) : Go p l e { frames := 4, cells := 0, slots := 0, locals := 88 } s m args below meth c z 5 (MQ below (Qx z (wI Q)) args s 0 0 (own z)) (0) (0) 5 [(0, .ref (v0)), (1, .int (v1)), (2, .ref (v2)), (3, .int (v3)), (4, .int (v4))] [] (S) :=
  Lp_go (G := fun y : Int32 × Int32 × Hp => Go p l e { frames := 4, cells := 0, slots := 0, locals := 88 } s m args below meth c z 5 (MQ below (Qx z (wI Q)) args s 0 0 (own z)) (0) (0) 5 [(0, .ref (v0)), (1, .int (v1)), (2, .ref (v2)), (3, .int (y.1)), (4, .int (y.2.1))] [] (y.2.2)) (fun K y hK hB => gb_X3_stateOf_5 C  (fun w0 w1 w2 h => hK (w0, w1, w2) h) hB) hw
set_option maxHeartbeats 4000000 in
set_option maxRecDepth 100000 in
theorem c_X3_stateOf (l : Launch) (z : Zt) (a0 : Nat) (x1 : Int32) (a2 : Nat) (S : Hp) (Q : Int32 → Hp → Prop) (hw : wp_X3_stateOf a0 x1 a2 S Q) : Ct l z yX3_stateOf cX3_stateOf 5 (some .int) 4 88 0 0 [.ref (a0), .int (x1), .ref (a2)] S (wI Q) := by
  refine Ct_of (by decide) (Nat.le_of_ble_eq_true rfl) ?_
  intro p e s m args below meth c C
  have C : Cx p s m args meth c z cX3_stateOf 5 RX3 (some .int) "stateOf" := C
  refine G_sub (lv' := [(0, .ref (a0)), (1, .int (x1)), (2, .ref (a2))]) [0, 1, 2] rfl ?_
  refine G_iconst (pc := 0) C (v := 1) dX3_stateOf_0 (by decide) ?_
  refine G_istore_n (pc := 1) C [(3, .int ((1 : Int32))), (0, .ref (a0)), (1, .int (x1)), (2, .ref (a2))] dX3_stateOf_1 rfl (by decide) rfl ?_
  refine G_iconst (pc := 2) C (v := 0) dX3_stateOf_2 (by decide) ?_
  refine G_istore (pc := 3) C [(4, .int ((0 : Int32))), (3, .int ((1 : Int32))), (0, .ref (a0)), (1, .int (x1)), (2, .ref (a2))] dX3_stateOf_3 (by decide) rfl ?_
  exact G_sub [2, 3, 4, 1, 0] rfl (g_X3_stateOf_5 C  hw)
/-! FirstParts$Packed.partsInState(ILFirstParts$Curve;)I -/
abbrev wp_X3_partsInState_28 (K5 : Int32 → Int32 → Hp → Prop) (Q : Int32 → Hp → Prop) (v0 : Nat) (v1 : Int32) (v2 : Nat) (v3 : Int32) (v4 : Int32) (S : Hp) : Prop :=
  ∀ e3 : Int32, e3 = (v4 + 1) → K5 (v3) (e3) (S)
abbrev wb_X3_partsInState_5  (K5 : Int32 → Int32 → Hp → Prop) (Q : Int32 → Hp → Prop) (v0 : Nat) (v1 : Int32) (v2 : Nat) (v3 : Int32) (v4 : Int32) (S : Hp) : Prop :=
  kd S v0 = 4 ∧ (((gI S 50 v0 0) ≤ v4 → Q v3 S) ∧ (¬ (gI S 50 v0 0) ≤ v4 → kd S v0 = 4 ∧ wp_X3_stateOf (v0) (v4) (v2) S (fun e1 S2 => ((e1 ≠ v1 → wp_X3_partsInState_28 K5 Q (v0) (v1) (v2) (v3) (v4) (S2)) ∧ (e1 = v1 → ∀ e4 : Int32, e4 = (v3 + 1) → wp_X3_partsInState_28 K5 Q (v0) (v1) (v2) (e4) (v4) (S2))))))
abbrev wp_X3_partsInState_5  (Q : Int32 → Hp → Prop) (v0 : Nat) (v1 : Int32) (v2 : Nat) (v3 : Int32) (v4 : Int32) (S : Hp) : Prop :=
  Lp (X := Int32 × Int32 × Hp) (fun K y => wb_X3_partsInState_5  (fun w0 w1 w2 => K (w0, w1, w2)) Q v0 v1 v2 y.1 y.2.1 y.2.2) (v3, v4, S)
abbrev wp_X3_partsInState (a0 : Nat) (x1 : Int32) (a2 : Nat) (S : Hp) (Q : Int32 → Hp → Prop) : Prop :=
  wp_X3_partsInState_5 Q (a0) (x1) (a2) ((0 : Int32)) ((0 : Int32)) (S)
set_option maxHeartbeats 4000000 in
set_option maxRecDepth 100000 in
theorem g_X3_partsInState_28 (C : Cx p s m args meth c z cX3_partsInState 5 RX3 (some .int) "partsInState") {K5 : Int32 → Int32 → Hp → Prop} {Q : Int32 → Hp → Prop} {v0 : Nat} {v1 : Int32} {v2 : Nat} {v3 : Int32} {v4 : Int32} {S : Hp}  (hK5 : ∀ (w3 : Int32) (w4 : Int32) (S2 : Hp), K5 w3 w4 S2 → Go p l e { frames := 5, cells := 0, slots := 0, locals := 112 } s m args below meth c z 5 (MQ below (Qx z (wI Q)) args s 0 0 (own z)) (0) (0) 5 [(0, .ref (v0)), (1, .int (v1)), (2, .ref (v2)), (3, .int (w3)), (4, .int (w4))] [] (S2)) (hw : wp_X3_partsInState_28 K5 Q v0 v1 v2 v3 v4 S) : Go p l e { frames := 5, cells := 0, slots := 0, locals := 112 } s m args below meth c z 5 (MQ below (Qx z (wI Q)) args s 0 0 (own z)) (0) (0) 28 [(0, .ref (v0)), (1, .int (v1)), (2, .ref (v2)), (3, .int (v3)), (4, .int (v4))] [] (S) := by
  obtain ⟨e3, he3⟩ : ∃ y : Int32, y = (v4 + 1) := ⟨_, rfl⟩
  have hw := hw e3 he3
  refine G_iinc (pc := 28) C [(4, .int (e3)), (0, .ref (v0)), (1, .int (v1)), (2, .ref (v2)), (3, .int (v3))] 4 (v := e3) dX3_partsInState_28 rfl (by rw [he3]; rfl) (by decide) rfl ?_
  clear he3
  refine G_goto (pc := 31) C 5 dX3_partsInState_31 (by decide) ?_
  exact G_sub [1, 2, 3, 4, 0] rfl (hK5 _ _ _ hw)
set_option maxHeartbeats 4000000 in
set_option maxRecDepth 100000 in
theorem gb_X3_partsInState_5 (C : Cx p s m args meth c z cX3_partsInState 5 RX3 (some .int) "partsInState") {K5 : Int32 → Int32 → Hp → Prop} {Q : Int32 → Hp → Prop} {v0 : Nat} {v1 : Int32} {v2 : Nat} {v3 : Int32} {v4 : Int32} {S : Hp}  (hK5 : ∀ (w3 : Int32) (w4 : Int32) (S2 : Hp), K5 w3 w4 S2 → Go p l e { frames := 5, cells := 0, slots := 0, locals := 112 } s m args below meth c z 5 (MQ below (Qx z (wI Q)) args s 0 0 (own z)) (0) (0) 5 [(0, .ref (v0)), (1, .int (v1)), (2, .ref (v2)), (3, .int (w3)), (4, .int (w4))] [] (S2)) (hw : wb_X3_partsInState_5  K5 Q v0 v1 v2 v3 v4 S) : Go p l e { frames := 5, cells := 0, slots := 0, locals := 112 } s m args below meth c z 5 (MQ below (Qx z (wI Q)) args s 0 0 (own z)) (0) (0) 5 [(0, .ref (v0)), (1, .int (v1)), (2, .ref (v2)), (3, .int (v3)), (4, .int (v4))] [] (S) := by
  refine G_iload (pc := 5) C 4 dX3_partsInState_5 rfl ?_
  refine G_aload_n (pc := 7) C 0 dX3_partsInState_7 rfl rfl ?_
  obtain ⟨hk, hw⟩ := hw
  refine gf_RX3_18 (pc := 8) C dX3_partsInState_8 hk ?_
  refine G_icmp_ge (pc := 11) C 34 dX3_partsInState_11 (by decide) (fun hc => ?_) (fun hc => ?_)
  · have hw := hw.1 hc
    refine G_iload_n (pc := 34) C 3 dX3_partsInState_34 rfl rfl ?_
    exact G_iret (pc := 35) C rfl dX3_partsInState_35 ⟨_, rfl, hw⟩
  · have hw := hw.2 hc
    refine G_aload_n (pc := 14) C 0 dX3_partsInState_14 rfl rfl ?_
    refine G_iload (pc := 15) C 4 dX3_partsInState_15 rfl ?_
    refine G_aload_n (pc := 17) C 2 dX3_partsInState_17 rfl rfl ?_
    obtain ⟨hk, hw⟩ := hw
    refine cl_RX3_113 (pc := 18) C (c_X3_stateOf l z (v0) (v4) (v2) S _ hw) ⟨Nat.le_of_ble_eq_true rfl, Nat.le_of_ble_eq_true rfl⟩ hk dX3_partsInState_18 (Nat.le_of_ble_eq_true rfl) (fun v S' hp => ?_)
    clear hw
    obtain ⟨e1, rfl, hw⟩ := hp
    generalize S' = S2 at hw ⊢
    refine G_iload_n (pc := 21) C 1 dX3_partsInState_21 rfl rfl ?_
    refine G_icmp_ne (pc := 22) C 28 dX3_partsInState_22 (by decide) (fun hc => ?_) (fun hc => ?_)
    · have hw := hw.1 hc
      exact G_sub [0, 1, 2, 3, 4] rfl (g_X3_partsInState_28 C hK5 hw)
    · have hw := hw.2 hc
      obtain ⟨e4, he4⟩ : ∃ y : Int32, y = (v3 + 1) := ⟨_, rfl⟩
      have hw := hw e4 he4
      refine G_iinc (pc := 25) C [(3, .int (e4)), (0, .ref (v0)), (1, .int (v1)), (2, .ref (v2)), (4, .int (v4))] 3 (v := e4) dX3_partsInState_25 rfl (by rw [he4]; rfl) (by decide) rfl ?_
      clear he4
      exact G_sub [1, 2, 3, 0, 4] rfl (g_X3_partsInState_28 C hK5 hw)
set_option maxHeartbeats 4000000 in
set_option maxRecDepth 100000 in
theorem g_X3_partsInState_5 (C : Cx p s m args meth c z cX3_partsInState 5 RX3 (some .int) "partsInState")  {Q : Int32 → Hp → Prop} {v0 : Nat} {v1 : Int32} {v2 : Nat} {v3 : Int32} {v4 : Int32} {S : Hp}   (hw : wp_X3_partsInState_5  Q v0 v1 v2 v3 v4 S) : Go p l e { frames := 5, cells := 0, slots := 0, locals := 112 } s m args below meth c z 5 (MQ below (Qx z (wI Q)) args s 0 0 (own z)) (0) (0) 5 [(0, .ref (v0)), (1, .int (v1)), (2, .ref (v2)), (3, .int (v3)), (4, .int (v4))] [] (S) :=
  Lp_go (G := fun y : Int32 × Int32 × Hp => Go p l e { frames := 5, cells := 0, slots := 0, locals := 112 } s m args below meth c z 5 (MQ below (Qx z (wI Q)) args s 0 0 (own z)) (0) (0) 5 [(0, .ref (v0)), (1, .int (v1)), (2, .ref (v2)), (3, .int (y.1)), (4, .int (y.2.1))] [] (y.2.2)) (fun K y hK hB => gb_X3_partsInState_5 C  (fun w0 w1 w2 h => hK (w0, w1, w2) h) hB) hw
set_option maxHeartbeats 4000000 in
set_option maxRecDepth 100000 in
theorem c_X3_partsInState (l : Launch) (z : Zt) (a0 : Nat) (x1 : Int32) (a2 : Nat) (S : Hp) (Q : Int32 → Hp → Prop) (hw : wp_X3_partsInState a0 x1 a2 S Q) : Ct l z yX3_partsInState cX3_partsInState 5 (some .int) 5 112 0 0 [.ref (a0), .int (x1), .ref (a2)] S (wI Q) := by
  refine Ct_of (by decide) (Nat.le_of_ble_eq_true rfl) ?_
  intro p e s m args below meth c C
  have C : Cx p s m args meth c z cX3_partsInState 5 RX3 (some .int) "partsInState" := C
  refine G_sub (lv' := [(0, .ref (a0)), (1, .int (x1)), (2, .ref (a2))]) [0, 1, 2] rfl ?_
  refine G_iconst (pc := 0) C (v := 0) dX3_partsInState_0 (by decide) ?_
  refine G_istore_n (pc := 1) C [(3, .int ((0 : Int32))), (0, .ref (a0)), (1, .int (x1)), (2, .ref (a2))] dX3_partsInState_1 rfl (by decide) rfl ?_
  refine G_iconst (pc := 2) C (v := 0) dX3_partsInState_2 (by decide) ?_
  refine G_istore (pc := 3) C [(4, .int ((0 : Int32))), (3, .int ((0 : Int32))), (0, .ref (a0)), (1, .int (x1)), (2, .ref (a2))] dX3_partsInState_3 (by decide) rfl ?_
  exact G_sub [2, 3, 4, 1, 0] rfl (g_X3_partsInState_5 C  hw)
/-! FirstParts$Packed.holdersAt(I)I -/
abbrev wp_X3_holdersAt_28 (K4 : Int32 → Int32 → Prop) (Q : Int32 → Prop) (v0 : Nat) (v1 : Int32) (v2 : Int32) (v3 : Int32) (S : Hp) : Prop :=
  ∀ e5 : Int32, e5 = (v3 + 1) → K4 (v2) (e5)
abbrev wb_X3_holdersAt_4  (K4 : Int32 → Int32 → Prop) (Q : Int32 → Prop) (v0 : Nat) (v1 : Int32) (v2 : Int32) (v3 : Int32) (S : Hp) : Prop :=
  kd S v0 = 4 ∧ (((gI S 53 v0 0) ≤ v3 → Q v2) ∧ (¬ (gI S 53 v0 0) ≤ v3 → kd S v0 = 4 ∧ ∃ b1, (gR S 52 v0 0) = some b1 ∧ kd S b1 = 22 ∧ vp_in v3 (ln S b1) ∧ ∃ b2, (gR S 0 b1 (v3).toNatClampNeg) = some b2 ∧ kd S b2 = 5 ∧ wp_X4_holds (b2) (v1) S (fun e3 => ((e3 = 0 → wp_X3_holdersAt_28 K4 Q (v0) (v1) (v2) (v3) (S)) ∧ (¬ e3 = 0 → ∀ e6 : Int32, e6 = (v2 + 1) → wp_X3_holdersAt_28 K4 Q (v0) (v1) (e6) (v3) (S))))))
abbrev wp_X3_holdersAt_4  (Q : Int32 → Prop) (v0 : Nat) (v1 : Int32) (v2 : Int32) (v3 : Int32) (S : Hp) : Prop :=
  Lp (X := Int32 × Int32) (fun K y => wb_X3_holdersAt_4  (fun w0 w1 => K (w0, w1)) Q v0 v1 y.1 y.2 S) (v2, v3)
abbrev wp_X3_holdersAt (a0 : Nat) (x1 : Int32) (S : Hp) (Q : Int32 → Prop) : Prop :=
  wp_X3_holdersAt_4 Q (a0) (x1) ((0 : Int32)) ((0 : Int32)) (S)
set_option maxHeartbeats 4000000 in
set_option maxRecDepth 100000 in
theorem g_X3_holdersAt_28 (C : Cx p s m args meth c z cX3_holdersAt 4 RX3 (some .int) "holdersAt") {K4 : Int32 → Int32 → Prop} {Q : Int32 → Prop} {v0 : Nat} {v1 : Int32} {v2 : Int32} {v3 : Int32} {S : Hp}  (hK4 : ∀ (w2 : Int32) (w3 : Int32), K4 w2 w3 → Go p l e { frames := 2, cells := 0, slots := 0, locals := 43 } s m args below meth c z 4 (MQ below (Qx z (pI S Q)) args s 0 0 (own z)) (0) (0) 4 [(0, .ref (v0)), (1, .int (v1)), (2, .int (w2)), (3, .int (w3))] [] (S)) (hw : wp_X3_holdersAt_28 K4 Q v0 v1 v2 v3 S) : Go p l e { frames := 2, cells := 0, slots := 0, locals := 43 } s m args below meth c z 4 (MQ below (Qx z (pI S Q)) args s 0 0 (own z)) (0) (0) 28 [(0, .ref (v0)), (1, .int (v1)), (2, .int (v2)), (3, .int (v3))] [] (S) := by
  obtain ⟨e5, he5⟩ : ∃ y : Int32, y = (v3 + 1) := ⟨_, rfl⟩
  have hw := hw e5 he5
  refine G_iinc (pc := 28) C [(3, .int (e5)), (0, .ref (v0)), (1, .int (v1)), (2, .int (v2))] 3 (v := e5) dX3_holdersAt_28 rfl (by rw [he5]; rfl) (by decide) rfl ?_
  clear he5
  refine G_goto (pc := 31) C 4 dX3_holdersAt_31 (by decide) ?_
  exact G_sub [1, 2, 3, 0] rfl (hK4 _ _ hw)
set_option maxHeartbeats 4000000 in
set_option maxRecDepth 100000 in
theorem gb_X3_holdersAt_4 (C : Cx p s m args meth c z cX3_holdersAt 4 RX3 (some .int) "holdersAt") {K4 : Int32 → Int32 → Prop} {Q : Int32 → Prop} {v0 : Nat} {v1 : Int32} {v2 : Int32} {v3 : Int32} {S : Hp}  (hK4 : ∀ (w2 : Int32) (w3 : Int32), K4 w2 w3 → Go p l e { frames := 2, cells := 0, slots := 0, locals := 43 } s m args below meth c z 4 (MQ below (Qx z (pI S Q)) args s 0 0 (own z)) (0) (0) 4 [(0, .ref (v0)), (1, .int (v1)), (2, .int (w2)), (3, .int (w3))] [] (S)) (hw : wb_X3_holdersAt_4  K4 Q v0 v1 v2 v3 S) : Go p l e { frames := 2, cells := 0, slots := 0, locals := 43 } s m args below meth c z 4 (MQ below (Qx z (pI S Q)) args s 0 0 (own z)) (0) (0) 4 [(0, .ref (v0)), (1, .int (v1)), (2, .int (v2)), (3, .int (v3))] [] (S) := by
  refine G_iload_n (pc := 4) C 3 dX3_holdersAt_4 rfl rfl ?_
  refine G_aload_n (pc := 5) C 0 dX3_holdersAt_5 rfl rfl ?_
  obtain ⟨hk, hw⟩ := hw
  refine gf_RX3_24 (pc := 6) C dX3_holdersAt_6 hk ?_
  refine G_icmp_ge (pc := 9) C 34 dX3_holdersAt_9 (by decide) (fun hc => ?_) (fun hc => ?_)
  · have hw := hw.1 hc
    refine G_iload_n (pc := 34) C 2 dX3_holdersAt_34 rfl rfl ?_
    exact G_iret (pc := 35) C rfl dX3_holdersAt_35 ⟨rfl, _, rfl, hw⟩
  · have hw := hw.2 hc
    refine G_aload_n (pc := 12) C 0 dX3_holdersAt_12 rfl rfl ?_
    obtain ⟨hk, hw⟩ := hw
    refine gf_RX3_49 (pc := 13) C dX3_holdersAt_13 hk ?_
    refine G_iload_n (pc := 16) C 3 dX3_holdersAt_16 rfl rfl ?_
    obtain ⟨b1, hq, hw⟩ := hw
    rw [hq]
    obtain ⟨hk, hi, hw⟩ := hw
    refine G_aald (pc := 17) C 2 rfl (by decide) rfl hk hi dX3_holdersAt_17 ?_
    refine G_iload_n (pc := 18) C 1 dX3_holdersAt_18 rfl rfl ?_
    obtain ⟨b2, hq, hw⟩ := hw
    rw [hq]
    obtain ⟨hk, hw⟩ := hw
    refine cl_RX3_86 (pc := 19) C (c_X4_holds l z (b2) (v1) S _ hw) ⟨Nat.le_of_ble_eq_true rfl, Nat.le_of_ble_eq_true rfl⟩ hk dX3_holdersAt_19 (Nat.le_of_ble_eq_true rfl) (fun v S' hp => ?_)
    clear hw
    obtain ⟨hS, e3, rfl, hw⟩ := hp
    subst S'
    refine G_if_eq (pc := 22) C 28 dX3_holdersAt_22 (by decide) (fun hc => ?_) (fun hc => ?_)
    · have hw := hw.1 hc
      exact G_sub [0, 1, 2, 3] rfl (g_X3_holdersAt_28 C hK4 hw)
    · have hw := hw.2 hc
      obtain ⟨e6, he6⟩ : ∃ y : Int32, y = (v2 + 1) := ⟨_, rfl⟩
      have hw := hw e6 he6
      refine G_iinc (pc := 25) C [(2, .int (e6)), (0, .ref (v0)), (1, .int (v1)), (3, .int (v3))] 2 (v := e6) dX3_holdersAt_25 rfl (by rw [he6]; rfl) (by decide) rfl ?_
      clear he6
      exact G_sub [1, 2, 0, 3] rfl (g_X3_holdersAt_28 C hK4 hw)
set_option maxHeartbeats 4000000 in
set_option maxRecDepth 100000 in
theorem g_X3_holdersAt_4 (C : Cx p s m args meth c z cX3_holdersAt 4 RX3 (some .int) "holdersAt")  {Q : Int32 → Prop} {v0 : Nat} {v1 : Int32} {v2 : Int32} {v3 : Int32} {S : Hp}   (hw : wp_X3_holdersAt_4  Q v0 v1 v2 v3 S) : Go p l e { frames := 2, cells := 0, slots := 0, locals := 43 } s m args below meth c z 4 (MQ below (Qx z (pI S Q)) args s 0 0 (own z)) (0) (0) 4 [(0, .ref (v0)), (1, .int (v1)), (2, .int (v2)), (3, .int (v3))] [] (S) :=
  Lp_go (G := fun y : Int32 × Int32 => Go p l e { frames := 2, cells := 0, slots := 0, locals := 43 } s m args below meth c z 4 (MQ below (Qx z (pI S Q)) args s 0 0 (own z)) (0) (0) 4 [(0, .ref (v0)), (1, .int (v1)), (2, .int (y.1)), (3, .int (y.2))] [] (S)) (fun K y hK hB => gb_X3_holdersAt_4 C  (fun w0 w1 h => hK (w0, w1) h) hB) hw
set_option maxHeartbeats 4000000 in
set_option maxRecDepth 100000 in
theorem c_X3_holdersAt (l : Launch) (z : Zt) (a0 : Nat) (x1 : Int32) (S : Hp) (Q : Int32 → Prop) (hw : wp_X3_holdersAt a0 x1 S Q) : Ct l z yX3_holdersAt cX3_holdersAt 4 (some .int) 2 43 0 0 [.ref (a0), .int (x1)] S (pI S Q) := by
  refine Ct_of (by decide) (Nat.le_of_ble_eq_true rfl) ?_
  intro p e s m args below meth c C
  have C : Cx p s m args meth c z cX3_holdersAt 4 RX3 (some .int) "holdersAt" := C
  refine G_sub (lv' := [(0, .ref (a0)), (1, .int (x1))]) [0, 1] rfl ?_
  refine G_iconst (pc := 0) C (v := 0) dX3_holdersAt_0 (by decide) ?_
  refine G_istore_n (pc := 1) C [(2, .int ((0 : Int32))), (0, .ref (a0)), (1, .int (x1))] dX3_holdersAt_1 rfl (by decide) rfl ?_
  refine G_iconst (pc := 2) C (v := 0) dX3_holdersAt_2 (by decide) ?_
  refine G_istore_n (pc := 3) C [(3, .int ((0 : Int32))), (2, .int ((0 : Int32))), (0, .ref (a0)), (1, .int (x1))] dX3_holdersAt_3 rfl (by decide) rfl ?_
  exact G_sub [2, 3, 1, 0] rfl (g_X3_holdersAt_4 C  hw)
/-! FirstParts$Packed.fewestHolders(I)I -/
abbrev wb_X3_fewestHolders_7  (K7 : Int32 → Int32 → Prop) (Q : Int32 → Prop) (v0 : Nat) (v1 : Int32) (v2 : Int32) (v3 : Int32) (S : Hp) : Prop :=
  kd S v0 = 4 ∧ ∃ b2, (gR S 49 v0 0) = some b2 ∧ kd S b2 = 23 ∧ vp_in v1 (ln S b2) ∧ ∃ b3, (gR S 0 b2 (v1).toNatClampNeg) = some b3 ∧ kd S b3 = 6 ∧ wp_X5_stripes (b3) S (fun e4 => ((e4 ≤ v3 → Q v2) ∧ (¬ e4 ≤ v3 → kd S v0 = 4 ∧ ∃ b6, (gR S 51 v0 0) = some b6 ∧ kd S b6 = 20 ∧ vp_in v1 (ln S b6) ∧ kd S v0 = 4 ∧ wp_X3_holdersAt (v0) (((gI S 0 b6 (v1).toNatClampNeg) + v3)) S (fun e7 => wp_J9_min_7cf53 (v2) (e7) S (fun e9 => ∀ e11 : Int32, e11 = (v3 + 1) → K7 (e9) (e11))))))
abbrev wp_X3_fewestHolders_7  (Q : Int32 → Prop) (v0 : Nat) (v1 : Int32) (v2 : Int32) (v3 : Int32) (S : Hp) : Prop :=
  Lp (X := Int32 × Int32) (fun K y => wb_X3_fewestHolders_7  (fun w0 w1 => K (w0, w1)) Q v0 v1 y.1 y.2 S) (v2, v3)
abbrev wp_X3_fewestHolders (a0 : Nat) (x1 : Int32) (S : Hp) (Q : Int32 → Prop) : Prop :=
  kd S a0 = 4 ∧ ∀ e1 : Int32, e1 = (gI S 53 a0 0) → wp_X3_fewestHolders_7 Q (a0) (x1) (e1) ((0 : Int32)) (S)
set_option maxHeartbeats 4000000 in
set_option maxRecDepth 100000 in
theorem gb_X3_fewestHolders_7 (C : Cx p s m args meth c z cX3_fewestHolders 4 RX3 (some .int) "fewestHolders") {K7 : Int32 → Int32 → Prop} {Q : Int32 → Prop} {v0 : Nat} {v1 : Int32} {v2 : Int32} {v3 : Int32} {S : Hp}  (hK7 : ∀ (w2 : Int32) (w3 : Int32), K7 w2 w3 → Go p l e { frames := 3, cells := 0, slots := 0, locals := 66 } s m args below meth c z 4 (MQ below (Qx z (pI S Q)) args s 0 0 (own z)) (0) (0) 7 [(0, .ref (v0)), (1, .int (v1)), (2, .int (w2)), (3, .int (w3))] [] (S)) (hw : wb_X3_fewestHolders_7  K7 Q v0 v1 v2 v3 S) : Go p l e { frames := 3, cells := 0, slots := 0, locals := 66 } s m args below meth c z 4 (MQ below (Qx z (pI S Q)) args s 0 0 (own z)) (0) (0) 7 [(0, .ref (v0)), (1, .int (v1)), (2, .int (v2)), (3, .int (v3))] [] (S) := by
  refine G_iload_n (pc := 7) C 3 dX3_fewestHolders_7 rfl rfl ?_
  refine G_aload_n (pc := 8) C 0 dX3_fewestHolders_8 rfl rfl ?_
  obtain ⟨hk, hw⟩ := hw
  refine gf_RX3_29 (pc := 9) C dX3_fewestHolders_9 hk ?_
  refine G_iload_n (pc := 12) C 1 dX3_fewestHolders_12 rfl rfl ?_
  obtain ⟨b2, hq, hw⟩ := hw
  rw [hq]
  obtain ⟨hk, hi, hw⟩ := hw
  refine G_aald (pc := 13) C 3 rfl (by decide) rfl hk hi dX3_fewestHolders_13 ?_
  obtain ⟨b3, hq, hw⟩ := hw
  rw [hq]
  obtain ⟨hk, hw⟩ := hw
  refine cl_RX3_63 (pc := 14) C (c_X5_stripes l z (b3) S _ hw) ⟨Nat.le_of_ble_eq_true rfl, Nat.le_of_ble_eq_true rfl⟩ hk dX3_fewestHolders_14 (Nat.le_of_ble_eq_true rfl) (fun v S' hp => ?_)
  clear hw
  obtain ⟨hS, e4, rfl, hw⟩ := hp
  subst S'
  refine G_icmp_ge (pc := 17) C 43 dX3_fewestHolders_17 (by decide) (fun hc => ?_) (fun hc => ?_)
  · have hw := hw.1 hc
    refine G_iload_n (pc := 43) C 2 dX3_fewestHolders_43 rfl rfl ?_
    exact G_iret (pc := 44) C rfl dX3_fewestHolders_44 ⟨rfl, _, rfl, hw⟩
  · have hw := hw.2 hc
    refine G_iload_n (pc := 20) C 2 dX3_fewestHolders_20 rfl rfl ?_
    refine G_aload_n (pc := 21) C 0 dX3_fewestHolders_21 rfl rfl ?_
    refine G_aload_n (pc := 22) C 0 dX3_fewestHolders_22 rfl rfl ?_
    obtain ⟨hk, hw⟩ := hw
    refine gf_RX3_33 (pc := 23) C dX3_fewestHolders_23 hk ?_
    refine G_iload_n (pc := 26) C 1 dX3_fewestHolders_26 rfl rfl ?_
    obtain ⟨b6, hq, hw⟩ := hw
    rw [hq]
    obtain ⟨hk, hi, hw⟩ := hw
    refine G_iald (pc := 27) C hk hi dX3_fewestHolders_27 ?_
    refine G_iload_n (pc := 28) C 3 dX3_fewestHolders_28 rfl rfl ?_
    refine G_iadd (pc := 29) C dX3_fewestHolders_29 ?_
    obtain ⟨hk, hw⟩ := hw
    refine cl_RX3_117 (pc := 30) C (c_X3_holdersAt l z (v0) (((gI S 0 b6 (v1).toNatClampNeg) + v3)) S _ hw) ⟨Nat.le_of_ble_eq_true rfl, Nat.le_of_ble_eq_true rfl⟩ hk dX3_fewestHolders_30 (Nat.le_of_ble_eq_true rfl) (fun v S' hp => ?_)
    clear hw
    obtain ⟨hS, e7, rfl, hw⟩ := hp
    subst S'
    refine cl_RX3_9 (pc := 33) C (c_J9_min_7cf53 l z (v2) (e7) S _ hw) ⟨Nat.le_of_ble_eq_true rfl, Nat.le_of_ble_eq_true rfl⟩ dX3_fewestHolders_33 (Nat.le_of_ble_eq_true rfl) (fun v S' hp => ?_)
    clear hw
    obtain ⟨hS, e9, rfl, hw⟩ := hp
    subst S'
    refine G_istore_n (pc := 36) C [(2, .int (e9)), (0, .ref (v0)), (1, .int (v1)), (3, .int (v3))] dX3_fewestHolders_36 rfl (by decide) rfl ?_
    obtain ⟨e11, he11⟩ : ∃ y : Int32, y = (v3 + 1) := ⟨_, rfl⟩
    have hw := hw e11 he11
    refine G_iinc (pc := 37) C [(3, .int (e11)), (2, .int (e9)), (0, .ref (v0)), (1, .int (v1))] 3 (v := e11) dX3_fewestHolders_37 rfl (by rw [he11]; rfl) (by decide) rfl ?_
    clear he11
    refine G_goto (pc := 40) C 7 dX3_fewestHolders_40 (by decide) ?_
    exact G_sub [2, 3, 1, 0] rfl (hK7 _ _ hw)
set_option maxHeartbeats 4000000 in
set_option maxRecDepth 100000 in
theorem g_X3_fewestHolders_7 (C : Cx p s m args meth c z cX3_fewestHolders 4 RX3 (some .int) "fewestHolders")  {Q : Int32 → Prop} {v0 : Nat} {v1 : Int32} {v2 : Int32} {v3 : Int32} {S : Hp}   (hw : wp_X3_fewestHolders_7  Q v0 v1 v2 v3 S) : Go p l e { frames := 3, cells := 0, slots := 0, locals := 66 } s m args below meth c z 4 (MQ below (Qx z (pI S Q)) args s 0 0 (own z)) (0) (0) 7 [(0, .ref (v0)), (1, .int (v1)), (2, .int (v2)), (3, .int (v3))] [] (S) :=
  Lp_go (G := fun y : Int32 × Int32 => Go p l e { frames := 3, cells := 0, slots := 0, locals := 66 } s m args below meth c z 4 (MQ below (Qx z (pI S Q)) args s 0 0 (own z)) (0) (0) 7 [(0, .ref (v0)), (1, .int (v1)), (2, .int (y.1)), (3, .int (y.2))] [] (S)) (fun K y hK hB => gb_X3_fewestHolders_7 C  (fun w0 w1 h => hK (w0, w1) h) hB) hw
set_option maxHeartbeats 4000000 in
set_option maxRecDepth 100000 in
theorem c_X3_fewestHolders (l : Launch) (z : Zt) (a0 : Nat) (x1 : Int32) (S : Hp) (Q : Int32 → Prop) (hw : wp_X3_fewestHolders a0 x1 S Q) : Ct l z yX3_fewestHolders cX3_fewestHolders 4 (some .int) 3 66 0 0 [.ref (a0), .int (x1)] S (pI S Q) := by
  refine Ct_of (by decide) (Nat.le_of_ble_eq_true rfl) ?_
  intro p e s m args below meth c C
  have C : Cx p s m args meth c z cX3_fewestHolders 4 RX3 (some .int) "fewestHolders" := C
  refine G_sub (lv' := [(0, .ref (a0)), (1, .int (x1))]) [0, 1] rfl ?_
  refine G_aload_n (pc := 0) C 0 dX3_fewestHolders_0 rfl rfl ?_
  obtain ⟨hk, hw⟩ := hw
  refine gf_RX3_24 (pc := 1) C dX3_fewestHolders_1 hk ?_
  refine G_topi (fun e1 he1 => ?_)
  have hw := hw e1 he1
  clear he1
  refine G_istore_n (pc := 4) C [(2, .int (e1)), (0, .ref (a0)), (1, .int (x1))] dX3_fewestHolders_4 rfl (by decide) rfl ?_
  refine G_iconst (pc := 5) C (v := 0) dX3_fewestHolders_5 (by decide) ?_
  refine G_istore_n (pc := 6) C [(3, .int ((0 : Int32))), (2, .int (e1)), (0, .ref (a0)), (1, .int (x1))] dX3_fewestHolders_6 rfl (by decide) rfl ?_
  exact G_sub [2, 3, 1, 0] rfl (g_X3_fewestHolders_7 C  hw)
/-! FirstParts$Packed.openingSets(I)I -/
abbrev wp_X3_openingSets_33 (K4 : Int32 → Int32 → Prop) (Q : Int32 → Prop) (v0 : Nat) (v1 : Int32) (v2 : Int32) (v3 : Int32) (S : Hp) : Prop :=
  ∀ e5 : Int32, e5 = (v3 + 1) → K4 (v2) (e5)
abbrev wb_X3_openingSets_4  (K4 : Int32 → Int32 → Prop) (Q : Int32 → Prop) (v0 : Nat) (v1 : Int32) (v2 : Int32) (v3 : Int32) (S : Hp) : Prop :=
  kd S v0 = 4 ∧ ((((1 : Int32) <<< ((gI S 53 v0 0) &&& 31)) ≤ v3 → Q v2) ∧ (¬ ((1 : Int32) <<< ((gI S 53 v0 0) &&& 31)) ≤ v3 → wp_J6_bitCount_0f7a4 (v3) S (fun e1 => kd S v0 = 4 ∧ ∃ b3, (gR S 49 v0 0) = some b3 ∧ kd S b3 = 23 ∧ vp_in v1 (ln S b3) ∧ ∃ b4, (gR S 0 b3 (v1).toNatClampNeg) = some b4 ∧ kd S b4 = 6 ∧ ((e1 < (gI S 82 b4 0) → wp_X3_openingSets_33 K4 Q (v0) (v1) (v2) (v3) (S)) ∧ (¬ e1 < (gI S 82 b4 0) → ∀ e6 : Int32, e6 = (v2 + 1) → wp_X3_openingSets_33 K4 Q (v0) (v1) (e6) (v3) (S))))))
abbrev wp_X3_openingSets_4  (Q : Int32 → Prop) (v0 : Nat) (v1 : Int32) (v2 : Int32) (v3 : Int32) (S : Hp) : Prop :=
  Lp (X := Int32 × Int32) (fun K y => wb_X3_openingSets_4  (fun w0 w1 => K (w0, w1)) Q v0 v1 y.1 y.2 S) (v2, v3)
abbrev wp_X3_openingSets (a0 : Nat) (x1 : Int32) (S : Hp) (Q : Int32 → Prop) : Prop :=
  wp_X3_openingSets_4 Q (a0) (x1) ((0 : Int32)) ((0 : Int32)) (S)
set_option maxHeartbeats 4000000 in
set_option maxRecDepth 100000 in
theorem g_X3_openingSets_33 (C : Cx p s m args meth c z cX3_openingSets 4 RX3 (some .int) "openingSets") {K4 : Int32 → Int32 → Prop} {Q : Int32 → Prop} {v0 : Nat} {v1 : Int32} {v2 : Int32} {v3 : Int32} {S : Hp}  (hK4 : ∀ (w2 : Int32) (w3 : Int32), K4 w2 w3 → Go p l e { frames := 1, cells := 0, slots := 0, locals := 20 } s m args below meth c z 4 (MQ below (Qx z (pI S Q)) args s 0 0 (own z)) (0) (0) 4 [(0, .ref (v0)), (1, .int (v1)), (2, .int (w2)), (3, .int (w3))] [] (S)) (hw : wp_X3_openingSets_33 K4 Q v0 v1 v2 v3 S) : Go p l e { frames := 1, cells := 0, slots := 0, locals := 20 } s m args below meth c z 4 (MQ below (Qx z (pI S Q)) args s 0 0 (own z)) (0) (0) 33 [(0, .ref (v0)), (1, .int (v1)), (2, .int (v2)), (3, .int (v3))] [] (S) := by
  obtain ⟨e5, he5⟩ : ∃ y : Int32, y = (v3 + 1) := ⟨_, rfl⟩
  have hw := hw e5 he5
  refine G_iinc (pc := 33) C [(3, .int (e5)), (0, .ref (v0)), (1, .int (v1)), (2, .int (v2))] 3 (v := e5) dX3_openingSets_33 rfl (by rw [he5]; rfl) (by decide) rfl ?_
  clear he5
  refine G_goto (pc := 36) C 4 dX3_openingSets_36 (by decide) ?_
  exact G_sub [1, 2, 3, 0] rfl (hK4 _ _ hw)
set_option maxHeartbeats 4000000 in
set_option maxRecDepth 100000 in
theorem gb_X3_openingSets_4 (C : Cx p s m args meth c z cX3_openingSets 4 RX3 (some .int) "openingSets") {K4 : Int32 → Int32 → Prop} {Q : Int32 → Prop} {v0 : Nat} {v1 : Int32} {v2 : Int32} {v3 : Int32} {S : Hp}  (hK4 : ∀ (w2 : Int32) (w3 : Int32), K4 w2 w3 → Go p l e { frames := 1, cells := 0, slots := 0, locals := 20 } s m args below meth c z 4 (MQ below (Qx z (pI S Q)) args s 0 0 (own z)) (0) (0) 4 [(0, .ref (v0)), (1, .int (v1)), (2, .int (w2)), (3, .int (w3))] [] (S)) (hw : wb_X3_openingSets_4  K4 Q v0 v1 v2 v3 S) : Go p l e { frames := 1, cells := 0, slots := 0, locals := 20 } s m args below meth c z 4 (MQ below (Qx z (pI S Q)) args s 0 0 (own z)) (0) (0) 4 [(0, .ref (v0)), (1, .int (v1)), (2, .int (v2)), (3, .int (v3))] [] (S) := by
  refine G_iload_n (pc := 4) C 3 dX3_openingSets_4 rfl rfl ?_
  refine G_iconst (pc := 5) C (v := 1) dX3_openingSets_5 (by decide) ?_
  refine G_aload_n (pc := 6) C 0 dX3_openingSets_6 rfl rfl ?_
  obtain ⟨hk, hw⟩ := hw
  refine gf_RX3_24 (pc := 7) C dX3_openingSets_7 hk ?_
  refine G_ishl (pc := 10) C dX3_openingSets_10 ?_
  refine G_icmp_ge (pc := 11) C 39 dX3_openingSets_11 (by decide) (fun hc => ?_) (fun hc => ?_)
  · have hw := hw.1 hc
    refine G_iload_n (pc := 39) C 2 dX3_openingSets_39 rfl rfl ?_
    exact G_iret (pc := 40) C rfl dX3_openingSets_40 ⟨rfl, _, rfl, hw⟩
  · have hw := hw.2 hc
    refine G_iload_n (pc := 14) C 3 dX3_openingSets_14 rfl rfl ?_
    refine cl_RX3_121 (pc := 15) C (c_J6_bitCount_0f7a4 l z (v3) S _ hw) ⟨Nat.le_of_ble_eq_true rfl, Nat.le_of_ble_eq_true rfl⟩ dX3_openingSets_15 (Nat.le_of_ble_eq_true rfl) (fun v S' hp => ?_)
    clear hw
    obtain ⟨hS, e1, rfl, hw⟩ := hp
    subst S'
    refine G_aload_n (pc := 18) C 0 dX3_openingSets_18 rfl rfl ?_
    obtain ⟨hk, hw⟩ := hw
    refine gf_RX3_29 (pc := 19) C dX3_openingSets_19 hk ?_
    refine G_iload_n (pc := 22) C 1 dX3_openingSets_22 rfl rfl ?_
    obtain ⟨b3, hq, hw⟩ := hw
    rw [hq]
    obtain ⟨hk, hi, hw⟩ := hw
    refine G_aald (pc := 23) C 3 rfl (by decide) rfl hk hi dX3_openingSets_23 ?_
    obtain ⟨b4, hq, hw⟩ := hw
    rw [hq]
    obtain ⟨hk, hw⟩ := hw
    refine gf_RX3_60 (pc := 24) C dX3_openingSets_24 hk ?_
    refine G_icmp_lt (pc := 27) C 33 dX3_openingSets_27 (by decide) (fun hc => ?_) (fun hc => ?_)
    · have hw := hw.1 hc
      exact G_sub [0, 1, 2, 3] rfl (g_X3_openingSets_33 C hK4 hw)
    · have hw := hw.2 hc
      obtain ⟨e6, he6⟩ : ∃ y : Int32, y = (v2 + 1) := ⟨_, rfl⟩
      have hw := hw e6 he6
      refine G_iinc (pc := 30) C [(2, .int (e6)), (0, .ref (v0)), (1, .int (v1)), (3, .int (v3))] 2 (v := e6) dX3_openingSets_30 rfl (by rw [he6]; rfl) (by decide) rfl ?_
      clear he6
      exact G_sub [1, 2, 0, 3] rfl (g_X3_openingSets_33 C hK4 hw)
set_option maxHeartbeats 4000000 in
set_option maxRecDepth 100000 in
theorem g_X3_openingSets_4 (C : Cx p s m args meth c z cX3_openingSets 4 RX3 (some .int) "openingSets")  {Q : Int32 → Prop} {v0 : Nat} {v1 : Int32} {v2 : Int32} {v3 : Int32} {S : Hp}   (hw : wp_X3_openingSets_4  Q v0 v1 v2 v3 S) : Go p l e { frames := 1, cells := 0, slots := 0, locals := 20 } s m args below meth c z 4 (MQ below (Qx z (pI S Q)) args s 0 0 (own z)) (0) (0) 4 [(0, .ref (v0)), (1, .int (v1)), (2, .int (v2)), (3, .int (v3))] [] (S) :=
  Lp_go (G := fun y : Int32 × Int32 => Go p l e { frames := 1, cells := 0, slots := 0, locals := 20 } s m args below meth c z 4 (MQ below (Qx z (pI S Q)) args s 0 0 (own z)) (0) (0) 4 [(0, .ref (v0)), (1, .int (v1)), (2, .int (y.1)), (3, .int (y.2))] [] (S)) (fun K y hK hB => gb_X3_openingSets_4 C  (fun w0 w1 h => hK (w0, w1) h) hB) hw
set_option maxHeartbeats 4000000 in
set_option maxRecDepth 100000 in
theorem c_X3_openingSets (l : Launch) (z : Zt) (a0 : Nat) (x1 : Int32) (S : Hp) (Q : Int32 → Prop) (hw : wp_X3_openingSets a0 x1 S Q) : Ct l z yX3_openingSets cX3_openingSets 4 (some .int) 1 20 0 0 [.ref (a0), .int (x1)] S (pI S Q) := by
  refine Ct_of (by decide) (Nat.le_of_ble_eq_true rfl) ?_
  intro p e s m args below meth c C
  have C : Cx p s m args meth c z cX3_openingSets 4 RX3 (some .int) "openingSets" := C
  refine G_sub (lv' := [(0, .ref (a0)), (1, .int (x1))]) [0, 1] rfl ?_
  refine G_iconst (pc := 0) C (v := 0) dX3_openingSets_0 (by decide) ?_
  refine G_istore_n (pc := 1) C [(2, .int ((0 : Int32))), (0, .ref (a0)), (1, .int (x1))] dX3_openingSets_1 rfl (by decide) rfl ?_
  refine G_iconst (pc := 2) C (v := 0) dX3_openingSets_2 (by decide) ?_
  refine G_istore_n (pc := 3) C [(3, .int ((0 : Int32))), (2, .int ((0 : Int32))), (0, .ref (a0)), (1, .int (x1))] dX3_openingSets_3 rfl (by decide) rfl ?_
  exact G_sub [2, 3, 1, 0] rfl (g_X3_openingSets_4 C  hw)
/-! FirstParts$Packed.blames(IIILFirstParts$Curve;)Z -/
abbrev wp_X3_blames_78  (Q : Int32 → Hp → Prop) (s0 : Int32) (S : Hp) : Prop :=
  (s0 = 0 ∨ s0 = 1) ∧ Q s0 S
abbrev wp_X3_blames_77  (Q : Int32 → Hp → Prop)  (S : Hp) : Prop :=
  wp_X3_blames_78 Q ((0 : Int32)) (S)
abbrev wp_X3_blames (a0 : Nat) (x1 : Int32) (x2 : Int32) (x3 : Int32) (a4 : Nat) (S : Hp) (Q : Int32 → Hp → Prop) : Prop :=
  kd S a0 = 4 ∧ ∃ b1, (gR S 51 a0 0) = some b1 ∧ kd S b1 = 20 ∧ vp_in x1 (ln S b1) ∧ ∀ e2 : Int32, e2 = ((gI S 0 b1 (x1).toNatClampNeg) + x2) → kd S a0 = 4 ∧ ∃ b3, (gR S 52 a0 0) = some b3 ∧ kd S b3 = 22 ∧ vp_in x3 (ln S b3) ∧ ∃ b4, (gR S 0 b3 (x3).toNatClampNeg) = some b4 ∧ kd S b4 = 5 ∧ wp_X4_holds (b4) (e2) S (fun e5 => ((e5 ≠ 0 → kd S a0 = 4 ∧ wp_X3_gather (a0) (x1) (x2) (a4) S (fun S8 => kd S8 a4 = 2 ∧ wp_X1_hasEnough (a4) S8 (fun e9 => ((e9 = 0 → wp_X3_blames_77 Q (S8)) ∧ (¬ e9 = 0 → kd S8 a4 = 2 ∧ wp_X1_mend (a4) S8 (fun e11 S12 => ((e11 = 0 → wp_X3_blames_77 Q (S12)) ∧ (¬ e11 = 0 → kd S12 a4 = 2 ∧ wp_X1_at (a4) ((x3 + (1 : Int32))) S12 (fun e13 => kd S12 a0 = 4 ∧ ∃ b15, (gR S12 52 a0 0) = some b15 ∧ kd S12 b15 = 22 ∧ vp_in x3 (ln S12 b15) ∧ ∃ b16, (gR S12 0 b15 (x3).toNatClampNeg) = some b16 ∧ kd S12 b16 = 5 ∧ ∃ b17, (gR S12 66 b16 0) = some b17 ∧ kd S12 b17 = 20 ∧ vp_in e2 (ln S12 b17) ∧ ((e13 = (gI S12 0 b17 (e2).toNatClampNeg) → wp_X3_blames_77 Q (S12)) ∧ (¬ e13 = (gI S12 0 b17 (e2).toNatClampNeg) → wp_X3_blames_78 Q ((1 : Int32)) (S12)))))))))))) ∧ (e5 = 0 → Q (0 : Int32) S)))
set_option maxHeartbeats 4000000 in
set_option maxRecDepth 100000 in
theorem g_X3_blames_78 (C : Cx p s m args meth c z cX3_blames 6 RX3 (some .boolean) "blames")  {Q : Int32 → Hp → Prop} {s0 : Int32} {S : Hp}   (hw : wp_X3_blames_78  Q s0 S) : Go p l e { frames := 4, cells := 0, slots := 0, locals := 92 } s m args below meth c z 6 (MQ below (Qx z (wI Q)) args s 0 0 (own z)) (0) (0) 78 [] [.int (s0)] (S) := by
  obtain ⟨hb, hw⟩ := hw
  exact G_zret (pc := 78) C rfl hb dX3_blames_78 ⟨_, rfl, hw⟩
set_option maxHeartbeats 4000000 in
set_option maxRecDepth 100000 in
theorem g_X3_blames_77 (C : Cx p s m args meth c z cX3_blames 6 RX3 (some .boolean) "blames")  {Q : Int32 → Hp → Prop}  {S : Hp}   (hw : wp_X3_blames_77  Q  S) : Go p l e { frames := 4, cells := 0, slots := 0, locals := 92 } s m args below meth c z 6 (MQ below (Qx z (wI Q)) args s 0 0 (own z)) (0) (0) 77 [] [] (S) := by
  refine G_iconst (pc := 77) C (v := 0) dX3_blames_77 (by decide) ?_
  exact G_sub [] rfl (g_X3_blames_78 C  hw)
set_option maxHeartbeats 4000000 in
set_option maxRecDepth 100000 in
theorem c_X3_blames (l : Launch) (z : Zt) (a0 : Nat) (x1 : Int32) (x2 : Int32) (x3 : Int32) (a4 : Nat) (S : Hp) (Q : Int32 → Hp → Prop) (hw : wp_X3_blames a0 x1 x2 x3 a4 S Q) : Ct l z yX3_blames cX3_blames 6 (some .boolean) 4 92 0 0 [.ref (a0), .int (x1), .int (x2), .int (x3), .ref (a4)] S (wI Q) := by
  refine Ct_of (by decide) (Nat.le_of_ble_eq_true rfl) ?_
  intro p e s m args below meth c C
  have C : Cx p s m args meth c z cX3_blames 6 RX3 (some .boolean) "blames" := C
  refine G_sub (lv' := [(0, .ref (a0)), (1, .int (x1)), (2, .int (x2)), (3, .int (x3)), (4, .ref (a4))]) [0, 1, 2, 3, 4] rfl ?_
  refine G_aload_n (pc := 0) C 0 dX3_blames_0 rfl rfl ?_
  obtain ⟨hk, hw⟩ := hw
  refine gf_RX3_33 (pc := 1) C dX3_blames_1 hk ?_
  refine G_iload_n (pc := 4) C 1 dX3_blames_4 rfl rfl ?_
  obtain ⟨b1, hq, hw⟩ := hw
  rw [hq]
  obtain ⟨hk, hi, hw⟩ := hw
  refine G_iald (pc := 5) C hk hi dX3_blames_5 ?_
  refine G_iload_n (pc := 6) C 2 dX3_blames_6 rfl rfl ?_
  refine G_iadd (pc := 7) C dX3_blames_7 ?_
  refine G_topi (fun e2 he2 => ?_)
  have hw := hw e2 he2
  clear he2
  refine G_istore (pc := 8) C [(5, .int (e2)), (0, .ref (a0)), (1, .int (x1)), (2, .int (x2)), (3, .int (x3)), (4, .ref (a4))] dX3_blames_8 (by decide) rfl ?_
  refine G_aload_n (pc := 10) C 1 dX3_blames_10 rfl rfl ?_
  obtain ⟨hk, hw⟩ := hw
  refine gf_RX3_49 (pc := 11) C dX3_blames_11 hk ?_
  refine G_iload_n (pc := 14) C 4 dX3_blames_14 rfl rfl ?_
  obtain ⟨b3, hq, hw⟩ := hw
  rw [hq]
  obtain ⟨hk, hi, hw⟩ := hw
  refine G_aald (pc := 15) C 2 rfl (by decide) rfl hk hi dX3_blames_15 ?_
  refine G_iload (pc := 16) C 0 dX3_blames_16 rfl ?_
  obtain ⟨b4, hq, hw⟩ := hw
  rw [hq]
  obtain ⟨hk, hw⟩ := hw
  refine cl_RX3_86 (pc := 18) C (c_X4_holds l z (b4) (e2) S _ hw) ⟨Nat.le_of_ble_eq_true rfl, Nat.le_of_ble_eq_true rfl⟩ hk dX3_blames_18 (Nat.le_of_ble_eq_true rfl) (fun v S' hp => ?_)
  clear hw
  obtain ⟨hS, e5, rfl, hw⟩ := hp
  subst S'
  refine G_if_ne (pc := 21) C 26 dX3_blames_21 (by decide) (fun hc => ?_) (fun hc => ?_)
  · have hw := hw.1 hc
    refine G_aload_n (pc := 26) C 1 dX3_blames_26 rfl rfl ?_
    refine G_iload_n (pc := 27) C 2 dX3_blames_27 rfl rfl ?_
    refine G_iload_n (pc := 28) C 3 dX3_blames_28 rfl rfl ?_
    refine G_aload (pc := 29) C 5 dX3_blames_29 rfl ?_
    obtain ⟨hk, hw⟩ := hw
    refine cl_RX3_96 (pc := 31) C (c_X3_gather l z (a0) (x1) (x2) (a4) S _ hw) ⟨Nat.le_of_ble_eq_true rfl, Nat.le_of_ble_eq_true rfl⟩ hk dX3_blames_31 (Nat.le_of_ble_eq_true rfl) (fun v S' hp => ?_)
    clear hw
    obtain ⟨rfl, hw⟩ := hp
    generalize S' = S8 at hw ⊢
    refine G_aload (pc := 34) C 5 dX3_blames_34 rfl ?_
    obtain ⟨hk, hw⟩ := hw
    refine cl_RX3_100 (pc := 36) C (c_X1_hasEnough l z (a4) S8 _ hw) ⟨Nat.le_of_ble_eq_true rfl, Nat.le_of_ble_eq_true rfl⟩ hk dX3_blames_36 (Nat.le_of_ble_eq_true rfl) (fun v S' hp => ?_)
    clear hw
    obtain ⟨hS, e9, rfl, hw⟩ := hp
    subst S'
    refine G_if_eq (pc := 39) C 77 dX3_blames_39 (by decide) (fun hc => ?_) (fun hc => ?_)
    · have hw := hw.1 hc
      exact G_sub [] rfl (g_X3_blames_77 C  hw)
    · have hw := hw.2 hc
      refine G_aload (pc := 42) C 5 dX3_blames_42 rfl ?_
      obtain ⟨hk, hw⟩ := hw
      refine cl_RX3_130 (pc := 44) C (c_X1_mend l z (a4) S8 _ hw) ⟨Nat.le_of_ble_eq_true rfl, Nat.le_of_ble_eq_true rfl⟩ hk dX3_blames_44 (Nat.le_of_ble_eq_true rfl) (fun v S' hp => ?_)
      clear hw
      obtain ⟨e11, rfl, hw⟩ := hp
      generalize S' = S12 at hw ⊢
      refine G_if_eq (pc := 47) C 77 dX3_blames_47 (by decide) (fun hc => ?_) (fun hc => ?_)
      · have hw := hw.1 hc
        exact G_sub [] rfl (g_X3_blames_77 C  hw)
      · have hw := hw.2 hc
        refine G_aload (pc := 50) C 5 dX3_blames_50 rfl ?_
        refine G_iload_n (pc := 52) C 4 dX3_blames_52 rfl rfl ?_
        refine G_iconst (pc := 53) C (v := 1) dX3_blames_53 (by decide) ?_
        refine G_iadd (pc := 54) C dX3_blames_54 ?_
        obtain ⟨hk, hw⟩ := hw
        refine cl_RX3_133 (pc := 55) C (c_X1_at l z (a4) ((x3 + (1 : Int32))) S12 _ hw) ⟨Nat.le_of_ble_eq_true rfl, Nat.le_of_ble_eq_true rfl⟩ hk dX3_blames_55 (Nat.le_of_ble_eq_true rfl) (fun v S' hp => ?_)
        clear hw
        obtain ⟨hS, e13, rfl, hw⟩ := hp
        subst S'
        refine G_aload_n (pc := 58) C 1 dX3_blames_58 rfl rfl ?_
        obtain ⟨hk, hw⟩ := hw
        refine gf_RX3_49 (pc := 59) C dX3_blames_59 hk ?_
        refine G_iload_n (pc := 62) C 4 dX3_blames_62 rfl rfl ?_
        obtain ⟨b15, hq, hw⟩ := hw
        rw [hq]
        obtain ⟨hk, hi, hw⟩ := hw
        refine G_aald (pc := 63) C 2 rfl (by decide) rfl hk hi dX3_blames_63 ?_
        obtain ⟨b16, hq, hw⟩ := hw
        rw [hq]
        obtain ⟨hk, hw⟩ := hw
        refine gf_RX3_90 (pc := 64) C dX3_blames_64 hk ?_
        refine G_iload (pc := 67) C 0 dX3_blames_67 rfl ?_
        obtain ⟨b17, hq, hw⟩ := hw
        rw [hq]
        obtain ⟨hk, hi, hw⟩ := hw
        refine G_iald (pc := 69) C hk hi dX3_blames_69 ?_
        refine G_icmp_eq (pc := 70) C 77 dX3_blames_70 (by decide) (fun hc => ?_) (fun hc => ?_)
        · have hw := hw.1 hc
          exact G_sub [] rfl (g_X3_blames_77 C  hw)
        · have hw := hw.2 hc
          refine G_iconst (pc := 73) C (v := 1) dX3_blames_73 (by decide) ?_
          refine G_goto (pc := 74) C 78 dX3_blames_74 (by decide) ?_
          exact G_sub [] rfl (g_X3_blames_78 C  hw)
  · have hw := hw.2 hc
    refine G_iconst (pc := 24) C (v := 0) dX3_blames_24 (by decide) ?_
    exact G_zret (pc := 25) C rfl (by decide) dX3_blames_25 ⟨_, rfl, hw⟩
/-! FirstParts$Packed.timesBlamed(ILFirstParts$Curve;)I -/
abbrev wp_X3_timesBlamed_48 (K5 : Int32 → Int32 → Hp → Prop) (K17 : Int32 → Int32 → Hp → Prop) (Q : Int32 → Hp → Prop) (v0 : Nat) (v1 : Int32) (v2 : Nat) (v3 : Int32) (v4 : Int32) (v5 : Int32) (S : Hp) : Prop :=
  ∀ e8 : Int32, e8 = (v5 + 1) → K17 (v3) (e8) (S)
abbrev wb_X3_timesBlamed_17 (K5 : Int32 → Int32 → Hp → Prop) (K17 : Int32 → Int32 → Hp → Prop) (Q : Int32 → Hp → Prop) (v0 : Nat) (v1 : Int32) (v2 : Nat) (v3 : Int32) (v4 : Int32) (v5 : Int32) (S : Hp) : Prop :=
  kd S v0 = 4 ∧ ∃ b1, (gR S 49 v0 0) = some b1 ∧ kd S b1 = 23 ∧ vp_in v4 (ln S b1) ∧ ∃ b2, (gR S 0 b1 (v4).toNatClampNeg) = some b2 ∧ kd S b2 = 6 ∧ wp_X5_stripes (b2) S (fun e3 => ((e3 ≤ v5 → ∀ e5 : Int32, e5 = (v4 + 1) → K5 (v3) (e5) (S)) ∧ (¬ e3 ≤ v5 → kd S v0 = 4 ∧ wp_X3_blames (v0) (v4) (v5) (v1) (v2) S (fun e6 S7 => ((e6 = 0 → wp_X3_timesBlamed_48 K5 K17 Q (v0) (v1) (v2) (v3) (v4) (v5) (S7)) ∧ (¬ e6 = 0 → ∀ e9 : Int32, e9 = (v3 + 1) → wp_X3_timesBlamed_48 K5 K17 Q (v0) (v1) (v2) (e9) (v4) (v5) (S7)))))))
abbrev wp_X3_timesBlamed_17 (K5 : Int32 → Int32 → Hp → Prop) (Q : Int32 → Hp → Prop) (v0 : Nat) (v1 : Int32) (v2 : Nat) (v3 : Int32) (v4 : Int32) (v5 : Int32) (S : Hp) : Prop :=
  Lp (X := Int32 × Int32 × Hp) (fun K y => wb_X3_timesBlamed_17 K5 (fun w0 w1 w2 => K (w0, w1, w2)) Q v0 v1 v2 y.1 v4 y.2.1 y.2.2) (v3, v5, S)
abbrev wb_X3_timesBlamed_5  (K5 : Int32 → Int32 → Hp → Prop) (Q : Int32 → Hp → Prop) (v0 : Nat) (v1 : Int32) (v2 : Nat) (v3 : Int32) (v4 : Int32) (S : Hp) : Prop :=
  kd S v0 = 4 ∧ (((gI S 50 v0 0) ≤ v4 → Q v3 S) ∧ (¬ (gI S 50 v0 0) ≤ v4 → wp_X3_timesBlamed_17 K5 Q (v0) (v1) (v2) (v3) (v4) ((0 : Int32)) (S)))
abbrev wp_X3_timesBlamed_5  (Q : Int32 → Hp → Prop) (v0 : Nat) (v1 : Int32) (v2 : Nat) (v3 : Int32) (v4 : Int32) (S : Hp) : Prop :=
  Lp (X := Int32 × Int32 × Hp) (fun K y => wb_X3_timesBlamed_5  (fun w0 w1 w2 => K (w0, w1, w2)) Q v0 v1 v2 y.1 y.2.1 y.2.2) (v3, v4, S)
abbrev wp_X3_timesBlamed (a0 : Nat) (x1 : Int32) (a2 : Nat) (S : Hp) (Q : Int32 → Hp → Prop) : Prop :=
  wp_X3_timesBlamed_5 Q (a0) (x1) (a2) ((0 : Int32)) ((0 : Int32)) (S)
set_option maxHeartbeats 4000000 in
set_option maxRecDepth 100000 in
theorem g_X3_timesBlamed_48 (C : Cx p s m args meth c z cX3_timesBlamed 6 RX3 (some .int) "timesBlamed") {K5 : Int32 → Int32 → Hp → Prop} {K17 : Int32 → Int32 → Hp → Prop} {Q : Int32 → Hp → Prop} {v0 : Nat} {v1 : Int32} {v2 : Nat} {v3 : Int32} {v4 : Int32} {v5 : Int32} {S : Hp}  (hK5 : ∀ (w3 : Int32) (w4 : Int32) (S2 : Hp), K5 w3 w4 S2 → Go p l e { frames := 5, cells := 0, slots := 0, locals := 117 } s m args below meth c z 6 (MQ below (Qx z (wI Q)) args s 0 0 (own z)) (0) (0) 5 [(0, .ref (v0)), (1, .int (v1)), (2, .ref (v2)), (3, .int (w3)), (4, .int (w4))] [] (S2)) (hK17 : ∀ (w3 : Int32) (w5 : Int32) (S2 : Hp), K17 w3 w5 S2 → Go p l e { frames := 5, cells := 0, slots := 0, locals := 117 } s m args below meth c z 6 (MQ below (Qx z (wI Q)) args s 0 0 (own z)) (0) (0) 17 [(0, .ref (v0)), (1, .int (v1)), (2, .ref (v2)), (3, .int (w3)), (4, .int (v4)), (5, .int (w5))] [] (S2)) (hw : wp_X3_timesBlamed_48 K5 K17 Q v0 v1 v2 v3 v4 v5 S) : Go p l e { frames := 5, cells := 0, slots := 0, locals := 117 } s m args below meth c z 6 (MQ below (Qx z (wI Q)) args s 0 0 (own z)) (0) (0) 48 [(0, .ref (v0)), (1, .int (v1)), (2, .ref (v2)), (3, .int (v3)), (4, .int (v4)), (5, .int (v5))] [] (S) := by
  obtain ⟨e8, he8⟩ : ∃ y : Int32, y = (v5 + 1) := ⟨_, rfl⟩
  have hw := hw e8 he8
  refine G_iinc (pc := 48) C [(5, .int (e8)), (0, .ref (v0)), (1, .int (v1)), (2, .ref (v2)), (3, .int (v3)), (4, .int (v4))] 5 (v := e8) dX3_timesBlamed_48 rfl (by rw [he8]; rfl) (by decide) rfl ?_
  clear he8
  refine G_goto (pc := 51) C 17 dX3_timesBlamed_51 (by decide) ?_
  exact G_sub [1, 2, 3, 4, 5, 0] rfl (hK17 _ _ _ hw)
set_option maxHeartbeats 4000000 in
set_option maxRecDepth 100000 in
theorem gb_X3_timesBlamed_17 (C : Cx p s m args meth c z cX3_timesBlamed 6 RX3 (some .int) "timesBlamed") {K5 : Int32 → Int32 → Hp → Prop} {K17 : Int32 → Int32 → Hp → Prop} {Q : Int32 → Hp → Prop} {v0 : Nat} {v1 : Int32} {v2 : Nat} {v3 : Int32} {v4 : Int32} {v5 : Int32} {S : Hp}  (hK5 : ∀ (w3 : Int32) (w4 : Int32) (S2 : Hp), K5 w3 w4 S2 → Go p l e { frames := 5, cells := 0, slots := 0, locals := 117 } s m args below meth c z 6 (MQ below (Qx z (wI Q)) args s 0 0 (own z)) (0) (0) 5 [(0, .ref (v0)), (1, .int (v1)), (2, .ref (v2)), (3, .int (w3)), (4, .int (w4))] [] (S2)) (hK17 : ∀ (w3 : Int32) (w5 : Int32) (S2 : Hp), K17 w3 w5 S2 → Go p l e { frames := 5, cells := 0, slots := 0, locals := 117 } s m args below meth c z 6 (MQ below (Qx z (wI Q)) args s 0 0 (own z)) (0) (0) 17 [(0, .ref (v0)), (1, .int (v1)), (2, .ref (v2)), (3, .int (w3)), (4, .int (v4)), (5, .int (w5))] [] (S2)) (hw : wb_X3_timesBlamed_17 K5 K17 Q v0 v1 v2 v3 v4 v5 S) : Go p l e { frames := 5, cells := 0, slots := 0, locals := 117 } s m args below meth c z 6 (MQ below (Qx z (wI Q)) args s 0 0 (own z)) (0) (0) 17 [(0, .ref (v0)), (1, .int (v1)), (2, .ref (v2)), (3, .int (v3)), (4, .int (v4)), (5, .int (v5))] [] (S) := by
  refine G_iload (pc := 17) C 5 dX3_timesBlamed_17 rfl ?_
  refine G_aload_n (pc := 19) C 0 dX3_timesBlamed_19 rfl rfl ?_
  obtain ⟨hk, hw⟩ := hw
  refine gf_RX3_29 (pc := 20) C dX3_timesBlamed_20 hk ?_
  refine G_iload (pc := 23) C 4 dX3_timesBlamed_23 rfl ?_
  obtain ⟨b1, hq, hw⟩ := hw
  rw [hq]
  obtain ⟨hk, hi, hw⟩ := hw
  refine G_aald (pc := 25) C 3 rfl (by decide) rfl hk hi dX3_timesBlamed_25 ?_
  obtain ⟨b2, hq, hw⟩ := hw
  rw [hq]
  obtain ⟨hk, hw⟩ := hw
  refine cl_RX3_63 (pc := 26) C (c_X5_stripes l z (b2) S _ hw) ⟨Nat.le_of_ble_eq_true rfl, Nat.le_of_ble_eq_true rfl⟩ hk dX3_timesBlamed_26 (Nat.le_of_ble_eq_true rfl) (fun v S' hp => ?_)
  clear hw
  obtain ⟨hS, e3, rfl, hw⟩ := hp
  subst S'
  refine G_icmp_ge (pc := 29) C 54 dX3_timesBlamed_29 (by decide) (fun hc => ?_) (fun hc => ?_)
  · have hw := hw.1 hc
    obtain ⟨e5, he5⟩ : ∃ y : Int32, y = (v4 + 1) := ⟨_, rfl⟩
    have hw := hw e5 he5
    refine G_iinc (pc := 54) C [(4, .int (e5)), (0, .ref (v0)), (1, .int (v1)), (2, .ref (v2)), (3, .int (v3)), (5, .int (v5))] 4 (v := e5) dX3_timesBlamed_54 rfl (by rw [he5]; rfl) (by decide) rfl ?_
    clear he5
    refine G_goto (pc := 57) C 5 dX3_timesBlamed_57 (by decide) ?_
    exact G_sub [1, 2, 3, 4, 0] rfl (hK5 _ _ _ hw)
  · have hw := hw.2 hc
    refine G_aload_n (pc := 32) C 0 dX3_timesBlamed_32 rfl rfl ?_
    refine G_iload (pc := 33) C 4 dX3_timesBlamed_33 rfl ?_
    refine G_iload (pc := 35) C 5 dX3_timesBlamed_35 rfl ?_
    refine G_iload_n (pc := 37) C 1 dX3_timesBlamed_37 rfl rfl ?_
    refine G_aload_n (pc := 38) C 2 dX3_timesBlamed_38 rfl rfl ?_
    obtain ⟨hk, hw⟩ := hw
    refine cl_RX3_126 (pc := 39) C (c_X3_blames l z (v0) (v4) (v5) (v1) (v2) S _ hw) ⟨Nat.le_of_ble_eq_true rfl, Nat.le_of_ble_eq_true rfl⟩ hk dX3_timesBlamed_39 (Nat.le_of_ble_eq_true rfl) (fun v S' hp => ?_)
    clear hw
    obtain ⟨e6, rfl, hw⟩ := hp
    generalize S' = S7 at hw ⊢
    refine G_if_eq (pc := 42) C 48 dX3_timesBlamed_42 (by decide) (fun hc => ?_) (fun hc => ?_)
    · have hw := hw.1 hc
      exact G_sub [0, 1, 2, 3, 4, 5] rfl (g_X3_timesBlamed_48 C hK5 hK17 hw)
    · have hw := hw.2 hc
      obtain ⟨e9, he9⟩ : ∃ y : Int32, y = (v3 + 1) := ⟨_, rfl⟩
      have hw := hw e9 he9
      refine G_iinc (pc := 45) C [(3, .int (e9)), (0, .ref (v0)), (1, .int (v1)), (2, .ref (v2)), (4, .int (v4)), (5, .int (v5))] 3 (v := e9) dX3_timesBlamed_45 rfl (by rw [he9]; rfl) (by decide) rfl ?_
      clear he9
      exact G_sub [1, 2, 3, 0, 4, 5] rfl (g_X3_timesBlamed_48 C hK5 hK17 hw)
set_option maxHeartbeats 4000000 in
set_option maxRecDepth 100000 in
theorem g_X3_timesBlamed_17 (C : Cx p s m args meth c z cX3_timesBlamed 6 RX3 (some .int) "timesBlamed") {K5 : Int32 → Int32 → Hp → Prop} {Q : Int32 → Hp → Prop} {v0 : Nat} {v1 : Int32} {v2 : Nat} {v3 : Int32} {v4 : Int32} {v5 : Int32} {S : Hp}  (hK5 : ∀ (w3 : Int32) (w4 : Int32) (S2 : Hp), K5 w3 w4 S2 → Go p l e { frames := 5, cells := 0, slots := 0, locals := 117 } s m args below meth c z 6 (MQ below (Qx z (wI Q)) args s 0 0 (own z)) (0) (0) 5 [(0, .ref (v0)), (1, .int (v1)), (2, .ref (v2)), (3, .int (w3)), (4, .int (w4))] [] (S2)) (hw : wp_X3_timesBlamed_17 K5 Q v0 v1 v2 v3 v4 v5 S) : Go p l e { frames := 5, cells := 0, slots := 0, locals := 117 } s m args below meth c z 6 (MQ below (Qx z (wI Q)) args s 0 0 (own z)) (0) (0) 17 [(0, .ref (v0)), (1, .int (v1)), (2, .ref (v2)), (3, .int (v3)), (4, .int (v4)), (5, .int (v5))] [] (S) :=
  Lp_go (G := fun y : Int32 × Int32 × Hp => Go p l e { frames := 5, cells := 0, slots := 0, locals := 117 } s m args below meth c z 6 (MQ below (Qx z (wI Q)) args s 0 0 (own z)) (0) (0) 17 [(0, .ref (v0)), (1, .int (v1)), (2, .ref (v2)), (3, .int (y.1)), (4, .int (v4)), (5, .int (y.2.1))] [] (y.2.2)) (fun K y hK hB => gb_X3_timesBlamed_17 C hK5 (fun w0 w1 w2 h => hK (w0, w1, w2) h) hB) hw
set_option maxHeartbeats 4000000 in
set_option maxRecDepth 100000 in
theorem gb_X3_timesBlamed_5 (C : Cx p s m args meth c z cX3_timesBlamed 6 RX3 (some .int) "timesBlamed") {K5 : Int32 → Int32 → Hp → Prop} {Q : Int32 → Hp → Prop} {v0 : Nat} {v1 : Int32} {v2 : Nat} {v3 : Int32} {v4 : Int32} {S : Hp}  (hK5 : ∀ (w3 : Int32) (w4 : Int32) (S2 : Hp), K5 w3 w4 S2 → Go p l e { frames := 5, cells := 0, slots := 0, locals := 117 } s m args below meth c z 6 (MQ below (Qx z (wI Q)) args s 0 0 (own z)) (0) (0) 5 [(0, .ref (v0)), (1, .int (v1)), (2, .ref (v2)), (3, .int (w3)), (4, .int (w4))] [] (S2)) (hw : wb_X3_timesBlamed_5  K5 Q v0 v1 v2 v3 v4 S) : Go p l e { frames := 5, cells := 0, slots := 0, locals := 117 } s m args below meth c z 6 (MQ below (Qx z (wI Q)) args s 0 0 (own z)) (0) (0) 5 [(0, .ref (v0)), (1, .int (v1)), (2, .ref (v2)), (3, .int (v3)), (4, .int (v4))] [] (S) := by
  refine G_iload (pc := 5) C 4 dX3_timesBlamed_5 rfl ?_
  refine G_aload_n (pc := 7) C 0 dX3_timesBlamed_7 rfl rfl ?_
  obtain ⟨hk, hw⟩ := hw
  refine gf_RX3_18 (pc := 8) C dX3_timesBlamed_8 hk ?_
  refine G_icmp_ge (pc := 11) C 60 dX3_timesBlamed_11 (by decide) (fun hc => ?_) (fun hc => ?_)
  · have hw := hw.1 hc
    refine G_iload_n (pc := 60) C 3 dX3_timesBlamed_60 rfl rfl ?_
    exact G_iret (pc := 61) C rfl dX3_timesBlamed_61 ⟨_, rfl, hw⟩
  · have hw := hw.2 hc
    refine G_iconst (pc := 14) C (v := 0) dX3_timesBlamed_14 (by decide) ?_
    refine G_istore (pc := 15) C [(5, .int ((0 : Int32))), (0, .ref (v0)), (1, .int (v1)), (2, .ref (v2)), (3, .int (v3)), (4, .int (v4))] dX3_timesBlamed_15 (by decide) rfl ?_
    exact G_sub [1, 2, 3, 4, 5, 0] rfl (g_X3_timesBlamed_17 C hK5 hw)
set_option maxHeartbeats 4000000 in
set_option maxRecDepth 100000 in
theorem g_X3_timesBlamed_5 (C : Cx p s m args meth c z cX3_timesBlamed 6 RX3 (some .int) "timesBlamed")  {Q : Int32 → Hp → Prop} {v0 : Nat} {v1 : Int32} {v2 : Nat} {v3 : Int32} {v4 : Int32} {S : Hp}   (hw : wp_X3_timesBlamed_5  Q v0 v1 v2 v3 v4 S) : Go p l e { frames := 5, cells := 0, slots := 0, locals := 117 } s m args below meth c z 6 (MQ below (Qx z (wI Q)) args s 0 0 (own z)) (0) (0) 5 [(0, .ref (v0)), (1, .int (v1)), (2, .ref (v2)), (3, .int (v3)), (4, .int (v4))] [] (S) :=
  Lp_go (G := fun y : Int32 × Int32 × Hp => Go p l e { frames := 5, cells := 0, slots := 0, locals := 117 } s m args below meth c z 6 (MQ below (Qx z (wI Q)) args s 0 0 (own z)) (0) (0) 5 [(0, .ref (v0)), (1, .int (v1)), (2, .ref (v2)), (3, .int (y.1)), (4, .int (y.2.1))] [] (y.2.2)) (fun K y hK hB => gb_X3_timesBlamed_5 C  (fun w0 w1 w2 h => hK (w0, w1, w2) h) hB) hw
set_option maxHeartbeats 4000000 in
set_option maxRecDepth 100000 in
theorem c_X3_timesBlamed (l : Launch) (z : Zt) (a0 : Nat) (x1 : Int32) (a2 : Nat) (S : Hp) (Q : Int32 → Hp → Prop) (hw : wp_X3_timesBlamed a0 x1 a2 S Q) : Ct l z yX3_timesBlamed cX3_timesBlamed 6 (some .int) 5 117 0 0 [.ref (a0), .int (x1), .ref (a2)] S (wI Q) := by
  refine Ct_of (by decide) (Nat.le_of_ble_eq_true rfl) ?_
  intro p e s m args below meth c C
  have C : Cx p s m args meth c z cX3_timesBlamed 6 RX3 (some .int) "timesBlamed" := C
  refine G_sub (lv' := [(0, .ref (a0)), (1, .int (x1)), (2, .ref (a2))]) [0, 1, 2] rfl ?_
  refine G_iconst (pc := 0) C (v := 0) dX3_timesBlamed_0 (by decide) ?_
  refine G_istore_n (pc := 1) C [(3, .int ((0 : Int32))), (0, .ref (a0)), (1, .int (x1)), (2, .ref (a2))] dX3_timesBlamed_1 rfl (by decide) rfl ?_
  refine G_iconst (pc := 2) C (v := 0) dX3_timesBlamed_2 (by decide) ?_
  refine G_istore (pc := 3) C [(4, .int ((0 : Int32))), (3, .int ((0 : Int32))), (0, .ref (a0)), (1, .int (x1)), (2, .ref (a2))] dX3_timesBlamed_3 (by decide) rfl ?_
  exact G_sub [2, 3, 4, 1, 0] rfl (g_X3_timesBlamed_5 C  hw)
/-! FirstParts$Packed.openedBy(I)I -/
abbrev wp_X3_openedBy_31 (K4 : Int32 → Int32 → Prop) (Q : Int32 → Prop) (v0 : Nat) (v1 : Int32) (v2 : Int32) (v3 : Int32) (S : Hp) : Prop :=
  ∀ e3 : Int32, e3 = (v3 + 1) → K4 (v2) (e3)
abbrev wb_X3_openedBy_4  (K4 : Int32 → Int32 → Prop) (Q : Int32 → Prop) (v0 : Nat) (v1 : Int32) (v2 : Int32) (v3 : Int32) (S : Hp) : Prop :=
  kd S v0 = 4 ∧ (((gI S 50 v0 0) ≤ v3 → Q v2) ∧ (¬ (gI S 50 v0 0) ≤ v3 → kd S v0 = 4 ∧ ∃ b1, (gR S 49 v0 0) = some b1 ∧ kd S b1 = 23 ∧ vp_in v3 (ln S b1) ∧ ∃ b2, (gR S 0 b1 (v3).toNatClampNeg) = some b2 ∧ kd S b2 = 6 ∧ ((v1 < (gI S 82 b2 0) → wp_X3_openedBy_31 K4 Q (v0) (v1) (v2) (v3) (S)) ∧ (¬ v1 < (gI S 82 b2 0) → ∀ e4 : Int32, e4 = (v2 ||| ((1 : Int32) <<< (v3 &&& 31))) → wp_X3_openedBy_31 K4 Q (v0) (v1) (e4) (v3) (S)))))
abbrev wp_X3_openedBy_4  (Q : Int32 → Prop) (v0 : Nat) (v1 : Int32) (v2 : Int32) (v3 : Int32) (S : Hp) : Prop :=
  Lp (X := Int32 × Int32) (fun K y => wb_X3_openedBy_4  (fun w0 w1 => K (w0, w1)) Q v0 v1 y.1 y.2 S) (v2, v3)
abbrev wp_X3_openedBy (a0 : Nat) (x1 : Int32) (S : Hp) (Q : Int32 → Prop) : Prop :=
  wp_X3_openedBy_4 Q (a0) (x1) ((0 : Int32)) ((0 : Int32)) (S)
set_option maxHeartbeats 4000000 in
set_option maxRecDepth 100000 in
theorem g_X3_openedBy_31 (C : Cx p s m args meth c z cX3_openedBy 4 RX3 (some .int) "openedBy") {K4 : Int32 → Int32 → Prop} {Q : Int32 → Prop} {v0 : Nat} {v1 : Int32} {v2 : Int32} {v3 : Int32} {S : Hp}  (hK4 : ∀ (w2 : Int32) (w3 : Int32), K4 w2 w3 → Go p l e { frames := 0, cells := 0, slots := 0, locals := 0 } s m args below meth c z 4 (MQ below (Qx z (pI S Q)) args s 0 0 (own z)) (0) (0) 4 [(0, .ref (v0)), (1, .int (v1)), (2, .int (w2)), (3, .int (w3))] [] (S)) (hw : wp_X3_openedBy_31 K4 Q v0 v1 v2 v3 S) : Go p l e { frames := 0, cells := 0, slots := 0, locals := 0 } s m args below meth c z 4 (MQ below (Qx z (pI S Q)) args s 0 0 (own z)) (0) (0) 31 [(0, .ref (v0)), (1, .int (v1)), (2, .int (v2)), (3, .int (v3))] [] (S) := by
  obtain ⟨e3, he3⟩ : ∃ y : Int32, y = (v3 + 1) := ⟨_, rfl⟩
  have hw := hw e3 he3
  refine G_iinc (pc := 31) C [(3, .int (e3)), (0, .ref (v0)), (1, .int (v1)), (2, .int (v2))] 3 (v := e3) dX3_openedBy_31 rfl (by rw [he3]; rfl) (by decide) rfl ?_
  clear he3
  refine G_goto (pc := 34) C 4 dX3_openedBy_34 (by decide) ?_
  exact G_sub [1, 2, 3, 0] rfl (hK4 _ _ hw)
set_option maxHeartbeats 4000000 in
set_option maxRecDepth 100000 in
theorem gb_X3_openedBy_4 (C : Cx p s m args meth c z cX3_openedBy 4 RX3 (some .int) "openedBy") {K4 : Int32 → Int32 → Prop} {Q : Int32 → Prop} {v0 : Nat} {v1 : Int32} {v2 : Int32} {v3 : Int32} {S : Hp}  (hK4 : ∀ (w2 : Int32) (w3 : Int32), K4 w2 w3 → Go p l e { frames := 0, cells := 0, slots := 0, locals := 0 } s m args below meth c z 4 (MQ below (Qx z (pI S Q)) args s 0 0 (own z)) (0) (0) 4 [(0, .ref (v0)), (1, .int (v1)), (2, .int (w2)), (3, .int (w3))] [] (S)) (hw : wb_X3_openedBy_4  K4 Q v0 v1 v2 v3 S) : Go p l e { frames := 0, cells := 0, slots := 0, locals := 0 } s m args below meth c z 4 (MQ below (Qx z (pI S Q)) args s 0 0 (own z)) (0) (0) 4 [(0, .ref (v0)), (1, .int (v1)), (2, .int (v2)), (3, .int (v3))] [] (S) := by
  refine G_iload_n (pc := 4) C 3 dX3_openedBy_4 rfl rfl ?_
  refine G_aload_n (pc := 5) C 0 dX3_openedBy_5 rfl rfl ?_
  obtain ⟨hk, hw⟩ := hw
  refine gf_RX3_18 (pc := 6) C dX3_openedBy_6 hk ?_
  refine G_icmp_ge (pc := 9) C 37 dX3_openedBy_9 (by decide) (fun hc => ?_) (fun hc => ?_)
  · have hw := hw.1 hc
    refine G_iload_n (pc := 37) C 2 dX3_openedBy_37 rfl rfl ?_
    exact G_iret (pc := 38) C rfl dX3_openedBy_38 ⟨rfl, _, rfl, hw⟩
  · have hw := hw.2 hc
    refine G_aload_n (pc := 12) C 0 dX3_openedBy_12 rfl rfl ?_
    obtain ⟨hk, hw⟩ := hw
    refine gf_RX3_29 (pc := 13) C dX3_openedBy_13 hk ?_
    refine G_iload_n (pc := 16) C 3 dX3_openedBy_16 rfl rfl ?_
    obtain ⟨b1, hq, hw⟩ := hw
    rw [hq]
    obtain ⟨hk, hi, hw⟩ := hw
    refine G_aald (pc := 17) C 3 rfl (by decide) rfl hk hi dX3_openedBy_17 ?_
    obtain ⟨b2, hq, hw⟩ := hw
    rw [hq]
    obtain ⟨hk, hw⟩ := hw
    refine gf_RX3_60 (pc := 18) C dX3_openedBy_18 hk ?_
    refine G_iload_n (pc := 21) C 1 dX3_openedBy_21 rfl rfl ?_
    refine G_icmp_gt (pc := 22) C 31 dX3_openedBy_22 (by decide) (fun hc => ?_) (fun hc => ?_)
    · have hw := hw.1 hc
      exact G_sub [0, 1, 2, 3] rfl (g_X3_openedBy_31 C hK4 hw)
    · have hw := hw.2 hc
      refine G_iload_n (pc := 25) C 2 dX3_openedBy_25 rfl rfl ?_
      refine G_iconst (pc := 26) C (v := 1) dX3_openedBy_26 (by decide) ?_
      refine G_iload_n (pc := 27) C 3 dX3_openedBy_27 rfl rfl ?_
      refine G_ishl (pc := 28) C dX3_openedBy_28 ?_
      refine G_ior (pc := 29) C dX3_openedBy_29 ?_
      refine G_topi (fun e4 he4 => ?_)
      have hw := hw e4 he4
      clear he4
      refine G_istore_n (pc := 30) C [(2, .int (e4)), (0, .ref (v0)), (1, .int (v1)), (3, .int (v3))] dX3_openedBy_30 rfl (by decide) rfl ?_
      exact G_sub [1, 2, 0, 3] rfl (g_X3_openedBy_31 C hK4 hw)
set_option maxHeartbeats 4000000 in
set_option maxRecDepth 100000 in
theorem g_X3_openedBy_4 (C : Cx p s m args meth c z cX3_openedBy 4 RX3 (some .int) "openedBy")  {Q : Int32 → Prop} {v0 : Nat} {v1 : Int32} {v2 : Int32} {v3 : Int32} {S : Hp}   (hw : wp_X3_openedBy_4  Q v0 v1 v2 v3 S) : Go p l e { frames := 0, cells := 0, slots := 0, locals := 0 } s m args below meth c z 4 (MQ below (Qx z (pI S Q)) args s 0 0 (own z)) (0) (0) 4 [(0, .ref (v0)), (1, .int (v1)), (2, .int (v2)), (3, .int (v3))] [] (S) :=
  Lp_go (G := fun y : Int32 × Int32 => Go p l e { frames := 0, cells := 0, slots := 0, locals := 0 } s m args below meth c z 4 (MQ below (Qx z (pI S Q)) args s 0 0 (own z)) (0) (0) 4 [(0, .ref (v0)), (1, .int (v1)), (2, .int (y.1)), (3, .int (y.2))] [] (S)) (fun K y hK hB => gb_X3_openedBy_4 C  (fun w0 w1 h => hK (w0, w1) h) hB) hw
set_option maxHeartbeats 4000000 in
set_option maxRecDepth 100000 in
theorem c_X3_openedBy (l : Launch) (z : Zt) (a0 : Nat) (x1 : Int32) (S : Hp) (Q : Int32 → Prop) (hw : wp_X3_openedBy a0 x1 S Q) : Ct l z yX3_openedBy cX3_openedBy 4 (some .int) 0 0 0 0 [.ref (a0), .int (x1)] S (pI S Q) := by
  refine Ct_of (by decide) (Nat.le_of_ble_eq_true rfl) ?_
  intro p e s m args below meth c C
  have C : Cx p s m args meth c z cX3_openedBy 4 RX3 (some .int) "openedBy" := C
  refine G_sub (lv' := [(0, .ref (a0)), (1, .int (x1))]) [0, 1] rfl ?_
  refine G_iconst (pc := 0) C (v := 0) dX3_openedBy_0 (by decide) ?_
  refine G_istore_n (pc := 1) C [(2, .int ((0 : Int32))), (0, .ref (a0)), (1, .int (x1))] dX3_openedBy_1 rfl (by decide) rfl ?_
  refine G_iconst (pc := 2) C (v := 0) dX3_openedBy_2 (by decide) ?_
  refine G_istore_n (pc := 3) C [(3, .int ((0 : Int32))), (2, .int ((0 : Int32))), (0, .ref (a0)), (1, .int (x1))] dX3_openedBy_3 rfl (by decide) rfl ?_
  exact G_sub [2, 3, 1, 0] rfl (g_X3_openedBy_4 C  hw)
/-! FirstParts$Packed.lostPackets()I -/
abbrev wp_X3_lostPackets_27 (K4 : Int32 → Int32 → Prop) (Q : Int32 → Prop) (v0 : Nat) (v1 : Int32) (v2 : Int32) (S : Hp) : Prop :=
  ∀ e3 : Int32, e3 = (v2 + 1) → K4 (v1) (e3)
abbrev wb_X3_lostPackets_4  (K4 : Int32 → Int32 → Prop) (Q : Int32 → Prop) (v0 : Nat) (v1 : Int32) (v2 : Int32) (S : Hp) : Prop :=
  kd S v0 = 4 ∧ (((gI S 53 v0 0) ≤ v2 → Q v1) ∧ (¬ (gI S 53 v0 0) ≤ v2 → kd S v0 = 4 ∧ ∃ b1, (gR S 52 v0 0) = some b1 ∧ kd S b1 = 22 ∧ vp_in v2 (ln S b1) ∧ ∃ b2, (gR S 0 b1 (v2).toNatClampNeg) = some b2 ∧ kd S b2 = 5 ∧ (((gI S 68 b2 0) = 0 → wp_X3_lostPackets_27 K4 Q (v0) (v1) (v2) (S)) ∧ (¬ (gI S 68 b2 0) = 0 → ∀ e4 : Int32, e4 = (v1 + 1) → wp_X3_lostPackets_27 K4 Q (v0) (e4) (v2) (S)))))
abbrev wp_X3_lostPackets_4  (Q : Int32 → Prop) (v0 : Nat) (v1 : Int32) (v2 : Int32) (S : Hp) : Prop :=
  Lp (X := Int32 × Int32) (fun K y => wb_X3_lostPackets_4  (fun w0 w1 => K (w0, w1)) Q v0 y.1 y.2 S) (v1, v2)
abbrev wp_X3_lostPackets (a0 : Nat) (S : Hp) (Q : Int32 → Prop) : Prop :=
  wp_X3_lostPackets_4 Q (a0) ((0 : Int32)) ((0 : Int32)) (S)
set_option maxHeartbeats 4000000 in
set_option maxRecDepth 100000 in
theorem g_X3_lostPackets_27 (C : Cx p s m args meth c z cX3_lostPackets 3 RX3 (some .int) "lostPackets") {K4 : Int32 → Int32 → Prop} {Q : Int32 → Prop} {v0 : Nat} {v1 : Int32} {v2 : Int32} {S : Hp}  (hK4 : ∀ (w1 : Int32) (w2 : Int32), K4 w1 w2 → Go p l e { frames := 0, cells := 0, slots := 0, locals := 0 } s m args below meth c z 3 (MQ below (Qx z (pI S Q)) args s 0 0 (own z)) (0) (0) 4 [(0, .ref (v0)), (1, .int (w1)), (2, .int (w2))] [] (S)) (hw : wp_X3_lostPackets_27 K4 Q v0 v1 v2 S) : Go p l e { frames := 0, cells := 0, slots := 0, locals := 0 } s m args below meth c z 3 (MQ below (Qx z (pI S Q)) args s 0 0 (own z)) (0) (0) 27 [(0, .ref (v0)), (1, .int (v1)), (2, .int (v2))] [] (S) := by
  obtain ⟨e3, he3⟩ : ∃ y : Int32, y = (v2 + 1) := ⟨_, rfl⟩
  have hw := hw e3 he3
  refine G_iinc (pc := 27) C [(2, .int (e3)), (0, .ref (v0)), (1, .int (v1))] 2 (v := e3) dX3_lostPackets_27 rfl (by rw [he3]; rfl) (by decide) rfl ?_
  clear he3
  refine G_goto (pc := 30) C 4 dX3_lostPackets_30 (by decide) ?_
  exact G_sub [1, 2, 0] rfl (hK4 _ _ hw)
set_option maxHeartbeats 4000000 in
set_option maxRecDepth 100000 in
theorem gb_X3_lostPackets_4 (C : Cx p s m args meth c z cX3_lostPackets 3 RX3 (some .int) "lostPackets") {K4 : Int32 → Int32 → Prop} {Q : Int32 → Prop} {v0 : Nat} {v1 : Int32} {v2 : Int32} {S : Hp}  (hK4 : ∀ (w1 : Int32) (w2 : Int32), K4 w1 w2 → Go p l e { frames := 0, cells := 0, slots := 0, locals := 0 } s m args below meth c z 3 (MQ below (Qx z (pI S Q)) args s 0 0 (own z)) (0) (0) 4 [(0, .ref (v0)), (1, .int (w1)), (2, .int (w2))] [] (S)) (hw : wb_X3_lostPackets_4  K4 Q v0 v1 v2 S) : Go p l e { frames := 0, cells := 0, slots := 0, locals := 0 } s m args below meth c z 3 (MQ below (Qx z (pI S Q)) args s 0 0 (own z)) (0) (0) 4 [(0, .ref (v0)), (1, .int (v1)), (2, .int (v2))] [] (S) := by
  refine G_iload_n (pc := 4) C 2 dX3_lostPackets_4 rfl rfl ?_
  refine G_aload_n (pc := 5) C 0 dX3_lostPackets_5 rfl rfl ?_
  obtain ⟨hk, hw⟩ := hw
  refine gf_RX3_24 (pc := 6) C dX3_lostPackets_6 hk ?_
  refine G_icmp_ge (pc := 9) C 33 dX3_lostPackets_9 (by decide) (fun hc => ?_) (fun hc => ?_)
  · have hw := hw.1 hc
    refine G_iload_n (pc := 33) C 1 dX3_lostPackets_33 rfl rfl ?_
    exact G_iret (pc := 34) C rfl dX3_lostPackets_34 ⟨rfl, _, rfl, hw⟩
  · have hw := hw.2 hc
    refine G_aload_n (pc := 12) C 0 dX3_lostPackets_12 rfl rfl ?_
    obtain ⟨hk, hw⟩ := hw
    refine gf_RX3_49 (pc := 13) C dX3_lostPackets_13 hk ?_
    refine G_iload_n (pc := 16) C 2 dX3_lostPackets_16 rfl rfl ?_
    obtain ⟨b1, hq, hw⟩ := hw
    rw [hq]
    obtain ⟨hk, hi, hw⟩ := hw
    refine G_aald (pc := 17) C 2 rfl (by decide) rfl hk hi dX3_lostPackets_17 ?_
    obtain ⟨b2, hq, hw⟩ := hw
    rw [hq]
    obtain ⟨hk, hw⟩ := hw
    refine gf_RX3_136 (pc := 18) C dX3_lostPackets_18 hk ?_
    refine G_if_eq (pc := 21) C 27 dX3_lostPackets_21 (by decide) (fun hc => ?_) (fun hc => ?_)
    · have hw := hw.1 hc
      exact G_sub [0, 1, 2] rfl (g_X3_lostPackets_27 C hK4 hw)
    · have hw := hw.2 hc
      obtain ⟨e4, he4⟩ : ∃ y : Int32, y = (v1 + 1) := ⟨_, rfl⟩
      have hw := hw e4 he4
      refine G_iinc (pc := 24) C [(1, .int (e4)), (0, .ref (v0)), (2, .int (v2))] 1 (v := e4) dX3_lostPackets_24 rfl (by rw [he4]; rfl) (by decide) rfl ?_
      clear he4
      exact G_sub [1, 0, 2] rfl (g_X3_lostPackets_27 C hK4 hw)
set_option maxHeartbeats 4000000 in
set_option maxRecDepth 100000 in
theorem g_X3_lostPackets_4 (C : Cx p s m args meth c z cX3_lostPackets 3 RX3 (some .int) "lostPackets")  {Q : Int32 → Prop} {v0 : Nat} {v1 : Int32} {v2 : Int32} {S : Hp}   (hw : wp_X3_lostPackets_4  Q v0 v1 v2 S) : Go p l e { frames := 0, cells := 0, slots := 0, locals := 0 } s m args below meth c z 3 (MQ below (Qx z (pI S Q)) args s 0 0 (own z)) (0) (0) 4 [(0, .ref (v0)), (1, .int (v1)), (2, .int (v2))] [] (S) :=
  Lp_go (G := fun y : Int32 × Int32 => Go p l e { frames := 0, cells := 0, slots := 0, locals := 0 } s m args below meth c z 3 (MQ below (Qx z (pI S Q)) args s 0 0 (own z)) (0) (0) 4 [(0, .ref (v0)), (1, .int (y.1)), (2, .int (y.2))] [] (S)) (fun K y hK hB => gb_X3_lostPackets_4 C  (fun w0 w1 h => hK (w0, w1) h) hB) hw
set_option maxHeartbeats 4000000 in
set_option maxRecDepth 100000 in
theorem c_X3_lostPackets (l : Launch) (z : Zt) (a0 : Nat) (S : Hp) (Q : Int32 → Prop) (hw : wp_X3_lostPackets a0 S Q) : Ct l z yX3_lostPackets cX3_lostPackets 3 (some .int) 0 0 0 0 [.ref (a0)] S (pI S Q) := by
  refine Ct_of (by decide) (Nat.le_of_ble_eq_true rfl) ?_
  intro p e s m args below meth c C
  have C : Cx p s m args meth c z cX3_lostPackets 3 RX3 (some .int) "lostPackets" := C
  refine G_sub (lv' := [(0, .ref (a0))]) [0] rfl ?_
  refine G_iconst (pc := 0) C (v := 0) dX3_lostPackets_0 (by decide) ?_
  refine G_istore_n (pc := 1) C [(1, .int ((0 : Int32))), (0, .ref (a0))] dX3_lostPackets_1 rfl (by decide) rfl ?_
  refine G_iconst (pc := 2) C (v := 0) dX3_lostPackets_2 (by decide) ?_
  refine G_istore_n (pc := 3) C [(2, .int ((0 : Int32))), (1, .int ((0 : Int32))), (0, .ref (a0))] dX3_lostPackets_3 rfl (by decide) rfl ?_
  exact G_sub [2, 1, 0] rfl (g_X3_lostPackets_4 C  hw)
end W16packedleantxt
