section W14curveleantxt
variable {p : Program} {l : Launch} {e : Env} {R : Room} {s : State} {m : MethodId} {args : Array Value} {below : List Frame} {meth : Method} {c : Code} {z : Zt} {cc : ByteArray} {nL : Nat} {ow : String} {ret : Option FieldType} {nm : String} {Q : State → Prop} {bc bs pc : Nat} {lv : List (Nat × Value)} {st : List Value} {S : Hp}
theorem oi_RX1_3 : Cond.methodLink RX1 3 Lib.objectInit ∈ gt := gt_t 186 (by decide +kernel) rfl
theorem pf_RX1_9 (C : Cx p s m args meth c z cc nL RX1 ret nm) {a : Nat} {v : Option Nat} (hfn : nm = "<init>") (hd : decode cc pc = .ok (.putfield 9, 3)) (hk : kd S a = 2) (k : Go p l e R s m args below meth c z nL Q bc bs (pc + 3) lv st (sR S 17 a 0 v)) : Go p l e R s m args below meth c z nL Q bc bs pc lv (va_rf v :: .ref a :: st) S := G_putR C 1 0 7 rfl rfl (by decide) in_X1 tyX1 tyX1_ok nmX1 rfl rfl (gt_t 187 (by decide +kernel) rfl) (Or.inr ⟨rfl, hfn, rfl⟩) (fun _ => rfl) rfl (fun _ => rfl) rfl hd hk k
theorem pf_RX1_15 (C : Cx p s m args meth c z cc nL RX1 ret nm) {a : Nat} {v : Option Nat} (hfn : nm = "<init>") (hd : decode cc pc = .ok (.putfield 15, 3)) (hk : kd S a = 2) (k : Go p l e R s m args below meth c z nL Q bc bs (pc + 3) lv st (sR S 18 a 0 v)) : Go p l e R s m args below meth c z nL Q bc bs pc lv (va_rf v :: .ref a :: st) S := G_putR C 1 1 7 rfl rfl (by decide) in_X1 tyX1 tyX1_ok nmX1 rfl rfl (gt_t 188 (by decide +kernel) rfl) (Or.inr ⟨rfl, hfn, rfl⟩) (fun _ => rfl) rfl (fun _ => rfl) rfl hd hk k
theorem pf_RX1_18 (C : Cx p s m args meth c z cc nL RX1 ret nm) {a : Nat} {v : Option Nat} (hfn : nm = "<init>") (hd : decode cc pc = .ok (.putfield 18, 3)) (hk : kd S a = 2) (k : Go p l e R s m args below meth c z nL Q bc bs (pc + 3) lv st (sR S 21 a 0 v)) : Go p l e R s m args below meth c z nL Q bc bs pc lv (va_rf v :: .ref a :: st) S := G_putR C 1 4 7 rfl rfl (by decide) in_X1 tyX1 tyX1_ok nmX1 rfl rfl (gt_t 192 (by decide +kernel) rfl) (Or.inr ⟨rfl, hfn, rfl⟩) (fun _ => rfl) rfl (fun _ => rfl) rfl hd hk k
theorem pf_RX1_21 (C : Cx p s m args meth c z cc nL RX1 ret nm) {a : Nat} {v : Option Nat} (hfn : nm = "<init>") (hd : decode cc pc = .ok (.putfield 21, 3)) (hk : kd S a = 2) (k : Go p l e R s m args below meth c z nL Q bc bs (pc + 3) lv st (sR S 22 a 0 v)) : Go p l e R s m args below meth c z nL Q bc bs pc lv (va_rf v :: .ref a :: st) S := G_putR C 1 5 7 rfl rfl (by decide) in_X1 tyX1 tyX1_ok nmX1 rfl rfl (gt_t 193 (by decide +kernel) rfl) (Or.inr ⟨rfl, hfn, rfl⟩) (fun _ => rfl) rfl (fun _ => rfl) rfl hd hk k
theorem pf_RX1_24 (C : Cx p s m args meth c z cc nL RX1 ret nm) {a : Nat} {v : Option Nat} (hfn : nm = "<init>") (hd : decode cc pc = .ok (.putfield 24, 3)) (hk : kd S a = 2) (k : Go p l e R s m args below meth c z nL Q bc bs (pc + 3) lv st (sR S 23 a 0 v)) : Go p l e R s m args below meth c z nL Q bc bs pc lv (va_rf v :: .ref a :: st) S := G_putR C 1 6 7 rfl rfl (by decide) in_X1 tyX1 tyX1_ok nmX1 rfl rfl (gt_t 194 (by decide +kernel) rfl) (Or.inr ⟨rfl, hfn, rfl⟩) (fun _ => rfl) rfl (fun _ => rfl) rfl hd hk k
theorem cl_RX1_27 (C : Cx p s m args meth c z cc nL RX1 ret nm) {q0 : Int32} {q1 : Int32} {rest : List Value} {post : Option Value → Hp → Prop} (hm : Ct l z yJ9_min_7cf53 cJ9_min_7cf53 2 (some .int) 0 0 0 0 [.int (q0), .int (q1)] S post) (hR : 0 + 1 ≤ R.frames ∧ 8 + (2 + 11) + 0 ≤ R.locals) (hd : decode cc pc = .ok (.invokestatic 27, 3)) (hW : (rest.map fun v => v.category).sum ≤ 8) (k : ∀ (v : Option Value) (S' : Hp), post v S' → Go p l e R s m args below meth c z nL Q bc bs (pc + 3) lv (v.toList ++ rest) S') : Go p l e R s m args below meth c z nL Q bc bs pc lv (.int (q1) :: .int (q0) :: rest) S := G_callS C (gt_t 660 (by decide +kernel) rfl) (gt_t 217 (by decide +kernel) rfl) (gt_t 10 (by decide +kernel) rfl) (gt_t 218 (by decide +kernel) rfl) (dsc_J9_min_7cf53) hm rfl hR rfl hW hd k
theorem dsc_J9_max_7cf53 : dsc yJ9_max_7cf53 2 := ⟨by decide, by decide, by decide +kernel⟩
theorem cl_RX1_33 (C : Cx p s m args meth c z cc nL RX1 ret nm) {q0 : Int32} {q1 : Int32} {rest : List Value} {post : Option Value → Hp → Prop} (hm : Ct l z yJ9_max_7cf53 cJ9_max_7cf53 2 (some .int) 0 0 0 0 [.int (q0), .int (q1)] S post) (hR : 0 + 1 ≤ R.frames ∧ 8 + (2 + 11) + 0 ≤ R.locals) (hd : decode cc pc = .ok (.invokestatic 33, 3)) (hW : (rest.map fun v => v.category).sum ≤ 8) (k : ∀ (v : Option Value) (S' : Hp), post v S' → Go p l e R s m args below meth c z nL Q bc bs (pc + 3) lv (v.toList ++ rest) S') : Go p l e R s m args below meth c z nL Q bc bs pc lv (.int (q1) :: .int (q0) :: rest) S := G_callS C (gt_t 661 (by decide +kernel) rfl) (gt_t 220 (by decide +kernel) rfl) (gt_t 10 (by decide +kernel) rfl) (gt_t 221 (by decide +kernel) rfl) (dsc_J9_max_7cf53) hm rfl hR rfl hW hd k
theorem pf_RX1_36 (C : Cx p s m args meth c z cc nL RX1 ret nm) {a : Nat} {v : Int32} (hd : decode cc pc = .ok (.putfield 36, 3)) (hk : kd S a = 2) (k : Go p l e R s m args below meth c z nL Q bc bs (pc + 3) lv st (sI S 20 a 0 v)) : Go p l e R s m args below meth c z nL Q bc bs pc lv (.int v :: .ref a :: st) S := G_putI C 1 3 7 rfl rfl (by decide) in_X1 tyX1 tyX1_ok nmX1 rfl rfl (gt_t 191 (by decide +kernel) rfl) (Or.inl rfl) rfl rfl hd hk k
theorem pf_RX1_40 (C : Cx p s m args meth c z cc nL RX1 ret nm) {a : Nat} {v : Int32} (hd : decode cc pc = .ok (.putfield 40, 3)) (hk : kd S a = 2) (k : Go p l e R s m args below meth c z nL Q bc bs (pc + 3) lv st (sI S 19 a 0 v)) : Go p l e R s m args below meth c z nL Q bc bs pc lv (.int v :: .ref a :: st) S := G_putI C 1 2 7 rfl rfl (by decide) in_X1 tyX1 tyX1_ok nmX1 rfl rfl (gt_t 189 (by decide +kernel) rfl) (Or.inl rfl) rfl rfl hd hk k
theorem gf_RX1_9 (C : Cx p s m args meth c z cc nL RX1 ret nm) {a : Nat} (hd : decode cc pc = .ok (.getfield 9, 3)) (hk : kd S a = 2) (k : Go p l e R s m args below meth c z nL Q bc bs (pc + 3) lv (va_rf (gR S 17 a 0) :: st) S) : Go p l e R s m args below meth c z nL Q bc bs pc lv (.ref a :: st) S := G_getR C 1 0 7 rfl rfl (by decide) in_X1 rfl rfl (gt_t 187 (by decide +kernel) rfl) hd hk k
theorem gf_RX1_15 (C : Cx p s m args meth c z cc nL RX1 ret nm) {a : Nat} (hd : decode cc pc = .ok (.getfield 15, 3)) (hk : kd S a = 2) (k : Go p l e R s m args below meth c z nL Q bc bs (pc + 3) lv (va_rf (gR S 18 a 0) :: st) S) : Go p l e R s m args below meth c z nL Q bc bs pc lv (.ref a :: st) S := G_getR C 1 1 7 rfl rfl (by decide) in_X1 rfl rfl (gt_t 188 (by decide +kernel) rfl) hd hk k
theorem gf_RX1_40 (C : Cx p s m args meth c z cc nL RX1 ret nm) {a : Nat} (hd : decode cc pc = .ok (.getfield 40, 3)) (hk : kd S a = 2) (k : Go p l e R s m args below meth c z nL Q bc bs (pc + 3) lv (.int (gI S 19 a 0) :: st) S) : Go p l e R s m args below meth c z nL Q bc bs pc lv (.ref a :: st) S := G_getI C 1 2 7 rfl rfl (by decide) in_X1 rfl rfl (gt_t 189 (by decide +kernel) rfl) hd hk k
theorem gf_RX1_36 (C : Cx p s m args meth c z cc nL RX1 ret nm) {a : Nat} (hd : decode cc pc = .ok (.getfield 36, 3)) (hk : kd S a = 2) (k : Go p l e R s m args below meth c z nL Q bc bs (pc + 3) lv (.int (gI S 20 a 0) :: st) S) : Go p l e R s m args below meth c z nL Q bc bs pc lv (.ref a :: st) S := G_getI C 1 3 7 rfl rfl (by decide) in_X1 rfl rfl (gt_t 191 (by decide +kernel) rfl) hd hk k
theorem cl_RX1_74 (C : Cx p s m args meth c z cc nL RX1 ret nm) {q0 : Int32} {q1 : Int32} {rest : List Value} {post : Option Value → Hp → Prop} (hm : Ct l z yJ9_floorMod_7cf53 cJ9_floorMod_7cf53 3 (some .int) 0 0 0 0 [.int (q0), .int (q1)] S post) (hR : 0 + 1 ≤ R.frames ∧ 8 + (3 + 11) + 0 ≤ R.locals) (hd : decode cc pc = .ok (.invokestatic 74, 3)) (hW : (rest.map fun v => v.category).sum ≤ 8) (k : ∀ (v : Option Value) (S' : Hp), post v S' → Go p l e R s m args below meth c z nL Q bc bs (pc + 3) lv (v.toList ++ rest) S') : Go p l e R s m args below meth c z nL Q bc bs pc lv (.int (q1) :: .int (q0) :: rest) S := G_callS C (gt_t 685 (by decide +kernel) rfl) (gt_t 274 (by decide +kernel) rfl) (gt_t 10 (by decide +kernel) rfl) (gt_t 275 (by decide +kernel) rfl) (dsc_J9_floorMod_7cf53) hm rfl hR rfl hW hd k
theorem gf_RX1_18 (C : Cx p s m args meth c z cc nL RX1 ret nm) {a : Nat} (hd : decode cc pc = .ok (.getfield 18, 3)) (hk : kd S a = 2) (k : Go p l e R s m args below meth c z nL Q bc bs (pc + 3) lv (va_rf (gR S 21 a 0) :: st) S) : Go p l e R s m args below meth c z nL Q bc bs pc lv (.ref a :: st) S := G_getR C 1 4 7 rfl rfl (by decide) in_X1 rfl rfl (gt_t 192 (by decide +kernel) rfl) hd hk k
theorem gf_RX1_21 (C : Cx p s m args meth c z cc nL RX1 ret nm) {a : Nat} (hd : decode cc pc = .ok (.getfield 21, 3)) (hk : kd S a = 2) (k : Go p l e R s m args below meth c z nL Q bc bs (pc + 3) lv (va_rf (gR S 22 a 0) :: st) S) : Go p l e R s m args below meth c z nL Q bc bs pc lv (.ref a :: st) S := G_getR C 1 5 7 rfl rfl (by decide) in_X1 rfl rfl (gt_t 193 (by decide +kernel) rfl) hd hk k
theorem iv_RX1_71 : Cond.fieldLink RX1 71 "FirstParts$Curve" "INVERSE" "[I" ∈ gt := gt_t 683 (by decide +kernel) rfl
theorem gf_RX1_24 (C : Cx p s m args meth c z cc nL RX1 ret nm) {a : Nat} (hd : decode cc pc = .ok (.getfield 24, 3)) (hk : kd S a = 2) (k : Go p l e R s m args below meth c z nL Q bc bs (pc + 3) lv (va_rf (gR S 23 a 0) :: st) S) : Go p l e R s m args below meth c z nL Q bc bs pc lv (.ref a :: st) S := G_getR C 1 6 7 rfl rfl (by decide) in_X1 rfl rfl (gt_t 194 (by decide +kernel) rfl) hd hk k
theorem dsc_X1_divideDifferences : dsc yX1_divideDifferences 0 := ⟨by decide, by decide, by decide +kernel⟩
theorem cl_RX1_65 (C : Cx p s m args meth c z cc nL RX1 ret nm) {a : Nat}  {rest : List Value} {post : Option Value → Hp → Prop} (hm : Ct l z yX1_divideDifferences cX1_divideDifferences 4 none 1 22 0 0 [.ref a] S post) (hR : 1 + 1 ≤ R.frames ∧ 8 + (4 + 11) + 22 ≤ R.locals) (hk : kd S a = 2) (hd : decode cc pc = .ok (.invokevirtual 65, 3)) (hW : (rest.map fun v => v.category).sum ≤ 8) (k : ∀ (v : Option Value) (S' : Hp), post v S' → Go p l e R s m args below meth c z nL Q bc bs (pc + 3) lv (v.toList ++ rest) S') : Go p l e R s m args below meth c z nL Q bc bs pc lv (.ref a :: rest) S := G_callV C 1 7 rfl rfl (gt_t 679 (by decide +kernel) rfl) (gt_t 681 (by decide +kernel) rfl) (gt_s 11 (by decide +kernel) rfl) (gt_t 8 (by decide +kernel) rfl) (gt_t 682 (by decide +kernel) rfl) (dsc_X1_divideDifferences) hm rfl hR hk rfl hW hd k
theorem dsc_X1_multiplyOut : dsc yX1_multiplyOut 0 := ⟨by decide, by decide, by decide +kernel⟩
theorem cl_RX1_68 (C : Cx p s m args meth c z cc nL RX1 ret nm) {a : Nat}  {rest : List Value} {post : Option Value → Hp → Prop} (hm : Ct l z yX1_multiplyOut cX1_multiplyOut 3 none 1 22 0 0 [.ref a] S post) (hR : 1 + 1 ≤ R.frames ∧ 8 + (3 + 11) + 22 ≤ R.locals) (hk : kd S a = 2) (hd : decode cc pc = .ok (.invokevirtual 68, 3)) (hW : (rest.map fun v => v.category).sum ≤ 8) (k : ∀ (v : Option Value) (S' : Hp), post v S' → Go p l e R s m args below meth c z nL Q bc bs (pc + 3) lv (v.toList ++ rest) S') : Go p l e R s m args below meth c z nL Q bc bs pc lv (.ref a :: rest) S := G_callV C 1 7 rfl rfl (gt_t 686 (by decide +kernel) rfl) (gt_t 688 (by decide +kernel) rfl) (gt_s 12 (by decide +kernel) rfl) (gt_t 8 (by decide +kernel) rfl) (gt_t 689 (by decide +kernel) rfl) (dsc_X1_multiplyOut) hm rfl hR hk rfl hW hd k
theorem dsc_X1_goThrough : dsc yX1_goThrough 1 := ⟨by decide, by decide, by decide +kernel⟩
theorem cl_RX1_43 (C : Cx p s m args meth c z cc nL RX1 ret nm) {a : Nat} {q0 : Int32} {rest : List Value} {post : Option Value → Hp → Prop} (hm : Ct l z yX1_goThrough cX1_goThrough 4 none 2 45 0 0 [.ref a, .int (q0)] S post) (hR : 2 + 1 ≤ R.frames ∧ 8 + (4 + 11) + 45 ≤ R.locals) (hk : kd S a = 2) (hd : decode cc pc = .ok (.invokevirtual 43, 3)) (hW : (rest.map fun v => v.category).sum ≤ 8) (k : ∀ (v : Option Value) (S' : Hp), post v S' → Go p l e R s m args below meth c z nL Q bc bs (pc + 3) lv (v.toList ++ rest) S') : Go p l e R s m args below meth c z nL Q bc bs pc lv (.int (q0) :: .ref a :: rest) S := G_callV C 1 7 rfl rfl (gt_t 675 (by decide +kernel) rfl) (gt_t 677 (by decide +kernel) rfl) (gt_s 10 (by decide +kernel) rfl) (gt_t 8 (by decide +kernel) rfl) (gt_t 678 (by decide +kernel) rfl) (dsc_X1_goThrough) hm rfl hR hk rfl hW hd k
theorem dsc_X11_valueAt : dsc yX11_valueAt 4 := ⟨by decide, by decide, by decide +kernel⟩
theorem cl_RX1_61 (C : Cx p s m args meth c z cc nL RX1 ret nm) {q0 : Nat} {q1 : Int32} {q2 : Int32} {q3 : Int32} {rest : List Value} {post : Option Value → Hp → Prop} (hm : Ct l z yX11_valueAt cX11_valueAt 7 (some .int) 1 22 0 0 [.ref (q0), .int (q1), .int (q2), .int (q3)] S post) (hR : 1 + 1 ≤ R.frames ∧ 8 + (7 + 11) + 22 ≤ R.locals) (hd : decode cc pc = .ok (.invokestatic 61, 3)) (hW : (rest.map fun v => v.category).sum ≤ 8) (k : ∀ (v : Option Value) (S' : Hp), post v S' → Go p l e R s m args below meth c z nL Q bc bs (pc + 3) lv (v.toList ++ rest) S') : Go p l e R s m args below meth c z nL Q bc bs pc lv (.int (q3) :: .int (q2) :: .int (q1) :: .ref (q0) :: rest) S := G_callN C (by decide) (gt_t 268 (by decide +kernel) rfl) (gt_t 1 (by decide +kernel) rfl) (gt_t 269 (by decide +kernel) rfl) (dsc_X11_valueAt) hm rfl hR rfl hW hd k
theorem dsc_J6_bitCount_0f7a4 : dsc yJ6_bitCount_0f7a4 1 := ⟨by decide, by decide, by decide +kernel⟩
theorem cl_RX1_47 (C : Cx p s m args meth c z cc nL RX1 ret nm) {q0 : Int32} {rest : List Value} {post : Option Value → Hp → Prop} (hm : Ct l z yJ6_bitCount_0f7a4 cJ6_bitCount_0f7a4 1 (some .int) 0 0 0 0 [.int (q0)] S post) (hR : 0 + 1 ≤ R.frames ∧ 8 + (1 + 11) + 0 ≤ R.locals) (hd : decode cc pc = .ok (.invokestatic 47, 3)) (hW : (rest.map fun v => v.category).sum ≤ 8) (k : ∀ (v : Option Value) (S' : Hp), post v S' → Go p l e R s m args below meth c z nL Q bc bs (pc + 3) lv (v.toList ++ rest) S') : Go p l e R s m args below meth c z nL Q bc bs pc lv (.int (q0) :: rest) S := G_callS C (gt_t 741 (by decide +kernel) rfl) (gt_t 708 (by decide +kernel) rfl) (gt_t 20 (by decide +kernel) rfl) (gt_t 709 (by decide +kernel) rfl) (dsc_J6_bitCount_0f7a4) hm rfl hR rfl hW hd k
theorem dsc_X1_agreeing : dsc yX1_agreeing 0 := ⟨by decide, by decide, by decide +kernel⟩
theorem cl_RX1_53 (C : Cx p s m args meth c z cc nL RX1 ret nm) {a : Nat}  {rest : List Value} {post : Option Value → Hp → Prop} (hm : Ct l z yX1_agreeing cX1_agreeing 3 (some .int) 2 48 0 0 [.ref a] S post) (hR : 2 + 1 ≤ R.frames ∧ 8 + (3 + 11) + 48 ≤ R.locals) (hk : kd S a = 2) (hd : decode cc pc = .ok (.invokevirtual 53, 3)) (hW : (rest.map fun v => v.category).sum ≤ 8) (k : ∀ (v : Option Value) (S' : Hp), post v S' → Go p l e R s m args below meth c z nL Q bc bs (pc + 3) lv (v.toList ++ rest) S') : Go p l e R s m args below meth c z nL Q bc bs pc lv (.ref a :: rest) S := G_callV C 1 7 rfl rfl (gt_t 742 (by decide +kernel) rfl) (gt_t 691 (by decide +kernel) rfl) (gt_t 692 (by decide +kernel) rfl) (gt_t 8 (by decide +kernel) rfl) (gt_t 693 (by decide +kernel) rfl) (dsc_X1_agreeing) hm rfl hR hk rfl hW hd k
theorem cl_RX1_57 (C : Cx p s m args meth c z cc nL RX1 ret nm) {q0 : Int32} {q1 : Int32} {q2 : Int32} {rest : List Value} {post : Option Value → Hp → Prop} (hm : Ct l z yX11_within cX11_within 3 (some .boolean) 0 0 0 0 [.int (q0), .int (q1), .int (q2)] S post) (hR : 0 + 1 ≤ R.frames ∧ 8 + (3 + 11) + 0 ≤ R.locals) (hd : decode cc pc = .ok (.invokestatic 57, 3)) (hW : (rest.map fun v => v.category).sum ≤ 8) (k : ∀ (v : Option Value) (S' : Hp), post v S' → Go p l e R s m args below meth c z nL Q bc bs (pc + 3) lv (v.toList ++ rest) S') : Go p l e R s m args below meth c z nL Q bc bs pc lv (.int (q2) :: .int (q1) :: .int (q0) :: rest) S := G_callN C (by decide) (gt_t 271 (by decide +kernel) rfl) (gt_t 1 (by decide +kernel) rfl) (gt_t 272 (by decide +kernel) rfl) (dsc_X11_within) hm rfl hR rfl hW hd k
/-! FirstParts$Curve.<init>()V -/
abbrev wp_X1_init (a0 : Nat) (S : Hp) (Q : Hp → Prop) : Prop :=
  1 ≤ 5 ∧ 8 ≤ 40 ∧ ∀ n1 : Nat, n1 = sz S → ∀ S2 : Hp, S2 = nw S 20 (8) → kd S2 a0 = 2 ∧ ∀ S3 : Hp, S3 = sR S2 17 a0 0 (some n1) → 1 ≤ (5 - 1) ∧ 8 ≤ (40 - 8) ∧ ∀ n4 : Nat, n4 = sz S3 → ∀ S5 : Hp, S5 = nw S3 20 (8) → kd S5 a0 = 2 ∧ ∀ S6 : Hp, S6 = sR S5 18 a0 0 (some n4) → 1 ≤ ((5 - 1) - 1) ∧ 8 ≤ ((40 - 8) - 8) ∧ ∀ n7 : Nat, n7 = sz S6 → ∀ S8 : Hp, S8 = nw S6 20 (8) → kd S8 a0 = 2 ∧ ∀ S9 : Hp, S9 = sR S8 21 a0 0 (some n7) → 1 ≤ (((5 - 1) - 1) - 1) ∧ 8 ≤ (((40 - 8) - 8) - 8) ∧ ∀ n10 : Nat, n10 = sz S9 → ∀ S11 : Hp, S11 = nw S9 20 (8) → kd S11 a0 = 2 ∧ ∀ S12 : Hp, S12 = sR S11 22 a0 0 (some n10) → 1 ≤ ((((5 - 1) - 1) - 1) - 1) ∧ 8 ≤ ((((40 - 8) - 8) - 8) - 8) ∧ ∀ n13 : Nat, n13 = sz S12 → ∀ S14 : Hp, S14 = nw S12 20 (8) → kd S14 a0 = 2 ∧ ∀ S15 : Hp, S15 = sR S14 23 a0 0 (some n13) → Q S15
set_option maxHeartbeats 4000000 in
set_option maxRecDepth 100000 in
theorem c_X1_init (l : Launch) (z : Zt) (a0 : Nat) (S : Hp) (Q : Hp → Prop) (hw : wp_X1_init a0 S Q) : Ct l z yX1_init cX1_init 1 none 1 20 5 40 [.ref (a0)] S (wV Q) := by
  refine Ct_of (by decide) (Nat.le_of_ble_eq_true rfl) ?_
  intro p e s m args below meth c C
  have C : Cx p s m args meth c z cX1_init 1 RX1 none "<init>" := C
  refine G_sub (lv' := [(0, .ref (a0))]) [0] rfl ?_
  refine G_aload_n (pc := 0) C 0 dX1_init_0 rfl rfl ?_
  refine G_objInit (pc := 1) C oi_RX1_3 (by decide) (by decide) dX1_init_1 ?_
  refine G_aload_n (pc := 4) C 0 dX1_init_4 rfl rfl ?_
  refine G_bipush (pc := 5) C (v := 8) dX1_init_5 (by decide) ?_
  obtain ⟨hb1, hb2, hw⟩ := hw
  refine G_less (bc' := (5 - 1) + 1) (bs' := (40 - 8) + 8) (by omega) (by omega) ?_
  refine G_newa (pc := 7) C (n := (8 : Int32)) 8 w_aI (by decide) (by decide) (by decide) dX1_init_7 ?_
  obtain ⟨n1, hn1⟩ : ∃ y : Nat, y = sz S := ⟨_, rfl⟩
  obtain ⟨S2, hS2⟩ : ∃ y : Hp, y = nw S 20 (8) := ⟨_, rfl⟩
  have hw := hw n1 hn1 S2 hS2
  rw [← hn1]
  rw [← hS2]
  clear hn1 hS2
  obtain ⟨hk, hw⟩ := hw
  refine pf_RX1_9 (pc := 9) C rfl (v := some n1) dX1_init_9 hk ?_
  obtain ⟨S3, hS3⟩ : ∃ y : Hp, y = sR S2 17 a0 0 (some n1) := ⟨_, rfl⟩
  have hw := hw S3 hS3
  rw [← hS3]
  clear hS3
  refine G_aload_n (pc := 12) C 0 dX1_init_12 rfl rfl ?_
  refine G_bipush (pc := 13) C (v := 8) dX1_init_13 (by decide) ?_
  obtain ⟨hb1, hb2, hw⟩ := hw
  refine G_less (bc' := ((5 - 1) - 1) + 1) (bs' := ((40 - 8) - 8) + 8) (by omega) (by omega) ?_
  refine G_newa (pc := 15) C (n := (8 : Int32)) 8 w_aI (by decide) (by decide) (by decide) dX1_init_15 ?_
  obtain ⟨n4, hn4⟩ : ∃ y : Nat, y = sz S3 := ⟨_, rfl⟩
  obtain ⟨S5, hS5⟩ : ∃ y : Hp, y = nw S3 20 (8) := ⟨_, rfl⟩
  have hw := hw n4 hn4 S5 hS5
  rw [← hn4]
  rw [← hS5]
  clear hn4 hS5
  obtain ⟨hk, hw⟩ := hw
  refine pf_RX1_15 (pc := 17) C rfl (v := some n4) dX1_init_17 hk ?_
  obtain ⟨S6, hS6⟩ : ∃ y : Hp, y = sR S5 18 a0 0 (some n4) := ⟨_, rfl⟩
  have hw := hw S6 hS6
  rw [← hS6]
  clear hS6
  refine G_aload_n (pc := 20) C 0 dX1_init_20 rfl rfl ?_
  refine G_bipush (pc := 21) C (v := 8) dX1_init_21 (by decide) ?_
  obtain ⟨hb1, hb2, hw⟩ := hw
  refine G_less (bc' := (((5 - 1) - 1) - 1) + 1) (bs' := (((40 - 8) - 8) - 8) + 8) (by omega) (by omega) ?_
  refine G_newa (pc := 23) C (n := (8 : Int32)) 8 w_aI (by decide) (by decide) (by decide) dX1_init_23 ?_
  obtain ⟨n7, hn7⟩ : ∃ y : Nat, y = sz S6 := ⟨_, rfl⟩
  obtain ⟨S8, hS8⟩ : ∃ y : Hp, y = nw S6 20 (8) := ⟨_, rfl⟩
  have hw := hw n7 hn7 S8 hS8
  rw [← hn7]
  rw [← hS8]
  clear hn7 hS8
  obtain ⟨hk, hw⟩ := hw
  refine pf_RX1_18 (pc := 25) C rfl (v := some n7) dX1_init_25 hk ?_
  obtain ⟨S9, hS9⟩ : ∃ y : Hp, y = sR S8 21 a0 0 (some n7) := ⟨_, rfl⟩
  have hw := hw S9 hS9
  rw [← hS9]
  clear hS9
  refine G_aload_n (pc := 28) C 0 dX1_init_28 rfl rfl ?_
  refine G_bipush (pc := 29) C (v := 8) dX1_init_29 (by decide) ?_
  obtain ⟨hb1, hb2, hw⟩ := hw
  refine G_less (bc' := ((((5 - 1) - 1) - 1) - 1) + 1) (bs' := ((((40 - 8) - 8) - 8) - 8) + 8) (by omega) (by omega) ?_
  refine G_newa (pc := 31) C (n := (8 : Int32)) 8 w_aI (by decide) (by decide) (by decide) dX1_init_31 ?_
  obtain ⟨n10, hn10⟩ : ∃ y : Nat, y = sz S9 := ⟨_, rfl⟩
  obtain ⟨S11, hS11⟩ : ∃ y : Hp, y = nw S9 20 (8) := ⟨_, rfl⟩
  have hw := hw n10 hn10 S11 hS11
  rw [← hn10]
  rw [← hS11]
  clear hn10 hS11
  obtain ⟨hk, hw⟩ := hw
  refine pf_RX1_21 (pc := 33) C rfl (v := some n10) dX1_init_33 hk ?_
  obtain ⟨S12, hS12⟩ : ∃ y : Hp, y = sR S11 22 a0 0 (some n10) := ⟨_, rfl⟩
  have hw := hw S12 hS12
  rw [← hS12]
  clear hS12
  refine G_aload_n (pc := 36) C 0 dX1_init_36 rfl rfl ?_
  refine G_bipush (pc := 37) C (v := 8) dX1_init_37 (by decide) ?_
  obtain ⟨hb1, hb2, hw⟩ := hw
  refine G_less (bc' := (((((5 - 1) - 1) - 1) - 1) - 1) + 1) (bs' := (((((40 - 8) - 8) - 8) - 8) - 8) + 8) (by omega) (by omega) ?_
  refine G_newa (pc := 39) C (n := (8 : Int32)) 8 w_aI (by decide) (by decide) (by decide) dX1_init_39 ?_
  obtain ⟨n13, hn13⟩ : ∃ y : Nat, y = sz S12 := ⟨_, rfl⟩
  obtain ⟨S14, hS14⟩ : ∃ y : Hp, y = nw S12 20 (8) := ⟨_, rfl⟩
  have hw := hw n13 hn13 S14 hS14
  rw [← hn13]
  rw [← hS14]
  clear hn13 hS14
  obtain ⟨hk, hw⟩ := hw
  refine pf_RX1_24 (pc := 41) C rfl (v := some n13) dX1_init_41 hk ?_
  obtain ⟨S15, hS15⟩ : ∃ y : Hp, y = sR S14 23 a0 0 (some n13) := ⟨_, rfl⟩
  have hw := hw S15 hS15
  rw [← hS15]
  clear hS15
  exact G_vret (pc := 44) C rfl dX1_init_44 ⟨rfl, hw⟩
/-! FirstParts$Curve.begin(I)V -/
abbrev wp_X1_begin (a0 : Nat) (x1 : Int32) (S : Hp) (Q : Hp → Prop) : Prop :=
  wp_J9_min_7cf53 (x1) ((8 : Int32)) S (fun e1 => wp_J9_max_7cf53 ((1 : Int32)) (e1) S (fun e3 => kd S a0 = 2 ∧ ∀ S5 : Hp, S5 = sI S 20 a0 0 e3 → kd S5 a0 = 2 ∧ ∀ S6 : Hp, S6 = sI S5 19 a0 0 (0 : Int32) → Q S6))
set_option maxHeartbeats 4000000 in
set_option maxRecDepth 100000 in
theorem c_X1_begin (l : Launch) (z : Zt) (a0 : Nat) (x1 : Int32) (S : Hp) (Q : Hp → Prop) (hw : wp_X1_begin a0 x1 S Q) : Ct l z yX1_begin cX1_begin 2 none 1 21 0 0 [.ref (a0), .int (x1)] S (wV Q) := by
  refine Ct_of (by decide) (Nat.le_of_ble_eq_true rfl) ?_
  intro p e s m args below meth c C
  have C : Cx p s m args meth c z cX1_begin 2 RX1 none "begin" := C
  refine G_sub (lv' := [(0, .ref (a0)), (1, .int (x1))]) [0, 1] rfl ?_
  refine G_aload_n (pc := 0) C 0 dX1_begin_0 rfl rfl ?_
  refine G_iconst (pc := 1) C (v := 1) dX1_begin_1 (by decide) ?_
  refine G_iload_n (pc := 2) C 1 dX1_begin_2 rfl rfl ?_
  refine G_bipush (pc := 3) C (v := 8) dX1_begin_3 (by decide) ?_
  refine cl_RX1_27 (pc := 5) C (c_J9_min_7cf53 l z (x1) ((8 : Int32)) S _ hw) ⟨Nat.le_of_ble_eq_true rfl, Nat.le_of_ble_eq_true rfl⟩ dX1_begin_5 (Nat.le_of_ble_eq_true rfl) (fun v S' hp => ?_)
  clear hw
  obtain ⟨hS, e1, rfl, hw⟩ := hp
  subst S'
  refine cl_RX1_33 (pc := 8) C (c_J9_max_7cf53 l z ((1 : Int32)) (e1) S _ hw) ⟨Nat.le_of_ble_eq_true rfl, Nat.le_of_ble_eq_true rfl⟩ dX1_begin_8 (Nat.le_of_ble_eq_true rfl) (fun v S' hp => ?_)
  clear hw
  obtain ⟨hS, e3, rfl, hw⟩ := hp
  subst S'
  obtain ⟨hk, hw⟩ := hw
  refine pf_RX1_36 (pc := 11) C dX1_begin_11 hk ?_
  obtain ⟨S5, hS5⟩ : ∃ y : Hp, y = sI S 20 a0 0 e3 := ⟨_, rfl⟩
  have hw := hw S5 hS5
  rw [← hS5]
  clear hS5
  refine G_aload_n (pc := 14) C 0 dX1_begin_14 rfl rfl ?_
  refine G_iconst (pc := 15) C (v := 0) dX1_begin_15 (by decide) ?_
  obtain ⟨hk, hw⟩ := hw
  refine pf_RX1_40 (pc := 16) C dX1_begin_16 hk ?_
  obtain ⟨S6, hS6⟩ : ∃ y : Hp, y = sI S5 19 a0 0 (0 : Int32) := ⟨_, rfl⟩
  have hw := hw S6 hS6
  rw [← hS6]
  clear hS6
  exact G_vret (pc := 19) C rfl dX1_begin_19 ⟨rfl, hw⟩
/-! FirstParts$Curve.hold(II)V -/
abbrev wp_X1_hold_39  (Q : Hp → Prop)  (S : Hp) : Prop :=
  Q S
abbrev wp_X1_hold (a0 : Nat) (x1 : Int32) (x2 : Int32) (S : Hp) (Q : Hp → Prop) : Prop :=
  kd S a0 = 2 ∧ (((8 : Int32) ≤ (gI S 19 a0 0) → wp_X1_hold_39 Q (S)) ∧ (¬ (8 : Int32) ≤ (gI S 19 a0 0) → kd S a0 = 2 ∧ kd S a0 = 2 ∧ ∃ b1, (gR S 17 a0 0) = some b1 ∧ kd S b1 = 20 ∧ vp_in (gI S 19 a0 0) (ln S b1) ∧ ∀ S2 : Hp, S2 = sI S 0 b1 ((gI S 19 a0 0)).toNatClampNeg x1 → kd S2 a0 = 2 ∧ kd S2 a0 = 2 ∧ ∃ b3, (gR S2 18 a0 0) = some b3 ∧ kd S2 b3 = 20 ∧ vp_in (gI S2 19 a0 0) (ln S2 b3) ∧ ∀ S4 : Hp, S4 = sI S2 0 b3 ((gI S2 19 a0 0)).toNatClampNeg x2 → kd S4 a0 = 2 ∧ kd S4 a0 = 2 ∧ ∀ S5 : Hp, S5 = sI S4 19 a0 0 ((gI S4 19 a0 0) + (1 : Int32)) → wp_X1_hold_39 Q (S5)))
set_option maxHeartbeats 4000000 in
set_option maxRecDepth 100000 in
theorem g_X1_hold_39 (C : Cx p s m args meth c z cX1_hold 3 RX1 none "hold")  {Q : Hp → Prop}  {S : Hp}   (hw : wp_X1_hold_39  Q  S) : Go p l e { frames := 0, cells := 0, slots := 0, locals := 0 } s m args below meth c z 3 (MQ below (Qx z (wV Q)) args s 0 0 (own z)) (0) (0) 39 [] [] (S) := by
  exact G_vret (pc := 39) C rfl dX1_hold_39 ⟨rfl, hw⟩
set_option maxHeartbeats 4000000 in
set_option maxRecDepth 100000 in
theorem c_X1_hold (l : Launch) (z : Zt) (a0 : Nat) (x1 : Int32) (x2 : Int32) (S : Hp) (Q : Hp → Prop) (hw : wp_X1_hold a0 x1 x2 S Q) : Ct l z yX1_hold cX1_hold 3 none 0 0 0 0 [.ref (a0), .int (x1), .int (x2)] S (wV Q) := by
  refine Ct_of (by decide) (Nat.le_of_ble_eq_true rfl) ?_
  intro p e s m args below meth c C
  have C : Cx p s m args meth c z cX1_hold 3 RX1 none "hold" := C
  refine G_sub (lv' := [(0, .ref (a0)), (1, .int (x1)), (2, .int (x2))]) [0, 1, 2] rfl ?_
  refine G_aload_n (pc := 0) C 0 dX1_hold_0 rfl rfl ?_
  obtain ⟨hk, hw⟩ := hw
  refine gf_RX1_40 (pc := 1) C dX1_hold_1 hk ?_
  refine G_bipush (pc := 4) C (v := 8) dX1_hold_4 (by decide) ?_
  refine G_icmp_ge (pc := 6) C 39 dX1_hold_6 (by decide) (fun hc => ?_) (fun hc => ?_)
  · have hw := hw.1 hc
    exact G_sub [] rfl (g_X1_hold_39 C  hw)
  · have hw := hw.2 hc
    refine G_aload_n (pc := 9) C 0 dX1_hold_9 rfl rfl ?_
    obtain ⟨hk, hw⟩ := hw
    refine gf_RX1_9 (pc := 10) C dX1_hold_10 hk ?_
    refine G_aload_n (pc := 13) C 0 dX1_hold_13 rfl rfl ?_
    obtain ⟨hk, hw⟩ := hw
    refine gf_RX1_40 (pc := 14) C dX1_hold_14 hk ?_
    refine G_iload_n (pc := 17) C 1 dX1_hold_17 rfl rfl ?_
    obtain ⟨b1, hq, hw⟩ := hw
    rw [hq]
    obtain ⟨hk, hi, hw⟩ := hw
    refine G_iast (pc := 18) C hk hi dX1_hold_18 ?_
    obtain ⟨S2, hS2⟩ : ∃ y : Hp, y = sI S 0 b1 ((gI S 19 a0 0)).toNatClampNeg x1 := ⟨_, rfl⟩
    have hw := hw S2 hS2
    rw [← hS2]
    clear hS2
    refine G_aload_n (pc := 19) C 0 dX1_hold_19 rfl rfl ?_
    obtain ⟨hk, hw⟩ := hw
    refine gf_RX1_15 (pc := 20) C dX1_hold_20 hk ?_
    refine G_aload_n (pc := 23) C 0 dX1_hold_23 rfl rfl ?_
    obtain ⟨hk, hw⟩ := hw
    refine gf_RX1_40 (pc := 24) C dX1_hold_24 hk ?_
    refine G_iload_n (pc := 27) C 2 dX1_hold_27 rfl rfl ?_
    obtain ⟨b3, hq, hw⟩ := hw
    rw [hq]
    obtain ⟨hk, hi, hw⟩ := hw
    refine G_iast (pc := 28) C hk hi dX1_hold_28 ?_
    obtain ⟨S4, hS4⟩ : ∃ y : Hp, y = sI S2 0 b3 ((gI S2 19 a0 0)).toNatClampNeg x2 := ⟨_, rfl⟩
    have hw := hw S4 hS4
    rw [← hS4]
    clear hS4
    refine G_aload_n (pc := 29) C 0 dX1_hold_29 rfl rfl ?_
    refine G_dup (pc := 30) C dX1_hold_30 rfl ?_
    obtain ⟨hk, hw⟩ := hw
    refine gf_RX1_40 (pc := 31) C dX1_hold_31 hk ?_
    refine G_iconst (pc := 34) C (v := 1) dX1_hold_34 (by decide) ?_
    refine G_iadd (pc := 35) C dX1_hold_35 ?_
    obtain ⟨hk, hw⟩ := hw
    refine pf_RX1_40 (pc := 36) C dX1_hold_36 hk ?_
    obtain ⟨S5, hS5⟩ : ∃ y : Hp, y = sI S4 19 a0 0 ((gI S4 19 a0 0) + (1 : Int32)) := ⟨_, rfl⟩
    have hw := hw S5 hS5
    rw [← hS5]
    clear hS5
    exact G_sub [] rfl (g_X1_hold_39 C  hw)
/-! FirstParts$Curve.hasEnough()Z -/
abbrev wp_X1_hasEnough_16  (Q : Int32 → Prop) (s0 : Int32) (S : Hp) : Prop :=
  (s0 = 0 ∨ s0 = 1) ∧ Q s0
abbrev wp_X1_hasEnough (a0 : Nat) (S : Hp) (Q : Int32 → Prop) : Prop :=
  kd S a0 = 2 ∧ kd S a0 = 2 ∧ (((gI S 19 a0 0) < (gI S 20 a0 0) → wp_X1_hasEnough_16 Q ((0 : Int32)) (S)) ∧ (¬ (gI S 19 a0 0) < (gI S 20 a0 0) → wp_X1_hasEnough_16 Q ((1 : Int32)) (S)))
set_option maxHeartbeats 4000000 in
set_option maxRecDepth 100000 in
theorem g_X1_hasEnough_16 (C : Cx p s m args meth c z cX1_hasEnough 1 RX1 (some .boolean) "hasEnough")  {Q : Int32 → Prop} {s0 : Int32} {S : Hp}   (hw : wp_X1_hasEnough_16  Q s0 S) : Go p l e { frames := 0, cells := 0, slots := 0, locals := 0 } s m args below meth c z 1 (MQ below (Qx z (pI S Q)) args s 0 0 (own z)) (0) (0) 16 [] [.int (s0)] (S) := by
  obtain ⟨hb, hw⟩ := hw
  exact G_zret (pc := 16) C rfl hb dX1_hasEnough_16 ⟨rfl, _, rfl, hw⟩
set_option maxHeartbeats 4000000 in
set_option maxRecDepth 100000 in
theorem c_X1_hasEnough (l : Launch) (z : Zt) (a0 : Nat) (S : Hp) (Q : Int32 → Prop) (hw : wp_X1_hasEnough a0 S Q) : Ct l z yX1_hasEnough cX1_hasEnough 1 (some .boolean) 0 0 0 0 [.ref (a0)] S (pI S Q) := by
  refine Ct_of (by decide) (Nat.le_of_ble_eq_true rfl) ?_
  intro p e s m args below meth c C
  have C : Cx p s m args meth c z cX1_hasEnough 1 RX1 (some .boolean) "hasEnough" := C
  refine G_sub (lv' := [(0, .ref (a0))]) [0] rfl ?_
  refine G_aload_n (pc := 0) C 0 dX1_hasEnough_0 rfl rfl ?_
  obtain ⟨hk, hw⟩ := hw
  refine gf_RX1_40 (pc := 1) C dX1_hasEnough_1 hk ?_
  refine G_aload_n (pc := 4) C 0 dX1_hasEnough_4 rfl rfl ?_
  obtain ⟨hk, hw⟩ := hw
  refine gf_RX1_36 (pc := 5) C dX1_hasEnough_5 hk ?_
  refine G_icmp_lt (pc := 8) C 15 dX1_hasEnough_8 (by decide) (fun hc => ?_) (fun hc => ?_)
  · have hw := hw.1 hc
    refine G_iconst (pc := 15) C (v := 0) dX1_hasEnough_15 (by decide) ?_
    exact G_sub [] rfl (g_X1_hasEnough_16 C  hw)
  · have hw := hw.2 hc
    refine G_iconst (pc := 11) C (v := 1) dX1_hasEnough_11 (by decide) ?_
    refine G_goto (pc := 12) C 16 dX1_hasEnough_12 (by decide) ?_
    exact G_sub [] rfl (g_X1_hasEnough_16 C  hw)
/-! FirstParts$Curve.divideDifferences()V -/
abbrev wb_X1_divideDifferences_17 (K2 : Int32 → Hp → Prop) (K17 : Int32 → Hp → Prop) (Q : Hp → Prop) (v0 : Nat) (v1 : Int32) (v2 : Int32) (S : Hp) : Prop :=
  ((v2 < v1 → ∀ e2 : Int32, e2 = (v1 + 1) → K2 (e2) (S)) ∧ (¬ v2 < v1 → kd S v0 = 2 ∧ ∃ b3, (gR S 21 v0 0) = some b3 ∧ kd S b3 = 20 ∧ vp_in v2 (ln S b3) ∧ kd S v0 = 2 ∧ ∃ b4, (gR S 21 v0 0) = some b4 ∧ kd S b4 = 20 ∧ vp_in (v2 - v1) (ln S b4) ∧ wp_J9_floorMod_7cf53 (((gI S 0 b3 (v2).toNatClampNeg) - (gI S 0 b4 ((v2 - v1)).toNatClampNeg))) ((29 : Int32)) S (fun e5 => vp_in e5 29 ∧ ∀ e7 : Int32, e7 = (invT (e5).toNatClampNeg) → kd S v0 = 2 ∧ kd S v0 = 2 ∧ ∃ b8, (gR S 22 v0 0) = some b8 ∧ kd S b8 = 20 ∧ vp_in v2 (ln S b8) ∧ kd S v0 = 2 ∧ ∃ b9, (gR S 22 v0 0) = some b9 ∧ kd S b9 = 20 ∧ vp_in (v2 - (1 : Int32)) (ln S b9) ∧ wp_J9_floorMod_7cf53 ((((gI S 0 b8 (v2).toNatClampNeg) - (gI S 0 b9 ((v2 - (1 : Int32))).toNatClampNeg)) * e7)) ((29 : Int32)) S (fun e10 => kd S b8 = 20 ∧ vp_in v2 (ln S b8) ∧ ∀ S12 : Hp, S12 = sI S 0 b8 (v2).toNatClampNeg e10 → ∀ e13 : Int32, e13 = (v2 + (-1)) → K17 (e13) (S12)))))
abbrev wp_X1_divideDifferences_17 (K2 : Int32 → Hp → Prop) (Q : Hp → Prop) (v0 : Nat) (v1 : Int32) (v2 : Int32) (S : Hp) : Prop :=
  Lp (X := Int32 × Hp) (fun K y => wb_X1_divideDifferences_17 K2 (fun w0 w1 => K (w0, w1)) Q v0 v1 y.1 y.2) (v2, S)
abbrev wb_X1_divideDifferences_2  (K2 : Int32 → Hp → Prop) (Q : Hp → Prop) (v0 : Nat) (v1 : Int32) (S : Hp) : Prop :=
  kd S v0 = 2 ∧ (((gI S 20 v0 0) ≤ v1 → Q S) ∧ (¬ (gI S 20 v0 0) ≤ v1 → kd S v0 = 2 ∧ ∀ e1 : Int32, e1 = ((gI S 20 v0 0) - (1 : Int32)) → wp_X1_divideDifferences_17 K2 Q (v0) (v1) (e1) (S)))
abbrev wp_X1_divideDifferences_2  (Q : Hp → Prop) (v0 : Nat) (v1 : Int32) (S : Hp) : Prop :=
  Lp (X := Int32 × Hp) (fun K y => wb_X1_divideDifferences_2  (fun w0 w1 => K (w0, w1)) Q v0 y.1 y.2) (v1, S)
abbrev wp_X1_divideDifferences (a0 : Nat) (S : Hp) (Q : Hp → Prop) : Prop :=
  wp_X1_divideDifferences_2 Q (a0) ((1 : Int32)) (S)
set_option maxHeartbeats 4000000 in
set_option maxRecDepth 100000 in
theorem gb_X1_divideDifferences_17 (C : Cx p s m args meth c z cX1_divideDifferences 4 RX1 none "divideDifferences") {K2 : Int32 → Hp → Prop} {K17 : Int32 → Hp → Prop} {Q : Hp → Prop} {v0 : Nat} {v1 : Int32} {v2 : Int32} {S : Hp}  (hK2 : ∀ (w1 : Int32) (S2 : Hp), K2 w1 S2 → Go p l e { frames := 1, cells := 0, slots := 0, locals := 22 } s m args below meth c z 4 (MQ below (Qx z (wV Q)) args s 0 0 (own z)) (0) (0) 2 [(0, .ref (v0)), (1, .int (w1))] [] (S2)) (hK17 : ∀ (w2 : Int32) (S2 : Hp), K17 w2 S2 → Go p l e { frames := 1, cells := 0, slots := 0, locals := 22 } s m args below meth c z 4 (MQ below (Qx z (wV Q)) args s 0 0 (own z)) (0) (0) 17 [(0, .ref (v0)), (1, .int (v1)), (2, .int (w2))] [] (S2)) (hw : wb_X1_divideDifferences_17 K2 K17 Q v0 v1 v2 S) : Go p l e { frames := 1, cells := 0, slots := 0, locals := 22 } s m args below meth c z 4 (MQ below (Qx z (wV Q)) args s 0 0 (own z)) (0) (0) 17 [(0, .ref (v0)), (1, .int (v1)), (2, .int (v2))] [] (S) := by
  refine G_iload_n (pc := 17) C 2 dX1_divideDifferences_17 rfl rfl ?_
  refine G_iload_n (pc := 18) C 1 dX1_divideDifferences_18 rfl rfl ?_
  refine G_icmp_lt (pc := 19) C 81 dX1_divideDifferences_19 (by decide) (fun hc => ?_) (fun hc => ?_)
  · have hw := hw.1 hc
    obtain ⟨e2, he2⟩ : ∃ y : Int32, y = (v1 + 1) := ⟨_, rfl⟩
    have hw := hw e2 he2
    refine G_iinc (pc := 81) C [(1, .int (e2)), (0, .ref (v0)), (2, .int (v2))] 1 (v := e2) dX1_divideDifferences_81 rfl (by rw [he2]; rfl) (by decide) rfl ?_
    clear he2
    refine G_goto (pc := 84) C 2 dX1_divideDifferences_84 (by decide) ?_
    exact G_sub [1, 0] rfl (hK2 _ _ hw)
  · have hw := hw.2 hc
    refine G_inv (pc := 22) C iv_RX1_71 dX1_divideDifferences_22 ?_
    refine G_aload_n (pc := 25) C 0 dX1_divideDifferences_25 rfl rfl ?_
    obtain ⟨hk, hw⟩ := hw
    refine gf_RX1_18 (pc := 26) C dX1_divideDifferences_26 hk ?_
    refine G_iload_n (pc := 29) C 2 dX1_divideDifferences_29 rfl rfl ?_
    obtain ⟨b3, hq, hw⟩ := hw
    rw [hq]
    obtain ⟨hk, hi, hw⟩ := hw
    refine G_iald (pc := 30) C hk hi dX1_divideDifferences_30 ?_
    refine G_aload_n (pc := 31) C 0 dX1_divideDifferences_31 rfl rfl ?_
    obtain ⟨hk, hw⟩ := hw
    refine gf_RX1_18 (pc := 32) C dX1_divideDifferences_32 hk ?_
    refine G_iload_n (pc := 35) C 2 dX1_divideDifferences_35 rfl rfl ?_
    refine G_iload_n (pc := 36) C 1 dX1_divideDifferences_36 rfl rfl ?_
    refine G_isub (pc := 37) C dX1_divideDifferences_37 ?_
    obtain ⟨b4, hq, hw⟩ := hw
    rw [hq]
    obtain ⟨hk, hi, hw⟩ := hw
    refine G_iald (pc := 38) C hk hi dX1_divideDifferences_38 ?_
    refine G_isub (pc := 39) C dX1_divideDifferences_39 ?_
    refine G_bipush (pc := 40) C (v := 29) dX1_divideDifferences_40 (by decide) ?_
    refine cl_RX1_74 (pc := 42) C (c_J9_floorMod_7cf53 l z (((gI S 0 b3 (v2).toNatClampNeg) - (gI S 0 b4 ((v2 - v1)).toNatClampNeg))) ((29 : Int32)) S _ hw) ⟨Nat.le_of_ble_eq_true rfl, Nat.le_of_ble_eq_true rfl⟩ dX1_divideDifferences_42 (Nat.le_of_ble_eq_true rfl) (fun v S' hp => ?_)
    clear hw
    obtain ⟨hS, e5, rfl, hw⟩ := hp
    subst S'
    obtain ⟨hi, hw⟩ := hw
    refine G_invld (pc := 45) C hi dX1_divideDifferences_45 ?_
    refine G_topi (fun e7 he7 => ?_)
    have hw := hw e7 he7
    clear he7
    refine G_istore_n (pc := 46) C [(3, .int (e7)), (0, .ref (v0)), (1, .int (v1)), (2, .int (v2))] dX1_divideDifferences_46 rfl (by decide) rfl ?_
    refine G_aload_n (pc := 47) C 1 dX1_divideDifferences_47 rfl rfl ?_
    obtain ⟨hk, hw⟩ := hw
    refine gf_RX1_21 (pc := 48) C dX1_divideDifferences_48 hk ?_
    refine G_iload_n (pc := 51) C 3 dX1_divideDifferences_51 rfl rfl ?_
    refine G_aload_n (pc := 52) C 1 dX1_divideDifferences_52 rfl rfl ?_
    obtain ⟨hk, hw⟩ := hw
    refine gf_RX1_21 (pc := 53) C dX1_divideDifferences_53 hk ?_
    refine G_iload_n (pc := 56) C 3 dX1_divideDifferences_56 rfl rfl ?_
    obtain ⟨b8, hq, hw⟩ := hw
    rw [hq]
    obtain ⟨hk, hi, hw⟩ := hw
    refine G_iald (pc := 57) C hk hi dX1_divideDifferences_57 ?_
    refine G_aload_n (pc := 58) C 1 dX1_divideDifferences_58 rfl rfl ?_
    obtain ⟨hk, hw⟩ := hw
    refine gf_RX1_21 (pc := 59) C dX1_divideDifferences_59 hk ?_
    refine G_iload_n (pc := 62) C 3 dX1_divideDifferences_62 rfl rfl ?_
    refine G_iconst (pc := 63) C (v := 1) dX1_divideDifferences_63 (by decide) ?_
    refine G_isub (pc := 64) C dX1_divideDifferences_64 ?_
    obtain ⟨b9, hq, hw⟩ := hw
    rw [hq]
    obtain ⟨hk, hi, hw⟩ := hw
    refine G_iald (pc := 65) C hk hi dX1_divideDifferences_65 ?_
    refine G_isub (pc := 66) C dX1_divideDifferences_66 ?_
    refine G_iload_n (pc := 67) C 0 dX1_divideDifferences_67 rfl rfl ?_
    refine G_imul (pc := 68) C dX1_divideDifferences_68 ?_
    refine G_bipush (pc := 69) C (v := 29) dX1_divideDifferences_69 (by decide) ?_
    refine cl_RX1_74 (pc := 71) C (c_J9_floorMod_7cf53 l z ((((gI S 0 b8 (v2).toNatClampNeg) - (gI S 0 b9 ((v2 - (1 : Int32))).toNatClampNeg)) * e7)) ((29 : Int32)) S _ hw) ⟨Nat.le_of_ble_eq_true rfl, Nat.le_of_ble_eq_true rfl⟩ dX1_divideDifferences_71 (Nat.le_of_ble_eq_true rfl) (fun v S' hp => ?_)
    clear hw
    obtain ⟨hS, e10, rfl, hw⟩ := hp
    subst S'
    obtain ⟨hk, hi, hw⟩ := hw
    refine G_iast (pc := 74) C hk hi dX1_divideDifferences_74 ?_
    obtain ⟨S12, hS12⟩ : ∃ y : Hp, y = sI S 0 b8 (v2).toNatClampNeg e10 := ⟨_, rfl⟩
    have hw := hw S12 hS12
    rw [← hS12]
    clear hS12
    obtain ⟨e13, he13⟩ : ∃ y : Int32, y = (v2 + (-1)) := ⟨_, rfl⟩
    have hw := hw e13 he13
    refine G_iinc (pc := 75) C [(2, .int (e13)), (3, .int (e7)), (0, .ref (v0)), (1, .int (v1))] 3 (v := e13) dX1_divideDifferences_75 rfl (by rw [he13]; rfl) (by decide) rfl ?_
    clear he13
    refine G_goto (pc := 78) C 17 dX1_divideDifferences_78 (by decide) ?_
    exact G_sub [2, 3, 0] rfl (hK17 _ _ hw)
set_option maxHeartbeats 4000000 in
set_option maxRecDepth 100000 in
theorem g_X1_divideDifferences_17 (C : Cx p s m args meth c z cX1_divideDifferences 4 RX1 none "divideDifferences") {K2 : Int32 → Hp → Prop} {Q : Hp → Prop} {v0 : Nat} {v1 : Int32} {v2 : Int32} {S : Hp}  (hK2 : ∀ (w1 : Int32) (S2 : Hp), K2 w1 S2 → Go p l e { frames := 1, cells := 0, slots := 0, locals := 22 } s m args below meth c z 4 (MQ below (Qx z (wV Q)) args s 0 0 (own z)) (0) (0) 2 [(0, .ref (v0)), (1, .int (w1))] [] (S2)) (hw : wp_X1_divideDifferences_17 K2 Q v0 v1 v2 S) : Go p l e { frames := 1, cells := 0, slots := 0, locals := 22 } s m args below meth c z 4 (MQ below (Qx z (wV Q)) args s 0 0 (own z)) (0) (0) 17 [(0, .ref (v0)), (1, .int (v1)), (2, .int (v2))] [] (S) :=
  Lp_go (G := fun y : Int32 × Hp => Go p l e { frames := 1, cells := 0, slots := 0, locals := 22 } s m args below meth c z 4 (MQ below (Qx z (wV Q)) args s 0 0 (own z)) (0) (0) 17 [(0, .ref (v0)), (1, .int (v1)), (2, .int (y.1))] [] (y.2)) (fun K y hK hB => gb_X1_divideDifferences_17 C hK2 (fun w0 w1 h => hK (w0, w1) h) hB) hw
set_option maxHeartbeats 4000000 in
set_option maxRecDepth 100000 in
theorem gb_X1_divideDifferences_2 (C : Cx p s m args meth c z cX1_divideDifferences 4 RX1 none "divideDifferences") {K2 : Int32 → Hp → Prop} {Q : Hp → Prop} {v0 : Nat} {v1 : Int32} {S : Hp}  (hK2 : ∀ (w1 : Int32) (S2 : Hp), K2 w1 S2 → Go p l e { frames := 1, cells := 0, slots := 0, locals := 22 } s m args below meth c z 4 (MQ below (Qx z (wV Q)) args s 0 0 (own z)) (0) (0) 2 [(0, .ref (v0)), (1, .int (w1))] [] (S2)) (hw : wb_X1_divideDifferences_2  K2 Q v0 v1 S) : Go p l e { frames := 1, cells := 0, slots := 0, locals := 22 } s m args below meth c z 4 (MQ below (Qx z (wV Q)) args s 0 0 (own z)) (0) (0) 2 [(0, .ref (v0)), (1, .int (v1))] [] (S) := by
  refine G_iload_n (pc := 2) C 1 dX1_divideDifferences_2 rfl rfl ?_
  refine G_aload_n (pc := 3) C 0 dX1_divideDifferences_3 rfl rfl ?_
  obtain ⟨hk, hw⟩ := hw
  refine gf_RX1_36 (pc := 4) C dX1_divideDifferences_4 hk ?_
  refine G_icmp_ge (pc := 7) C 87 dX1_divideDifferences_7 (by decide) (fun hc => ?_) (fun hc => ?_)
  · have hw := hw.1 hc
    exact G_vret (pc := 87) C rfl dX1_divideDifferences_87 ⟨rfl, hw⟩
  · have hw := hw.2 hc
    refine G_aload_n (pc := 10) C 0 dX1_divideDifferences_10 rfl rfl ?_
    obtain ⟨hk, hw⟩ := hw
    refine gf_RX1_36 (pc := 11) C dX1_divideDifferences_11 hk ?_
    refine G_iconst (pc := 14) C (v := 1) dX1_divideDifferences_14 (by decide) ?_
    refine G_isub (pc := 15) C dX1_divideDifferences_15 ?_
    refine G_topi (fun e1 he1 => ?_)
    have hw := hw e1 he1
    clear he1
    refine G_istore_n (pc := 16) C [(2, .int (e1)), (0, .ref (v0)), (1, .int (v1))] dX1_divideDifferences_16 rfl (by decide) rfl ?_
    exact G_sub [1, 2, 0] rfl (g_X1_divideDifferences_17 C hK2 hw)
set_option maxHeartbeats 4000000 in
set_option maxRecDepth 100000 in
theorem g_X1_divideDifferences_2 (C : Cx p s m args meth c z cX1_divideDifferences 4 RX1 none "divideDifferences")  {Q : Hp → Prop} {v0 : Nat} {v1 : Int32} {S : Hp}   (hw : wp_X1_divideDifferences_2  Q v0 v1 S) : Go p l e { frames := 1, cells := 0, slots := 0, locals := 22 } s m args below meth c z 4 (MQ below (Qx z (wV Q)) args s 0 0 (own z)) (0) (0) 2 [(0, .ref (v0)), (1, .int (v1))] [] (S) :=
  Lp_go (G := fun y : Int32 × Hp => Go p l e { frames := 1, cells := 0, slots := 0, locals := 22 } s m args below meth c z 4 (MQ below (Qx z (wV Q)) args s 0 0 (own z)) (0) (0) 2 [(0, .ref (v0)), (1, .int (y.1))] [] (y.2)) (fun K y hK hB => gb_X1_divideDifferences_2 C  (fun w0 w1 h => hK (w0, w1) h) hB) hw
set_option maxHeartbeats 4000000 in
set_option maxRecDepth 100000 in
theorem c_X1_divideDifferences (l : Launch) (z : Zt) (a0 : Nat) (S : Hp) (Q : Hp → Prop) (hw : wp_X1_divideDifferences a0 S Q) : Ct l z yX1_divideDifferences cX1_divideDifferences 4 none 1 22 0 0 [.ref (a0)] S (wV Q) := by
  refine Ct_of (by decide) (Nat.le_of_ble_eq_true rfl) ?_
  intro p e s m args below meth c C
  have C : Cx p s m args meth c z cX1_divideDifferences 4 RX1 none "divideDifferences" := C
  refine G_sub (lv' := [(0, .ref (a0))]) [0] rfl ?_
  refine G_iconst (pc := 0) C (v := 1) dX1_divideDifferences_0 (by decide) ?_
  refine G_istore_n (pc := 1) C [(1, .int ((1 : Int32))), (0, .ref (a0))] dX1_divideDifferences_1 rfl (by decide) rfl ?_
  exact G_sub [1, 0] rfl (g_X1_divideDifferences_2 C  hw)
/-! FirstParts$Curve.multiplyOut()V -/
abbrev wb_X1_multiplyOut_41 (K30 : Int32 → Hp → Prop) (K41 : Int32 → Hp → Prop) (Q : Hp → Prop) (v0 : Nat) (v1 : Int32) (v2 : Int32) (S : Hp) : Prop :=
  ((v2 < (1 : Int32) → kd S v0 = 2 ∧ kd S v0 = 2 ∧ ∃ b3, (gR S 22 v0 0) = some b3 ∧ kd S b3 = 20 ∧ vp_in v1 (ln S b3) ∧ kd S v0 = 2 ∧ ∃ b4, (gR S 21 v0 0) = some b4 ∧ kd S b4 = 20 ∧ vp_in v1 (ln S b4) ∧ kd S v0 = 2 ∧ ∃ b5, (gR S 23 v0 0) = some b5 ∧ kd S b5 = 20 ∧ vp_in (0 : Int32) (ln S b5) ∧ wp_J9_floorMod_7cf53 (((gI S 0 b3 (v1).toNatClampNeg) - ((gI S 0 b4 (v1).toNatClampNeg) * (gI S 0 b5 ((0 : Int32)).toNatClampNeg)))) ((29 : Int32)) S (fun e6 => kd S b5 = 20 ∧ vp_in (0 : Int32) (ln S b5) ∧ ∀ S8 : Hp, S8 = sI S 0 b5 ((0 : Int32)).toNatClampNeg e6 → ∀ e9 : Int32, e9 = (v1 + (-1)) → K30 (e9) (S8))) ∧ (¬ v2 < (1 : Int32) → kd S v0 = 2 ∧ kd S v0 = 2 ∧ ∃ b10, (gR S 23 v0 0) = some b10 ∧ kd S b10 = 20 ∧ vp_in (v2 - (1 : Int32)) (ln S b10) ∧ kd S v0 = 2 ∧ ∃ b11, (gR S 21 v0 0) = some b11 ∧ kd S b11 = 20 ∧ vp_in v1 (ln S b11) ∧ kd S v0 = 2 ∧ ∃ b12, (gR S 23 v0 0) = some b12 ∧ kd S b12 = 20 ∧ vp_in v2 (ln S b12) ∧ wp_J9_floorMod_7cf53 (((gI S 0 b10 ((v2 - (1 : Int32))).toNatClampNeg) - ((gI S 0 b11 (v1).toNatClampNeg) * (gI S 0 b12 (v2).toNatClampNeg)))) ((29 : Int32)) S (fun e13 => kd S b10 = 20 ∧ vp_in v2 (ln S b10) ∧ ∀ S15 : Hp, S15 = sI S 0 b10 (v2).toNatClampNeg e13 → ∀ e16 : Int32, e16 = (v2 + (-1)) → K41 (e16) (S15))))
abbrev wp_X1_multiplyOut_41 (K30 : Int32 → Hp → Prop) (Q : Hp → Prop) (v0 : Nat) (v1 : Int32) (v2 : Int32) (S : Hp) : Prop :=
  Lp (X := Int32 × Hp) (fun K y => wb_X1_multiplyOut_41 K30 (fun w0 w1 => K (w0, w1)) Q v0 v1 y.1 y.2) (v2, S)
abbrev wb_X1_multiplyOut_30  (K30 : Int32 → Hp → Prop) (Q : Hp → Prop) (v0 : Nat) (v1 : Int32) (S : Hp) : Prop :=
  ((v1 < 0 → Q S) ∧ (¬ v1 < 0 → kd S v0 = 2 ∧ ∀ e2 : Int32, e2 = ((gI S 20 v0 0) - (1 : Int32)) → wp_X1_multiplyOut_41 K30 Q (v0) (v1) (e2) (S)))
abbrev wp_X1_multiplyOut_30  (Q : Hp → Prop) (v0 : Nat) (v1 : Int32) (S : Hp) : Prop :=
  Lp (X := Int32 × Hp) (fun K y => wb_X1_multiplyOut_30  (fun w0 w1 => K (w0, w1)) Q v0 y.1 y.2) (v1, S)
abbrev wb_X1_multiplyOut_2  (K2 : Int32 → Hp → Prop) (Q : Hp → Prop) (v0 : Nat) (v1 : Int32) (S : Hp) : Prop :=
  kd S v0 = 2 ∧ (((gI S 20 v0 0) ≤ v1 → kd S v0 = 2 ∧ ∀ e1 : Int32, e1 = ((gI S 20 v0 0) - (1 : Int32)) → wp_X1_multiplyOut_30 Q (v0) (e1) (S)) ∧ (¬ (gI S 20 v0 0) ≤ v1 → kd S v0 = 2 ∧ ∃ b17, (gR S 23 v0 0) = some b17 ∧ kd S b17 = 20 ∧ vp_in v1 (ln S b17) ∧ ∀ S18 : Hp, S18 = sI S 0 b17 (v1).toNatClampNeg (0 : Int32) → ∀ e19 : Int32, e19 = (v1 + 1) → K2 (e19) (S18)))
abbrev wp_X1_multiplyOut_2  (Q : Hp → Prop) (v0 : Nat) (v1 : Int32) (S : Hp) : Prop :=
  Lp (X := Int32 × Hp) (fun K y => wb_X1_multiplyOut_2  (fun w0 w1 => K (w0, w1)) Q v0 y.1 y.2) (v1, S)
abbrev wp_X1_multiplyOut (a0 : Nat) (S : Hp) (Q : Hp → Prop) : Prop :=
  wp_X1_multiplyOut_2 Q (a0) ((0 : Int32)) (S)
set_option maxHeartbeats 4000000 in
set_option maxRecDepth 100000 in
theorem gb_X1_multiplyOut_41 (C : Cx p s m args meth c z cX1_multiplyOut 3 RX1 none "multiplyOut") {K30 : Int32 → Hp → Prop} {K41 : Int32 → Hp → Prop} {Q : Hp → Prop} {v0 : Nat} {v1 : Int32} {v2 : Int32} {S : Hp}  (hK30 : ∀ (w1 : Int32) (S2 : Hp), K30 w1 S2 → Go p l e { frames := 1, cells := 0, slots := 0, locals := 22 } s m args below meth c z 3 (MQ below (Qx z (wV Q)) args s 0 0 (own z)) (0) (0) 30 [(0, .ref (v0)), (1, .int (w1))] [] (S2)) (hK41 : ∀ (w2 : Int32) (S2 : Hp), K41 w2 S2 → Go p l e { frames := 1, cells := 0, slots := 0, locals := 22 } s m args below meth c z 3 (MQ below (Qx z (wV Q)) args s 0 0 (own z)) (0) (0) 41 [(0, .ref (v0)), (1, .int (v1)), (2, .int (w2))] [] (S2)) (hw : wb_X1_multiplyOut_41 K30 K41 Q v0 v1 v2 S) : Go p l e { frames := 1, cells := 0, slots := 0, locals := 22 } s m args below meth c z 3 (MQ below (Qx z (wV Q)) args s 0 0 (own z)) (0) (0) 41 [(0, .ref (v0)), (1, .int (v1)), (2, .int (v2))] [] (S) := by
  refine G_iload_n (pc := 41) C 2 dX1_multiplyOut_41 rfl rfl ?_
  refine G_iconst (pc := 42) C (v := 1) dX1_multiplyOut_42 (by decide) ?_
  refine G_icmp_lt (pc := 43) C 85 dX1_multiplyOut_43 (by decide) (fun hc => ?_) (fun hc => ?_)
  · have hw := hw.1 hc
    refine G_aload_n (pc := 85) C 0 dX1_multiplyOut_85 rfl rfl ?_
    obtain ⟨hk, hw⟩ := hw
    refine gf_RX1_24 (pc := 86) C dX1_multiplyOut_86 hk ?_
    refine G_iconst (pc := 89) C (v := 0) dX1_multiplyOut_89 (by decide) ?_
    refine G_aload_n (pc := 90) C 0 dX1_multiplyOut_90 rfl rfl ?_
    obtain ⟨hk, hw⟩ := hw
    refine gf_RX1_21 (pc := 91) C dX1_multiplyOut_91 hk ?_
    refine G_iload_n (pc := 94) C 1 dX1_multiplyOut_94 rfl rfl ?_
    obtain ⟨b3, hq, hw⟩ := hw
    rw [hq]
    obtain ⟨hk, hi, hw⟩ := hw
    refine G_iald (pc := 95) C hk hi dX1_multiplyOut_95 ?_
    refine G_aload_n (pc := 96) C 0 dX1_multiplyOut_96 rfl rfl ?_
    obtain ⟨hk, hw⟩ := hw
    refine gf_RX1_18 (pc := 97) C dX1_multiplyOut_97 hk ?_
    refine G_iload_n (pc := 100) C 1 dX1_multiplyOut_100 rfl rfl ?_
    obtain ⟨b4, hq, hw⟩ := hw
    rw [hq]
    obtain ⟨hk, hi, hw⟩ := hw
    refine G_iald (pc := 101) C hk hi dX1_multiplyOut_101 ?_
    refine G_aload_n (pc := 102) C 0 dX1_multiplyOut_102 rfl rfl ?_
    obtain ⟨hk, hw⟩ := hw
    refine gf_RX1_24 (pc := 103) C dX1_multiplyOut_103 hk ?_
    refine G_iconst (pc := 106) C (v := 0) dX1_multiplyOut_106 (by decide) ?_
    obtain ⟨b5, hq, hw⟩ := hw
    rw [hq]
    obtain ⟨hk, hi, hw⟩ := hw
    refine G_iald (pc := 107) C hk hi dX1_multiplyOut_107 ?_
    refine G_imul (pc := 108) C dX1_multiplyOut_108 ?_
    refine G_isub (pc := 109) C dX1_multiplyOut_109 ?_
    refine G_bipush (pc := 110) C (v := 29) dX1_multiplyOut_110 (by decide) ?_
    refine cl_RX1_74 (pc := 112) C (c_J9_floorMod_7cf53 l z (((gI S 0 b3 (v1).toNatClampNeg) - ((gI S 0 b4 (v1).toNatClampNeg) * (gI S 0 b5 ((0 : Int32)).toNatClampNeg)))) ((29 : Int32)) S _ hw) ⟨Nat.le_of_ble_eq_true rfl, Nat.le_of_ble_eq_true rfl⟩ dX1_multiplyOut_112 (Nat.le_of_ble_eq_true rfl) (fun v S' hp => ?_)
    clear hw
    obtain ⟨hS, e6, rfl, hw⟩ := hp
    subst S'
    obtain ⟨hk, hi, hw⟩ := hw
    refine G_iast (pc := 115) C hk hi dX1_multiplyOut_115 ?_
    obtain ⟨S8, hS8⟩ : ∃ y : Hp, y = sI S 0 b5 ((0 : Int32)).toNatClampNeg e6 := ⟨_, rfl⟩
    have hw := hw S8 hS8
    rw [← hS8]
    clear hS8
    obtain ⟨e9, he9⟩ : ∃ y : Int32, y = (v1 + (-1)) := ⟨_, rfl⟩
    have hw := hw e9 he9
    refine G_iinc (pc := 116) C [(1, .int (e9)), (0, .ref (v0)), (2, .int (v2))] 1 (v := e9) dX1_multiplyOut_116 rfl (by rw [he9]; rfl) (by decide) rfl ?_
    clear he9
    refine G_goto (pc := 119) C 30 dX1_multiplyOut_119 (by decide) ?_
    exact G_sub [1, 0] rfl (hK30 _ _ hw)
  · have hw := hw.2 hc
    refine G_aload_n (pc := 46) C 0 dX1_multiplyOut_46 rfl rfl ?_
    obtain ⟨hk, hw⟩ := hw
    refine gf_RX1_24 (pc := 47) C dX1_multiplyOut_47 hk ?_
    refine G_iload_n (pc := 50) C 2 dX1_multiplyOut_50 rfl rfl ?_
    refine G_aload_n (pc := 51) C 0 dX1_multiplyOut_51 rfl rfl ?_
    obtain ⟨hk, hw⟩ := hw
    refine gf_RX1_24 (pc := 52) C dX1_multiplyOut_52 hk ?_
    refine G_iload_n (pc := 55) C 2 dX1_multiplyOut_55 rfl rfl ?_
    refine G_iconst (pc := 56) C (v := 1) dX1_multiplyOut_56 (by decide) ?_
    refine G_isub (pc := 57) C dX1_multiplyOut_57 ?_
    obtain ⟨b10, hq, hw⟩ := hw
    rw [hq]
    obtain ⟨hk, hi, hw⟩ := hw
    refine G_iald (pc := 58) C hk hi dX1_multiplyOut_58 ?_
    refine G_aload_n (pc := 59) C 0 dX1_multiplyOut_59 rfl rfl ?_
    obtain ⟨hk, hw⟩ := hw
    refine gf_RX1_18 (pc := 60) C dX1_multiplyOut_60 hk ?_
    refine G_iload_n (pc := 63) C 1 dX1_multiplyOut_63 rfl rfl ?_
    obtain ⟨b11, hq, hw⟩ := hw
    rw [hq]
    obtain ⟨hk, hi, hw⟩ := hw
    refine G_iald (pc := 64) C hk hi dX1_multiplyOut_64 ?_
    refine G_aload_n (pc := 65) C 0 dX1_multiplyOut_65 rfl rfl ?_
    obtain ⟨hk, hw⟩ := hw
    refine gf_RX1_24 (pc := 66) C dX1_multiplyOut_66 hk ?_
    refine G_iload_n (pc := 69) C 2 dX1_multiplyOut_69 rfl rfl ?_
    obtain ⟨b12, hq, hw⟩ := hw
    rw [hq]
    obtain ⟨hk, hi, hw⟩ := hw
    refine G_iald (pc := 70) C hk hi dX1_multiplyOut_70 ?_
    refine G_imul (pc := 71) C dX1_multiplyOut_71 ?_
    refine G_isub (pc := 72) C dX1_multiplyOut_72 ?_
    refine G_bipush (pc := 73) C (v := 29) dX1_multiplyOut_73 (by decide) ?_
    refine cl_RX1_74 (pc := 75) C (c_J9_floorMod_7cf53 l z (((gI S 0 b10 ((v2 - (1 : Int32))).toNatClampNeg) - ((gI S 0 b11 (v1).toNatClampNeg) * (gI S 0 b12 (v2).toNatClampNeg)))) ((29 : Int32)) S _ hw) ⟨Nat.le_of_ble_eq_true rfl, Nat.le_of_ble_eq_true rfl⟩ dX1_multiplyOut_75 (Nat.le_of_ble_eq_true rfl) (fun v S' hp => ?_)
    clear hw
    obtain ⟨hS, e13, rfl, hw⟩ := hp
    subst S'
    obtain ⟨hk, hi, hw⟩ := hw
    refine G_iast (pc := 78) C hk hi dX1_multiplyOut_78 ?_
    obtain ⟨S15, hS15⟩ : ∃ y : Hp, y = sI S 0 b10 (v2).toNatClampNeg e13 := ⟨_, rfl⟩
    have hw := hw S15 hS15
    rw [← hS15]
    clear hS15
    obtain ⟨e16, he16⟩ : ∃ y : Int32, y = (v2 + (-1)) := ⟨_, rfl⟩
    have hw := hw e16 he16
    refine G_iinc (pc := 79) C [(2, .int (e16)), (0, .ref (v0)), (1, .int (v1))] 2 (v := e16) dX1_multiplyOut_79 rfl (by rw [he16]; rfl) (by decide) rfl ?_
    clear he16
    refine G_goto (pc := 82) C 41 dX1_multiplyOut_82 (by decide) ?_
    exact G_sub [1, 2, 0] rfl (hK41 _ _ hw)
set_option maxHeartbeats 4000000 in
set_option maxRecDepth 100000 in
theorem g_X1_multiplyOut_41 (C : Cx p s m args meth c z cX1_multiplyOut 3 RX1 none "multiplyOut") {K30 : Int32 → Hp → Prop} {Q : Hp → Prop} {v0 : Nat} {v1 : Int32} {v2 : Int32} {S : Hp}  (hK30 : ∀ (w1 : Int32) (S2 : Hp), K30 w1 S2 → Go p l e { frames := 1, cells := 0, slots := 0, locals := 22 } s m args below meth c z 3 (MQ below (Qx z (wV Q)) args s 0 0 (own z)) (0) (0) 30 [(0, .ref (v0)), (1, .int (w1))] [] (S2)) (hw : wp_X1_multiplyOut_41 K30 Q v0 v1 v2 S) : Go p l e { frames := 1, cells := 0, slots := 0, locals := 22 } s m args below meth c z 3 (MQ below (Qx z (wV Q)) args s 0 0 (own z)) (0) (0) 41 [(0, .ref (v0)), (1, .int (v1)), (2, .int (v2))] [] (S) :=
  Lp_go (G := fun y : Int32 × Hp => Go p l e { frames := 1, cells := 0, slots := 0, locals := 22 } s m args below meth c z 3 (MQ below (Qx z (wV Q)) args s 0 0 (own z)) (0) (0) 41 [(0, .ref (v0)), (1, .int (v1)), (2, .int (y.1))] [] (y.2)) (fun K y hK hB => gb_X1_multiplyOut_41 C hK30 (fun w0 w1 h => hK (w0, w1) h) hB) hw
set_option maxHeartbeats 4000000 in
set_option maxRecDepth 100000 in
theorem gb_X1_multiplyOut_30 (C : Cx p s m args meth c z cX1_multiplyOut 3 RX1 none "multiplyOut") {K30 : Int32 → Hp → Prop} {Q : Hp → Prop} {v0 : Nat} {v1 : Int32} {S : Hp}  (hK30 : ∀ (w1 : Int32) (S2 : Hp), K30 w1 S2 → Go p l e { frames := 1, cells := 0, slots := 0, locals := 22 } s m args below meth c z 3 (MQ below (Qx z (wV Q)) args s 0 0 (own z)) (0) (0) 30 [(0, .ref (v0)), (1, .int (w1))] [] (S2)) (hw : wb_X1_multiplyOut_30  K30 Q v0 v1 S) : Go p l e { frames := 1, cells := 0, slots := 0, locals := 22 } s m args below meth c z 3 (MQ below (Qx z (wV Q)) args s 0 0 (own z)) (0) (0) 30 [(0, .ref (v0)), (1, .int (v1))] [] (S) := by
  refine G_iload_n (pc := 30) C 1 dX1_multiplyOut_30 rfl rfl ?_
  refine G_if_lt (pc := 31) C 122 dX1_multiplyOut_31 (by decide) (fun hc => ?_) (fun hc => ?_)
  · have hw := hw.1 hc
    exact G_vret (pc := 122) C rfl dX1_multiplyOut_122 ⟨rfl, hw⟩
  · have hw := hw.2 hc
    refine G_aload_n (pc := 34) C 0 dX1_multiplyOut_34 rfl rfl ?_
    obtain ⟨hk, hw⟩ := hw
    refine gf_RX1_36 (pc := 35) C dX1_multiplyOut_35 hk ?_
    refine G_iconst (pc := 38) C (v := 1) dX1_multiplyOut_38 (by decide) ?_
    refine G_isub (pc := 39) C dX1_multiplyOut_39 ?_
    refine G_topi (fun e2 he2 => ?_)
    have hw := hw e2 he2
    clear he2
    refine G_istore_n (pc := 40) C [(2, .int (e2)), (0, .ref (v0)), (1, .int (v1))] dX1_multiplyOut_40 rfl (by decide) rfl ?_
    exact G_sub [1, 2, 0] rfl (g_X1_multiplyOut_41 C hK30 hw)
set_option maxHeartbeats 4000000 in
set_option maxRecDepth 100000 in
theorem g_X1_multiplyOut_30 (C : Cx p s m args meth c z cX1_multiplyOut 3 RX1 none "multiplyOut")  {Q : Hp → Prop} {v0 : Nat} {v1 : Int32} {S : Hp}   (hw : wp_X1_multiplyOut_30  Q v0 v1 S) : Go p l e { frames := 1, cells := 0, slots := 0, locals := 22 } s m args below meth c z 3 (MQ below (Qx z (wV Q)) args s 0 0 (own z)) (0) (0) 30 [(0, .ref (v0)), (1, .int (v1))] [] (S) :=
  Lp_go (G := fun y : Int32 × Hp => Go p l e { frames := 1, cells := 0, slots := 0, locals := 22 } s m args below meth c z 3 (MQ below (Qx z (wV Q)) args s 0 0 (own z)) (0) (0) 30 [(0, .ref (v0)), (1, .int (y.1))] [] (y.2)) (fun K y hK hB => gb_X1_multiplyOut_30 C  (fun w0 w1 h => hK (w0, w1) h) hB) hw
set_option maxHeartbeats 4000000 in
set_option maxRecDepth 100000 in
theorem gb_X1_multiplyOut_2 (C : Cx p s m args meth c z cX1_multiplyOut 3 RX1 none "multiplyOut") {K2 : Int32 → Hp → Prop} {Q : Hp → Prop} {v0 : Nat} {v1 : Int32} {S : Hp}  (hK2 : ∀ (w1 : Int32) (S2 : Hp), K2 w1 S2 → Go p l e { frames := 1, cells := 0, slots := 0, locals := 22 } s m args below meth c z 3 (MQ below (Qx z (wV Q)) args s 0 0 (own z)) (0) (0) 2 [(0, .ref (v0)), (1, .int (w1))] [] (S2)) (hw : wb_X1_multiplyOut_2  K2 Q v0 v1 S) : Go p l e { frames := 1, cells := 0, slots := 0, locals := 22 } s m args below meth c z 3 (MQ below (Qx z (wV Q)) args s 0 0 (own z)) (0) (0) 2 [(0, .ref (v0)), (1, .int (v1))] [] (S) := by
  refine G_iload_n (pc := 2) C 1 dX1_multiplyOut_2 rfl rfl ?_
  refine G_aload_n (pc := 3) C 0 dX1_multiplyOut_3 rfl rfl ?_
  obtain ⟨hk, hw⟩ := hw
  refine gf_RX1_36 (pc := 4) C dX1_multiplyOut_4 hk ?_
  refine G_icmp_ge (pc := 7) C 23 dX1_multiplyOut_7 (by decide) (fun hc => ?_) (fun hc => ?_)
  · have hw := hw.1 hc
    refine G_aload_n (pc := 23) C 0 dX1_multiplyOut_23 rfl rfl ?_
    obtain ⟨hk, hw⟩ := hw
    refine gf_RX1_36 (pc := 24) C dX1_multiplyOut_24 hk ?_
    refine G_iconst (pc := 27) C (v := 1) dX1_multiplyOut_27 (by decide) ?_
    refine G_isub (pc := 28) C dX1_multiplyOut_28 ?_
    refine G_topi (fun e1 he1 => ?_)
    have hw := hw e1 he1
    clear he1
    refine G_istore_n (pc := 29) C [(1, .int (e1)), (0, .ref (v0))] dX1_multiplyOut_29 rfl (by decide) rfl ?_
    exact G_sub [1, 0] rfl (g_X1_multiplyOut_30 C  hw)
  · have hw := hw.2 hc
    refine G_aload_n (pc := 10) C 0 dX1_multiplyOut_10 rfl rfl ?_
    obtain ⟨hk, hw⟩ := hw
    refine gf_RX1_24 (pc := 11) C dX1_multiplyOut_11 hk ?_
    refine G_iload_n (pc := 14) C 1 dX1_multiplyOut_14 rfl rfl ?_
    refine G_iconst (pc := 15) C (v := 0) dX1_multiplyOut_15 (by decide) ?_
    obtain ⟨b17, hq, hw⟩ := hw
    rw [hq]
    obtain ⟨hk, hi, hw⟩ := hw
    refine G_iast (pc := 16) C hk hi dX1_multiplyOut_16 ?_
    obtain ⟨S18, hS18⟩ : ∃ y : Hp, y = sI S 0 b17 (v1).toNatClampNeg (0 : Int32) := ⟨_, rfl⟩
    have hw := hw S18 hS18
    rw [← hS18]
    clear hS18
    obtain ⟨e19, he19⟩ : ∃ y : Int32, y = (v1 + 1) := ⟨_, rfl⟩
    have hw := hw e19 he19
    refine G_iinc (pc := 17) C [(1, .int (e19)), (0, .ref (v0))] 1 (v := e19) dX1_multiplyOut_17 rfl (by rw [he19]; rfl) (by decide) rfl ?_
    clear he19
    refine G_goto (pc := 20) C 2 dX1_multiplyOut_20 (by decide) ?_
    exact G_sub [1, 0] rfl (hK2 _ _ hw)
set_option maxHeartbeats 4000000 in
set_option maxRecDepth 100000 in
theorem g_X1_multiplyOut_2 (C : Cx p s m args meth c z cX1_multiplyOut 3 RX1 none "multiplyOut")  {Q : Hp → Prop} {v0 : Nat} {v1 : Int32} {S : Hp}   (hw : wp_X1_multiplyOut_2  Q v0 v1 S) : Go p l e { frames := 1, cells := 0, slots := 0, locals := 22 } s m args below meth c z 3 (MQ below (Qx z (wV Q)) args s 0 0 (own z)) (0) (0) 2 [(0, .ref (v0)), (1, .int (v1))] [] (S) :=
  Lp_go (G := fun y : Int32 × Hp => Go p l e { frames := 1, cells := 0, slots := 0, locals := 22 } s m args below meth c z 3 (MQ below (Qx z (wV Q)) args s 0 0 (own z)) (0) (0) 2 [(0, .ref (v0)), (1, .int (y.1))] [] (y.2)) (fun K y hK hB => gb_X1_multiplyOut_2 C  (fun w0 w1 h => hK (w0, w1) h) hB) hw
set_option maxHeartbeats 4000000 in
set_option maxRecDepth 100000 in
theorem c_X1_multiplyOut (l : Launch) (z : Zt) (a0 : Nat) (S : Hp) (Q : Hp → Prop) (hw : wp_X1_multiplyOut a0 S Q) : Ct l z yX1_multiplyOut cX1_multiplyOut 3 none 1 22 0 0 [.ref (a0)] S (wV Q) := by
  refine Ct_of (by decide) (Nat.le_of_ble_eq_true rfl) ?_
  intro p e s m args below meth c C
  have C : Cx p s m args meth c z cX1_multiplyOut 3 RX1 none "multiplyOut" := C
  refine G_sub (lv' := [(0, .ref (a0))]) [0] rfl ?_
  refine G_iconst (pc := 0) C (v := 0) dX1_multiplyOut_0 (by decide) ?_
  refine G_istore_n (pc := 1) C [(1, .int ((0 : Int32))), (0, .ref (a0))] dX1_multiplyOut_1 rfl (by decide) rfl ?_
  exact G_sub [1, 0] rfl (g_X1_multiplyOut_2 C  hw)
/-! FirstParts$Curve.goThrough(I)V -/
abbrev wp_X1_goThrough_62  (Q : Hp → Prop) (v0 : Nat) (S : Hp) : Prop :=
  kd S v0 = 2 ∧ wp_X1_divideDifferences (v0) S (fun S2 => kd S2 v0 = 2 ∧ wp_X1_multiplyOut (v0) S2 (fun S4 => Q S4))
abbrev wp_X1_goThrough_56 (K4 : Int32 → Int32 → Hp → Prop) (Q : Hp → Prop) (v0 : Nat) (v1 : Int32) (v2 : Int32) (v3 : Int32) (S : Hp) : Prop :=
  ∀ e5 : Int32, e5 = (v3 + 1) → K4 (v2) (e5) (S)
abbrev wb_X1_goThrough_4  (K4 : Int32 → Int32 → Hp → Prop) (Q : Hp → Prop) (v0 : Nat) (v1 : Int32) (v2 : Int32) (v3 : Int32) (S : Hp) : Prop :=
  kd S v0 = 2 ∧ (((gI S 19 v0 0) ≤ v3 → wp_X1_goThrough_62 Q (v0) (S)) ∧ (¬ (gI S 19 v0 0) ≤ v3 → kd S v0 = 2 ∧ (((gI S 20 v0 0) ≤ v2 → wp_X1_goThrough_62 Q (v0) (S)) ∧ (¬ (gI S 20 v0 0) ≤ v2 → ((((v1 >>> (v3 &&& 31)) &&& (1 : Int32)) ≠ (1 : Int32) → wp_X1_goThrough_56 K4 Q (v0) (v1) (v2) (v3) (S)) ∧ (((v1 >>> (v3 &&& 31)) &&& (1 : Int32)) = (1 : Int32) → kd S v0 = 2 ∧ kd S v0 = 2 ∧ ∃ b6, (gR S 17 v0 0) = some b6 ∧ kd S b6 = 20 ∧ vp_in v3 (ln S b6) ∧ ∃ b7, (gR S 21 v0 0) = some b7 ∧ kd S b7 = 20 ∧ vp_in v2 (ln S b7) ∧ ∀ S8 : Hp, S8 = sI S 0 b7 (v2).toNatClampNeg (gI S 0 b6 (v3).toNatClampNeg) → kd S8 v0 = 2 ∧ kd S8 v0 = 2 ∧ ∃ b9, (gR S8 18 v0 0) = some b9 ∧ kd S8 b9 = 20 ∧ vp_in v3 (ln S8 b9) ∧ ∃ b10, (gR S8 22 v0 0) = some b10 ∧ kd S8 b10 = 20 ∧ vp_in v2 (ln S8 b10) ∧ ∀ S11 : Hp, S11 = sI S8 0 b10 (v2).toNatClampNeg (gI S8 0 b9 (v3).toNatClampNeg) → ∀ e12 : Int32, e12 = (v2 + 1) → wp_X1_goThrough_56 K4 Q (v0) (v1) (e12) (v3) (S11)))))))
abbrev wp_X1_goThrough_4  (Q : Hp → Prop) (v0 : Nat) (v1 : Int32) (v2 : Int32) (v3 : Int32) (S : Hp) : Prop :=
  Lp (X := Int32 × Int32 × Hp) (fun K y => wb_X1_goThrough_4  (fun w0 w1 w2 => K (w0, w1, w2)) Q v0 v1 y.1 y.2.1 y.2.2) (v2, v3, S)
abbrev wp_X1_goThrough (a0 : Nat) (x1 : Int32) (S : Hp) (Q : Hp → Prop) : Prop :=
  wp_X1_goThrough_4 Q (a0) (x1) ((0 : Int32)) ((0 : Int32)) (S)
set_option maxHeartbeats 4000000 in
set_option maxRecDepth 100000 in
theorem g_X1_goThrough_62 (C : Cx p s m args meth c z cX1_goThrough 4 RX1 none "goThrough")  {Q : Hp → Prop} {v0 : Nat} {S : Hp}   (hw : wp_X1_goThrough_62  Q v0 S) : Go p l e { frames := 2, cells := 0, slots := 0, locals := 45 } s m args below meth c z 4 (MQ below (Qx z (wV Q)) args s 0 0 (own z)) (0) (0) 62 [(0, .ref (v0))] [] (S) := by
  refine G_aload_n (pc := 62) C 0 dX1_goThrough_62 rfl rfl ?_
  obtain ⟨hk, hw⟩ := hw
  refine cl_RX1_65 (pc := 63) C (c_X1_divideDifferences l z (v0) S _ hw) ⟨Nat.le_of_ble_eq_true rfl, Nat.le_of_ble_eq_true rfl⟩ hk dX1_goThrough_63 (Nat.le_of_ble_eq_true rfl) (fun v S' hp => ?_)
  clear hw
  obtain ⟨rfl, hw⟩ := hp
  generalize S' = S2 at hw ⊢
  refine G_aload_n (pc := 66) C 0 dX1_goThrough_66 rfl rfl ?_
  obtain ⟨hk, hw⟩ := hw
  refine cl_RX1_68 (pc := 67) C (c_X1_multiplyOut l z (v0) S2 _ hw) ⟨Nat.le_of_ble_eq_true rfl, Nat.le_of_ble_eq_true rfl⟩ hk dX1_goThrough_67 (Nat.le_of_ble_eq_true rfl) (fun v S' hp => ?_)
  clear hw
  obtain ⟨rfl, hw⟩ := hp
  generalize S' = S4 at hw ⊢
  exact G_vret (pc := 70) C rfl dX1_goThrough_70 ⟨rfl, hw⟩
set_option maxHeartbeats 4000000 in
set_option maxRecDepth 100000 in
theorem g_X1_goThrough_56 (C : Cx p s m args meth c z cX1_goThrough 4 RX1 none "goThrough") {K4 : Int32 → Int32 → Hp → Prop} {Q : Hp → Prop} {v0 : Nat} {v1 : Int32} {v2 : Int32} {v3 : Int32} {S : Hp}  (hK4 : ∀ (w2 : Int32) (w3 : Int32) (S2 : Hp), K4 w2 w3 S2 → Go p l e { frames := 2, cells := 0, slots := 0, locals := 45 } s m args below meth c z 4 (MQ below (Qx z (wV Q)) args s 0 0 (own z)) (0) (0) 4 [(0, .ref (v0)), (1, .int (v1)), (2, .int (w2)), (3, .int (w3))] [] (S2)) (hw : wp_X1_goThrough_56 K4 Q v0 v1 v2 v3 S) : Go p l e { frames := 2, cells := 0, slots := 0, locals := 45 } s m args below meth c z 4 (MQ below (Qx z (wV Q)) args s 0 0 (own z)) (0) (0) 56 [(0, .ref (v0)), (1, .int (v1)), (2, .int (v2)), (3, .int (v3))] [] (S) := by
  obtain ⟨e5, he5⟩ : ∃ y : Int32, y = (v3 + 1) := ⟨_, rfl⟩
  have hw := hw e5 he5
  refine G_iinc (pc := 56) C [(3, .int (e5)), (0, .ref (v0)), (1, .int (v1)), (2, .int (v2))] 3 (v := e5) dX1_goThrough_56 rfl (by rw [he5]; rfl) (by decide) rfl ?_
  clear he5
  refine G_goto (pc := 59) C 4 dX1_goThrough_59 (by decide) ?_
  exact G_sub [1, 2, 3, 0] rfl (hK4 _ _ _ hw)
set_option maxHeartbeats 4000000 in
set_option maxRecDepth 100000 in
theorem gb_X1_goThrough_4 (C : Cx p s m args meth c z cX1_goThrough 4 RX1 none "goThrough") {K4 : Int32 → Int32 → Hp → Prop} {Q : Hp → Prop} {v0 : Nat} {v1 : Int32} {v2 : Int32} {v3 : Int32} {S : Hp}  (hK4 : ∀ (w2 : Int32) (w3 : Int32) (S2 : Hp), K4 w2 w3 S2 → Go p l e { frames := 2, cells := 0, slots := 0, locals := 45 } s m args below meth c z 4 (MQ below (Qx z (wV Q)) args s 0 0 (own z)) (0) (0) 4 [(0, .ref (v0)), (1, .int (v1)), (2, .int (w2)), (3, .int (w3))] [] (S2)) (hw : wb_X1_goThrough_4  K4 Q v0 v1 v2 v3 S) : Go p l e { frames := 2, cells := 0, slots := 0, locals := 45 } s m args below meth c z 4 (MQ below (Qx z (wV Q)) args s 0 0 (own z)) (0) (0) 4 [(0, .ref (v0)), (1, .int (v1)), (2, .int (v2)), (3, .int (v3))] [] (S) := by
  refine G_iload_n (pc := 4) C 3 dX1_goThrough_4 rfl rfl ?_
  refine G_aload_n (pc := 5) C 0 dX1_goThrough_5 rfl rfl ?_
  obtain ⟨hk, hw⟩ := hw
  refine gf_RX1_40 (pc := 6) C dX1_goThrough_6 hk ?_
  refine G_icmp_ge (pc := 9) C 62 dX1_goThrough_9 (by decide) (fun hc => ?_) (fun hc => ?_)
  · have hw := hw.1 hc
    exact G_sub [0] rfl (g_X1_goThrough_62 C  hw)
  · have hw := hw.2 hc
    refine G_iload_n (pc := 12) C 2 dX1_goThrough_12 rfl rfl ?_
    refine G_aload_n (pc := 13) C 0 dX1_goThrough_13 rfl rfl ?_
    obtain ⟨hk, hw⟩ := hw
    refine gf_RX1_36 (pc := 14) C dX1_goThrough_14 hk ?_
    refine G_icmp_ge (pc := 17) C 62 dX1_goThrough_17 (by decide) (fun hc => ?_) (fun hc => ?_)
    · have hw := hw.1 hc
      exact G_sub [0] rfl (g_X1_goThrough_62 C  hw)
    · have hw := hw.2 hc
      refine G_iload_n (pc := 20) C 1 dX1_goThrough_20 rfl rfl ?_
      refine G_iload_n (pc := 21) C 3 dX1_goThrough_21 rfl rfl ?_
      refine G_ishr (pc := 22) C dX1_goThrough_22 ?_
      refine G_iconst (pc := 23) C (v := 1) dX1_goThrough_23 (by decide) ?_
      refine G_iand (pc := 24) C dX1_goThrough_24 ?_
      refine G_iconst (pc := 25) C (v := 1) dX1_goThrough_25 (by decide) ?_
      refine G_icmp_ne (pc := 26) C 56 dX1_goThrough_26 (by decide) (fun hc => ?_) (fun hc => ?_)
      · have hw := hw.1 hc
        exact G_sub [0, 1, 2, 3] rfl (g_X1_goThrough_56 C hK4 hw)
      · have hw := hw.2 hc
        refine G_aload_n (pc := 29) C 0 dX1_goThrough_29 rfl rfl ?_
        obtain ⟨hk, hw⟩ := hw
        refine gf_RX1_18 (pc := 30) C dX1_goThrough_30 hk ?_
        refine G_iload_n (pc := 33) C 2 dX1_goThrough_33 rfl rfl ?_
        refine G_aload_n (pc := 34) C 0 dX1_goThrough_34 rfl rfl ?_
        obtain ⟨hk, hw⟩ := hw
        refine gf_RX1_9 (pc := 35) C dX1_goThrough_35 hk ?_
        refine G_iload_n (pc := 38) C 3 dX1_goThrough_38 rfl rfl ?_
        obtain ⟨b6, hq, hw⟩ := hw
        rw [hq]
        obtain ⟨hk, hi, hw⟩ := hw
        refine G_iald (pc := 39) C hk hi dX1_goThrough_39 ?_
        obtain ⟨b7, hq, hw⟩ := hw
        rw [hq]
        obtain ⟨hk, hi, hw⟩ := hw
        refine G_iast (pc := 40) C hk hi dX1_goThrough_40 ?_
        obtain ⟨S8, hS8⟩ : ∃ y : Hp, y = sI S 0 b7 (v2).toNatClampNeg (gI S 0 b6 (v3).toNatClampNeg) := ⟨_, rfl⟩
        have hw := hw S8 hS8
        rw [← hS8]
        clear hS8
        refine G_aload_n (pc := 41) C 0 dX1_goThrough_41 rfl rfl ?_
        obtain ⟨hk, hw⟩ := hw
        refine gf_RX1_21 (pc := 42) C dX1_goThrough_42 hk ?_
        refine G_iload_n (pc := 45) C 2 dX1_goThrough_45 rfl rfl ?_
        refine G_aload_n (pc := 46) C 0 dX1_goThrough_46 rfl rfl ?_
        obtain ⟨hk, hw⟩ := hw
        refine gf_RX1_15 (pc := 47) C dX1_goThrough_47 hk ?_
        refine G_iload_n (pc := 50) C 3 dX1_goThrough_50 rfl rfl ?_
        obtain ⟨b9, hq, hw⟩ := hw
        rw [hq]
        obtain ⟨hk, hi, hw⟩ := hw
        refine G_iald (pc := 51) C hk hi dX1_goThrough_51 ?_
        obtain ⟨b10, hq, hw⟩ := hw
        rw [hq]
        obtain ⟨hk, hi, hw⟩ := hw
        refine G_iast (pc := 52) C hk hi dX1_goThrough_52 ?_
        obtain ⟨S11, hS11⟩ : ∃ y : Hp, y = sI S8 0 b10 (v2).toNatClampNeg (gI S8 0 b9 (v3).toNatClampNeg) := ⟨_, rfl⟩
        have hw := hw S11 hS11
        rw [← hS11]
        clear hS11
        obtain ⟨e12, he12⟩ : ∃ y : Int32, y = (v2 + 1) := ⟨_, rfl⟩
        have hw := hw e12 he12
        refine G_iinc (pc := 53) C [(2, .int (e12)), (0, .ref (v0)), (1, .int (v1)), (3, .int (v3))] 2 (v := e12) dX1_goThrough_53 rfl (by rw [he12]; rfl) (by decide) rfl ?_
        clear he12
        exact G_sub [1, 2, 0, 3] rfl (g_X1_goThrough_56 C hK4 hw)
set_option maxHeartbeats 4000000 in
set_option maxRecDepth 100000 in
theorem g_X1_goThrough_4 (C : Cx p s m args meth c z cX1_goThrough 4 RX1 none "goThrough")  {Q : Hp → Prop} {v0 : Nat} {v1 : Int32} {v2 : Int32} {v3 : Int32} {S : Hp}   (hw : wp_X1_goThrough_4  Q v0 v1 v2 v3 S) : Go p l e { frames := 2, cells := 0, slots := 0, locals := 45 } s m args below meth c z 4 (MQ below (Qx z (wV Q)) args s 0 0 (own z)) (0) (0) 4 [(0, .ref (v0)), (1, .int (v1)), (2, .int (v2)), (3, .int (v3))] [] (S) :=
  Lp_go (G := fun y : Int32 × Int32 × Hp => Go p l e { frames := 2, cells := 0, slots := 0, locals := 45 } s m args below meth c z 4 (MQ below (Qx z (wV Q)) args s 0 0 (own z)) (0) (0) 4 [(0, .ref (v0)), (1, .int (v1)), (2, .int (y.1)), (3, .int (y.2.1))] [] (y.2.2)) (fun K y hK hB => gb_X1_goThrough_4 C  (fun w0 w1 w2 h => hK (w0, w1, w2) h) hB) hw
set_option maxHeartbeats 4000000 in
set_option maxRecDepth 100000 in
theorem c_X1_goThrough (l : Launch) (z : Zt) (a0 : Nat) (x1 : Int32) (S : Hp) (Q : Hp → Prop) (hw : wp_X1_goThrough a0 x1 S Q) : Ct l z yX1_goThrough cX1_goThrough 4 none 2 45 0 0 [.ref (a0), .int (x1)] S (wV Q) := by
  refine Ct_of (by decide) (Nat.le_of_ble_eq_true rfl) ?_
  intro p e s m args below meth c C
  have C : Cx p s m args meth c z cX1_goThrough 4 RX1 none "goThrough" := C
  refine G_sub (lv' := [(0, .ref (a0)), (1, .int (x1))]) [0, 1] rfl ?_
  refine G_iconst (pc := 0) C (v := 0) dX1_goThrough_0 (by decide) ?_
  refine G_istore_n (pc := 1) C [(2, .int ((0 : Int32))), (0, .ref (a0)), (1, .int (x1))] dX1_goThrough_1 rfl (by decide) rfl ?_
  refine G_iconst (pc := 2) C (v := 0) dX1_goThrough_2 (by decide) ?_
  refine G_istore_n (pc := 3) C [(3, .int ((0 : Int32))), (2, .int ((0 : Int32))), (0, .ref (a0)), (1, .int (x1))] dX1_goThrough_3 rfl (by decide) rfl ?_
  exact G_sub [2, 3, 1, 0] rfl (g_X1_goThrough_4 C  hw)
/-! FirstParts$Curve.goThroughFirst()V -/
abbrev wp_X1_goThroughFirst (a0 : Nat) (S : Hp) (Q : Hp → Prop) : Prop :=
  kd S a0 = 2 ∧ kd S a0 = 2 ∧ wp_X1_goThrough (a0) ((((1 : Int32) <<< ((gI S 20 a0 0) &&& 31)) - (1 : Int32))) S (fun S2 => Q S2)
set_option maxHeartbeats 4000000 in
set_option maxRecDepth 100000 in
theorem c_X1_goThroughFirst (l : Launch) (z : Zt) (a0 : Nat) (S : Hp) (Q : Hp → Prop) (hw : wp_X1_goThroughFirst a0 S Q) : Ct l z yX1_goThroughFirst cX1_goThroughFirst 1 none 3 68 0 0 [.ref (a0)] S (wV Q) := by
  refine Ct_of (by decide) (Nat.le_of_ble_eq_true rfl) ?_
  intro p e s m args below meth c C
  have C : Cx p s m args meth c z cX1_goThroughFirst 1 RX1 none "goThroughFirst" := C
  refine G_sub (lv' := [(0, .ref (a0))]) [0] rfl ?_
  refine G_aload_n (pc := 0) C 0 dX1_goThroughFirst_0 rfl rfl ?_
  refine G_iconst (pc := 1) C (v := 1) dX1_goThroughFirst_1 (by decide) ?_
  refine G_aload_n (pc := 2) C 0 dX1_goThroughFirst_2 rfl rfl ?_
  obtain ⟨hk, hw⟩ := hw
  refine gf_RX1_36 (pc := 3) C dX1_goThroughFirst_3 hk ?_
  refine G_ishl (pc := 6) C dX1_goThroughFirst_6 ?_
  refine G_iconst (pc := 7) C (v := 1) dX1_goThroughFirst_7 (by decide) ?_
  refine G_isub (pc := 8) C dX1_goThroughFirst_8 ?_
  obtain ⟨hk, hw⟩ := hw
  refine cl_RX1_43 (pc := 9) C (c_X1_goThrough l z (a0) ((((1 : Int32) <<< ((gI S 20 a0 0) &&& 31)) - (1 : Int32))) S _ hw) ⟨Nat.le_of_ble_eq_true rfl, Nat.le_of_ble_eq_true rfl⟩ hk dX1_goThroughFirst_9 (Nat.le_of_ble_eq_true rfl) (fun v S' hp => ?_)
  clear hw
  obtain ⟨rfl, hw⟩ := hp
  generalize S' = S2 at hw ⊢
  exact G_vret (pc := 12) C rfl dX1_goThroughFirst_12 ⟨rfl, hw⟩
/-! FirstParts$Curve.agreeing()I -/
abbrev wp_X1_agreeing_42 (K4 : Int32 → Int32 → Prop) (Q : Int32 → Prop) (v0 : Nat) (v1 : Int32) (v2 : Int32) (S : Hp) : Prop :=
  ∀ e6 : Int32, e6 = (v2 + 1) → K4 (v1) (e6)
abbrev wb_X1_agreeing_4  (K4 : Int32 → Int32 → Prop) (Q : Int32 → Prop) (v0 : Nat) (v1 : Int32) (v2 : Int32) (S : Hp) : Prop :=
  kd S v0 = 2 ∧ (((gI S 19 v0 0) ≤ v2 → Q v1) ∧ (¬ (gI S 19 v0 0) ≤ v2 → kd S v0 = 2 ∧ kd S v0 = 2 ∧ kd S v0 = 2 ∧ ∃ b1, (gR S 17 v0 0) = some b1 ∧ kd S b1 = 20 ∧ vp_in v2 (ln S b1) ∧ ∃ b2, (gR S 23 v0 0) = some b2 ∧ wp_X11_valueAt (b2) ((0 : Int32)) ((gI S 20 v0 0)) ((gI S 0 b1 (v2).toNatClampNeg)) S (fun e3 => kd S v0 = 2 ∧ ∃ b5, (gR S 18 v0 0) = some b5 ∧ kd S b5 = 20 ∧ vp_in v2 (ln S b5) ∧ ((e3 ≠ (gI S 0 b5 (v2).toNatClampNeg) → wp_X1_agreeing_42 K4 Q (v0) (v1) (v2) (S)) ∧ (e3 = (gI S 0 b5 (v2).toNatClampNeg) → ∀ e7 : Int32, e7 = (v1 + 1) → wp_X1_agreeing_42 K4 Q (v0) (e7) (v2) (S))))))
abbrev wp_X1_agreeing_4  (Q : Int32 → Prop) (v0 : Nat) (v1 : Int32) (v2 : Int32) (S : Hp) : Prop :=
  Lp (X := Int32 × Int32) (fun K y => wb_X1_agreeing_4  (fun w0 w1 => K (w0, w1)) Q v0 y.1 y.2 S) (v1, v2)
abbrev wp_X1_agreeing (a0 : Nat) (S : Hp) (Q : Int32 → Prop) : Prop :=
  wp_X1_agreeing_4 Q (a0) ((0 : Int32)) ((0 : Int32)) (S)
set_option maxHeartbeats 4000000 in
set_option maxRecDepth 100000 in
theorem g_X1_agreeing_42 (C : Cx p s m args meth c z cX1_agreeing 3 RX1 (some .int) "agreeing") {K4 : Int32 → Int32 → Prop} {Q : Int32 → Prop} {v0 : Nat} {v1 : Int32} {v2 : Int32} {S : Hp}  (hK4 : ∀ (w1 : Int32) (w2 : Int32), K4 w1 w2 → Go p l e { frames := 2, cells := 0, slots := 0, locals := 48 } s m args below meth c z 3 (MQ below (Qx z (pI S Q)) args s 0 0 (own z)) (0) (0) 4 [(0, .ref (v0)), (1, .int (w1)), (2, .int (w2))] [] (S)) (hw : wp_X1_agreeing_42 K4 Q v0 v1 v2 S) : Go p l e { frames := 2, cells := 0, slots := 0, locals := 48 } s m args below meth c z 3 (MQ below (Qx z (pI S Q)) args s 0 0 (own z)) (0) (0) 42 [(0, .ref (v0)), (1, .int (v1)), (2, .int (v2))] [] (S) := by
  obtain ⟨e6, he6⟩ : ∃ y : Int32, y = (v2 + 1) := ⟨_, rfl⟩
  have hw := hw e6 he6
  refine G_iinc (pc := 42) C [(2, .int (e6)), (0, .ref (v0)), (1, .int (v1))] 2 (v := e6) dX1_agreeing_42 rfl (by rw [he6]; rfl) (by decide) rfl ?_
  clear he6
  refine G_goto (pc := 45) C 4 dX1_agreeing_45 (by decide) ?_
  exact G_sub [1, 2, 0] rfl (hK4 _ _ hw)
set_option maxHeartbeats 4000000 in
set_option maxRecDepth 100000 in
theorem gb_X1_agreeing_4 (C : Cx p s m args meth c z cX1_agreeing 3 RX1 (some .int) "agreeing") {K4 : Int32 → Int32 → Prop} {Q : Int32 → Prop} {v0 : Nat} {v1 : Int32} {v2 : Int32} {S : Hp}  (hK4 : ∀ (w1 : Int32) (w2 : Int32), K4 w1 w2 → Go p l e { frames := 2, cells := 0, slots := 0, locals := 48 } s m args below meth c z 3 (MQ below (Qx z (pI S Q)) args s 0 0 (own z)) (0) (0) 4 [(0, .ref (v0)), (1, .int (w1)), (2, .int (w2))] [] (S)) (hw : wb_X1_agreeing_4  K4 Q v0 v1 v2 S) : Go p l e { frames := 2, cells := 0, slots := 0, locals := 48 } s m args below meth c z 3 (MQ below (Qx z (pI S Q)) args s 0 0 (own z)) (0) (0) 4 [(0, .ref (v0)), (1, .int (v1)), (2, .int (v2))] [] (S) := by
  refine G_iload_n (pc := 4) C 2 dX1_agreeing_4 rfl rfl ?_
  refine G_aload_n (pc := 5) C 0 dX1_agreeing_5 rfl rfl ?_
  obtain ⟨hk, hw⟩ := hw
  refine gf_RX1_40 (pc := 6) C dX1_agreeing_6 hk ?_
  refine G_icmp_ge (pc := 9) C 48 dX1_agreeing_9 (by decide) (fun hc => ?_) (fun hc => ?_)
  · have hw := hw.1 hc
    refine G_iload_n (pc := 48) C 1 dX1_agreeing_48 rfl rfl ?_
    exact G_iret (pc := 49) C rfl dX1_agreeing_49 ⟨rfl, _, rfl, hw⟩
  · have hw := hw.2 hc
    refine G_aload_n (pc := 12) C 0 dX1_agreeing_12 rfl rfl ?_
    obtain ⟨hk, hw⟩ := hw
    refine gf_RX1_24 (pc := 13) C dX1_agreeing_13 hk ?_
    refine G_iconst (pc := 16) C (v := 0) dX1_agreeing_16 (by decide) ?_
    refine G_aload_n (pc := 17) C 0 dX1_agreeing_17 rfl rfl ?_
    obtain ⟨hk, hw⟩ := hw
    refine gf_RX1_36 (pc := 18) C dX1_agreeing_18 hk ?_
    refine G_aload_n (pc := 21) C 0 dX1_agreeing_21 rfl rfl ?_
    obtain ⟨hk, hw⟩ := hw
    refine gf_RX1_9 (pc := 22) C dX1_agreeing_22 hk ?_
    refine G_iload_n (pc := 25) C 2 dX1_agreeing_25 rfl rfl ?_
    obtain ⟨b1, hq, hw⟩ := hw
    rw [hq]
    obtain ⟨hk, hi, hw⟩ := hw
    refine G_iald (pc := 26) C hk hi dX1_agreeing_26 ?_
    obtain ⟨b2, hq, hw⟩ := hw
    rw [hq]
    refine cl_RX1_61 (pc := 27) C (c_X11_valueAt l z (b2) ((0 : Int32)) ((gI S 20 v0 0)) ((gI S 0 b1 (v2).toNatClampNeg)) S _ hw) ⟨Nat.le_of_ble_eq_true rfl, Nat.le_of_ble_eq_true rfl⟩ dX1_agreeing_27 (Nat.le_of_ble_eq_true rfl) (fun v S' hp => ?_)
    clear hw
    obtain ⟨hS, e3, rfl, hw⟩ := hp
    subst S'
    refine G_aload_n (pc := 30) C 0 dX1_agreeing_30 rfl rfl ?_
    obtain ⟨hk, hw⟩ := hw
    refine gf_RX1_15 (pc := 31) C dX1_agreeing_31 hk ?_
    refine G_iload_n (pc := 34) C 2 dX1_agreeing_34 rfl rfl ?_
    obtain ⟨b5, hq, hw⟩ := hw
    rw [hq]
    obtain ⟨hk, hi, hw⟩ := hw
    refine G_iald (pc := 35) C hk hi dX1_agreeing_35 ?_
    refine G_icmp_ne (pc := 36) C 42 dX1_agreeing_36 (by decide) (fun hc => ?_) (fun hc => ?_)
    · have hw := hw.1 hc
      exact G_sub [0, 1, 2] rfl (g_X1_agreeing_42 C hK4 hw)
    · have hw := hw.2 hc
      obtain ⟨e7, he7⟩ : ∃ y : Int32, y = (v1 + 1) := ⟨_, rfl⟩
      have hw := hw e7 he7
      refine G_iinc (pc := 39) C [(1, .int (e7)), (0, .ref (v0)), (2, .int (v2))] 1 (v := e7) dX1_agreeing_39 rfl (by rw [he7]; rfl) (by decide) rfl ?_
      clear he7
      exact G_sub [1, 0, 2] rfl (g_X1_agreeing_42 C hK4 hw)
set_option maxHeartbeats 4000000 in
set_option maxRecDepth 100000 in
theorem g_X1_agreeing_4 (C : Cx p s m args meth c z cX1_agreeing 3 RX1 (some .int) "agreeing")  {Q : Int32 → Prop} {v0 : Nat} {v1 : Int32} {v2 : Int32} {S : Hp}   (hw : wp_X1_agreeing_4  Q v0 v1 v2 S) : Go p l e { frames := 2, cells := 0, slots := 0, locals := 48 } s m args below meth c z 3 (MQ below (Qx z (pI S Q)) args s 0 0 (own z)) (0) (0) 4 [(0, .ref (v0)), (1, .int (v1)), (2, .int (v2))] [] (S) :=
  Lp_go (G := fun y : Int32 × Int32 => Go p l e { frames := 2, cells := 0, slots := 0, locals := 48 } s m args below meth c z 3 (MQ below (Qx z (pI S Q)) args s 0 0 (own z)) (0) (0) 4 [(0, .ref (v0)), (1, .int (y.1)), (2, .int (y.2))] [] (S)) (fun K y hK hB => gb_X1_agreeing_4 C  (fun w0 w1 h => hK (w0, w1) h) hB) hw
set_option maxHeartbeats 4000000 in
set_option maxRecDepth 100000 in
theorem c_X1_agreeing (l : Launch) (z : Zt) (a0 : Nat) (S : Hp) (Q : Int32 → Prop) (hw : wp_X1_agreeing a0 S Q) : Ct l z yX1_agreeing cX1_agreeing 3 (some .int) 2 48 0 0 [.ref (a0)] S (pI S Q) := by
  refine Ct_of (by decide) (Nat.le_of_ble_eq_true rfl) ?_
  intro p e s m args below meth c C
  have C : Cx p s m args meth c z cX1_agreeing 3 RX1 (some .int) "agreeing" := C
  refine G_sub (lv' := [(0, .ref (a0))]) [0] rfl ?_
  refine G_iconst (pc := 0) C (v := 0) dX1_agreeing_0 (by decide) ?_
  refine G_istore_n (pc := 1) C [(1, .int ((0 : Int32))), (0, .ref (a0))] dX1_agreeing_1 rfl (by decide) rfl ?_
  refine G_iconst (pc := 2) C (v := 0) dX1_agreeing_2 (by decide) ?_
  refine G_istore_n (pc := 3) C [(2, .int ((0 : Int32))), (1, .int ((0 : Int32))), (0, .ref (a0))] dX1_agreeing_3 rfl (by decide) rfl ?_
  exact G_sub [2, 1, 0] rfl (g_X1_agreeing_4 C  hw)
/-! FirstParts$Curve.mend()Z -/
abbrev wp_X1_mend_64 (K21 : Int32 → Hp → Prop) (Q : Int32 → Hp → Prop) (v0 : Nat) (v1 : Int32) (v2 : Int32) (S : Hp) : Prop :=
  ∀ e5 : Int32, e5 = (v2 + 1) → K21 (e5) (S)
abbrev wb_X1_mend_21  (K21 : Int32 → Hp → Prop) (Q : Int32 → Hp → Prop) (v0 : Nat) (v1 : Int32) (v2 : Int32) (S : Hp) : Prop :=
  kd S v0 = 2 ∧ ((((1 : Int32) <<< (((gI S 20 v0 0) + v1) &&& 31)) ≤ v2 → Q (0 : Int32) S) ∧ (¬ ((1 : Int32) <<< (((gI S 20 v0 0) + v1) &&& 31)) ≤ v2 → wp_J6_bitCount_0f7a4 (v2) S (fun e3 => kd S v0 = 2 ∧ ((e3 ≠ (gI S 20 v0 0) → wp_X1_mend_64 K21 Q (v0) (v1) (v2) (S)) ∧ (e3 = (gI S 20 v0 0) → kd S v0 = 2 ∧ wp_X1_goThrough (v0) (v2) S (fun S7 => kd S7 v0 = 2 ∧ wp_X1_agreeing (v0) S7 (fun e8 => kd S7 v0 = 2 ∧ ((e8 < ((gI S7 19 v0 0) - v1) → wp_X1_mend_64 K21 Q (v0) (v1) (v2) (S7)) ∧ (¬ e8 < ((gI S7 19 v0 0) - v1) → Q (1 : Int32) S7)))))))))
abbrev wp_X1_mend_21  (Q : Int32 → Hp → Prop) (v0 : Nat) (v1 : Int32) (v2 : Int32) (S : Hp) : Prop :=
  Lp (X := Int32 × Hp) (fun K y => wb_X1_mend_21  (fun w0 w1 => K (w0, w1)) Q v0 v1 y.1 y.2) (v2, S)
abbrev wp_X1_mend (a0 : Nat) (S : Hp) (Q : Int32 → Hp → Prop) : Prop :=
  kd S a0 = 2 ∧ kd S a0 = 2 ∧ ¬ (2 : Int32) = 0 ∧ ∀ e1 : Int32, e1 = (((gI S 19 a0 0) - (gI S 20 a0 0)) / (2 : Int32)) → kd S a0 = 2 ∧ ∀ e2 : Int32, e2 = (((1 : Int32) <<< ((gI S 20 a0 0) &&& 31)) - (1 : Int32)) → wp_X1_mend_21 Q (a0) (e1) (e2) (S)
set_option maxHeartbeats 4000000 in
set_option maxRecDepth 100000 in
theorem g_X1_mend_64 (C : Cx p s m args meth c z cX1_mend 3 RX1 (some .boolean) "mend") {K21 : Int32 → Hp → Prop} {Q : Int32 → Hp → Prop} {v0 : Nat} {v1 : Int32} {v2 : Int32} {S : Hp}  (hK21 : ∀ (w2 : Int32) (S2 : Hp), K21 w2 S2 → Go p l e { frames := 3, cells := 0, slots := 0, locals := 70 } s m args below meth c z 3 (MQ below (Qx z (wI Q)) args s 0 0 (own z)) (0) (0) 21 [(0, .ref (v0)), (1, .int (v1)), (2, .int (w2))] [] (S2)) (hw : wp_X1_mend_64 K21 Q v0 v1 v2 S) : Go p l e { frames := 3, cells := 0, slots := 0, locals := 70 } s m args below meth c z 3 (MQ below (Qx z (wI Q)) args s 0 0 (own z)) (0) (0) 64 [(0, .ref (v0)), (1, .int (v1)), (2, .int (v2))] [] (S) := by
  obtain ⟨e5, he5⟩ : ∃ y : Int32, y = (v2 + 1) := ⟨_, rfl⟩
  have hw := hw e5 he5
  refine G_iinc (pc := 64) C [(2, .int (e5)), (0, .ref (v0)), (1, .int (v1))] 2 (v := e5) dX1_mend_64 rfl (by rw [he5]; rfl) (by decide) rfl ?_
  clear he5
  refine G_goto (pc := 67) C 21 dX1_mend_67 (by decide) ?_
  exact G_sub [1, 2, 0] rfl (hK21 _ _ hw)
set_option maxHeartbeats 4000000 in
set_option maxRecDepth 100000 in
theorem gb_X1_mend_21 (C : Cx p s m args meth c z cX1_mend 3 RX1 (some .boolean) "mend") {K21 : Int32 → Hp → Prop} {Q : Int32 → Hp → Prop} {v0 : Nat} {v1 : Int32} {v2 : Int32} {S : Hp}  (hK21 : ∀ (w2 : Int32) (S2 : Hp), K21 w2 S2 → Go p l e { frames := 3, cells := 0, slots := 0, locals := 70 } s m args below meth c z 3 (MQ below (Qx z (wI Q)) args s 0 0 (own z)) (0) (0) 21 [(0, .ref (v0)), (1, .int (v1)), (2, .int (w2))] [] (S2)) (hw : wb_X1_mend_21  K21 Q v0 v1 v2 S) : Go p l e { frames := 3, cells := 0, slots := 0, locals := 70 } s m args below meth c z 3 (MQ below (Qx z (wI Q)) args s 0 0 (own z)) (0) (0) 21 [(0, .ref (v0)), (1, .int (v1)), (2, .int (v2))] [] (S) := by
  refine G_iload_n (pc := 21) C 2 dX1_mend_21 rfl rfl ?_
  refine G_iconst (pc := 22) C (v := 1) dX1_mend_22 (by decide) ?_
  refine G_aload_n (pc := 23) C 0 dX1_mend_23 rfl rfl ?_
  obtain ⟨hk, hw⟩ := hw
  refine gf_RX1_36 (pc := 24) C dX1_mend_24 hk ?_
  refine G_iload_n (pc := 27) C 1 dX1_mend_27 rfl rfl ?_
  refine G_iadd (pc := 28) C dX1_mend_28 ?_
  refine G_ishl (pc := 29) C dX1_mend_29 ?_
  refine G_icmp_ge (pc := 30) C 70 dX1_mend_30 (by decide) (fun hc => ?_) (fun hc => ?_)
  · have hw := hw.1 hc
    refine G_iconst (pc := 70) C (v := 0) dX1_mend_70 (by decide) ?_
    exact G_zret (pc := 71) C rfl (by decide) dX1_mend_71 ⟨_, rfl, hw⟩
  · have hw := hw.2 hc
    refine G_iload_n (pc := 33) C 2 dX1_mend_33 rfl rfl ?_
    refine cl_RX1_47 (pc := 34) C (c_J6_bitCount_0f7a4 l z (v2) S _ hw) ⟨Nat.le_of_ble_eq_true rfl, Nat.le_of_ble_eq_true rfl⟩ dX1_mend_34 (Nat.le_of_ble_eq_true rfl) (fun v S' hp => ?_)
    clear hw
    obtain ⟨hS, e3, rfl, hw⟩ := hp
    subst S'
    refine G_aload_n (pc := 37) C 0 dX1_mend_37 rfl rfl ?_
    obtain ⟨hk, hw⟩ := hw
    refine gf_RX1_36 (pc := 38) C dX1_mend_38 hk ?_
    refine G_icmp_ne (pc := 41) C 64 dX1_mend_41 (by decide) (fun hc => ?_) (fun hc => ?_)
    · have hw := hw.1 hc
      exact G_sub [0, 1, 2] rfl (g_X1_mend_64 C hK21 hw)
    · have hw := hw.2 hc
      refine G_aload_n (pc := 44) C 0 dX1_mend_44 rfl rfl ?_
      refine G_iload_n (pc := 45) C 2 dX1_mend_45 rfl rfl ?_
      obtain ⟨hk, hw⟩ := hw
      refine cl_RX1_43 (pc := 46) C (c_X1_goThrough l z (v0) (v2) S _ hw) ⟨Nat.le_of_ble_eq_true rfl, Nat.le_of_ble_eq_true rfl⟩ hk dX1_mend_46 (Nat.le_of_ble_eq_true rfl) (fun v S' hp => ?_)
      clear hw
      obtain ⟨rfl, hw⟩ := hp
      generalize S' = S7 at hw ⊢
      refine G_aload_n (pc := 49) C 0 dX1_mend_49 rfl rfl ?_
      obtain ⟨hk, hw⟩ := hw
      refine cl_RX1_53 (pc := 50) C (c_X1_agreeing l z (v0) S7 _ hw) ⟨Nat.le_of_ble_eq_true rfl, Nat.le_of_ble_eq_true rfl⟩ hk dX1_mend_50 (Nat.le_of_ble_eq_true rfl) (fun v S' hp => ?_)
      clear hw
      obtain ⟨hS, e8, rfl, hw⟩ := hp
      subst S'
      refine G_aload_n (pc := 53) C 0 dX1_mend_53 rfl rfl ?_
      obtain ⟨hk, hw⟩ := hw
      refine gf_RX1_40 (pc := 54) C dX1_mend_54 hk ?_
      refine G_iload_n (pc := 57) C 1 dX1_mend_57 rfl rfl ?_
      refine G_isub (pc := 58) C dX1_mend_58 ?_
      refine G_icmp_lt (pc := 59) C 64 dX1_mend_59 (by decide) (fun hc => ?_) (fun hc => ?_)
      · have hw := hw.1 hc
        exact G_sub [0, 1, 2] rfl (g_X1_mend_64 C hK21 hw)
      · have hw := hw.2 hc
        refine G_iconst (pc := 62) C (v := 1) dX1_mend_62 (by decide) ?_
        exact G_zret (pc := 63) C rfl (by decide) dX1_mend_63 ⟨_, rfl, hw⟩
set_option maxHeartbeats 4000000 in
set_option maxRecDepth 100000 in
theorem g_X1_mend_21 (C : Cx p s m args meth c z cX1_mend 3 RX1 (some .boolean) "mend")  {Q : Int32 → Hp → Prop} {v0 : Nat} {v1 : Int32} {v2 : Int32} {S : Hp}   (hw : wp_X1_mend_21  Q v0 v1 v2 S) : Go p l e { frames := 3, cells := 0, slots := 0, locals := 70 } s m args below meth c z 3 (MQ below (Qx z (wI Q)) args s 0 0 (own z)) (0) (0) 21 [(0, .ref (v0)), (1, .int (v1)), (2, .int (v2))] [] (S) :=
  Lp_go (G := fun y : Int32 × Hp => Go p l e { frames := 3, cells := 0, slots := 0, locals := 70 } s m args below meth c z 3 (MQ below (Qx z (wI Q)) args s 0 0 (own z)) (0) (0) 21 [(0, .ref (v0)), (1, .int (v1)), (2, .int (y.1))] [] (y.2)) (fun K y hK hB => gb_X1_mend_21 C  (fun w0 w1 h => hK (w0, w1) h) hB) hw
set_option maxHeartbeats 4000000 in
set_option maxRecDepth 100000 in
theorem c_X1_mend (l : Launch) (z : Zt) (a0 : Nat) (S : Hp) (Q : Int32 → Hp → Prop) (hw : wp_X1_mend a0 S Q) : Ct l z yX1_mend cX1_mend 3 (some .boolean) 3 70 0 0 [.ref (a0)] S (wI Q) := by
  refine Ct_of (by decide) (Nat.le_of_ble_eq_true rfl) ?_
  intro p e s m args below meth c C
  have C : Cx p s m args meth c z cX1_mend 3 RX1 (some .boolean) "mend" := C
  refine G_sub (lv' := [(0, .ref (a0))]) [0] rfl ?_
  refine G_aload_n (pc := 0) C 0 dX1_mend_0 rfl rfl ?_
  obtain ⟨hk, hw⟩ := hw
  refine gf_RX1_40 (pc := 1) C dX1_mend_1 hk ?_
  refine G_aload_n (pc := 4) C 0 dX1_mend_4 rfl rfl ?_
  obtain ⟨hk, hw⟩ := hw
  refine gf_RX1_36 (pc := 5) C dX1_mend_5 hk ?_
  refine G_isub (pc := 8) C dX1_mend_8 ?_
  refine G_iconst (pc := 9) C (v := 2) dX1_mend_9 (by decide) ?_
  obtain ⟨h0, hw⟩ := hw
  refine G_idiv (pc := 10) C dX1_mend_10 h0 ?_
  refine G_topi (fun e1 he1 => ?_)
  have hw := hw e1 he1
  clear he1
  refine G_istore_n (pc := 11) C [(1, .int (e1)), (0, .ref (a0))] dX1_mend_11 rfl (by decide) rfl ?_
  refine G_iconst (pc := 12) C (v := 1) dX1_mend_12 (by decide) ?_
  refine G_aload_n (pc := 13) C 1 dX1_mend_13 rfl rfl ?_
  obtain ⟨hk, hw⟩ := hw
  refine gf_RX1_36 (pc := 14) C dX1_mend_14 hk ?_
  refine G_ishl (pc := 17) C dX1_mend_17 ?_
  refine G_iconst (pc := 18) C (v := 1) dX1_mend_18 (by decide) ?_
  refine G_isub (pc := 19) C dX1_mend_19 ?_
  refine G_topi (fun e2 he2 => ?_)
  have hw := hw e2 he2
  clear he2
  refine G_istore_n (pc := 20) C [(2, .int (e2)), (1, .int (e1)), (0, .ref (a0))] dX1_mend_20 rfl (by decide) rfl ?_
  exact G_sub [2, 1, 0] rfl (g_X1_mend_21 C  hw)
/-! FirstParts$Curve.coefficient(I)I -/
abbrev wp_X1_coefficient_24  (Q : Int32 → Prop) (s0 : Int32) (S : Hp) : Prop :=
  Q s0
abbrev wp_X1_coefficient (a0 : Nat) (x1 : Int32) (S : Hp) (Q : Int32 → Prop) : Prop :=
  kd S a0 = 2 ∧ wp_X11_within (x1) ((0 : Int32)) (((gI S 20 a0 0) - (1 : Int32))) S (fun e1 => ((e1 = 0 → wp_X1_coefficient_24 Q ((0 : Int32)) (S)) ∧ (¬ e1 = 0 → kd S a0 = 2 ∧ ∃ b3, (gR S 23 a0 0) = some b3 ∧ kd S b3 = 20 ∧ vp_in x1 (ln S b3) ∧ wp_X1_coefficient_24 Q ((gI S 0 b3 (x1).toNatClampNeg)) (S))))
set_option maxHeartbeats 4000000 in
set_option maxRecDepth 100000 in
theorem g_X1_coefficient_24 (C : Cx p s m args meth c z cX1_coefficient 2 RX1 (some .int) "coefficient")  {Q : Int32 → Prop} {s0 : Int32} {S : Hp}   (hw : wp_X1_coefficient_24  Q s0 S) : Go p l e { frames := 1, cells := 0, slots := 0, locals := 22 } s m args below meth c z 2 (MQ below (Qx z (pI S Q)) args s 0 0 (own z)) (0) (0) 24 [] [.int (s0)] (S) := by
  exact G_iret (pc := 24) C rfl dX1_coefficient_24 ⟨rfl, _, rfl, hw⟩
set_option maxHeartbeats 4000000 in
set_option maxRecDepth 100000 in
theorem c_X1_coefficient (l : Launch) (z : Zt) (a0 : Nat) (x1 : Int32) (S : Hp) (Q : Int32 → Prop) (hw : wp_X1_coefficient a0 x1 S Q) : Ct l z yX1_coefficient cX1_coefficient 2 (some .int) 1 22 0 0 [.ref (a0), .int (x1)] S (pI S Q) := by
  refine Ct_of (by decide) (Nat.le_of_ble_eq_true rfl) ?_
  intro p e s m args below meth c C
  have C : Cx p s m args meth c z cX1_coefficient 2 RX1 (some .int) "coefficient" := C
  refine G_sub (lv' := [(0, .ref (a0)), (1, .int (x1))]) [0, 1] rfl ?_
  refine G_iload_n (pc := 0) C 1 dX1_coefficient_0 rfl rfl ?_
  refine G_iconst (pc := 1) C (v := 0) dX1_coefficient_1 (by decide) ?_
  refine G_aload_n (pc := 2) C 0 dX1_coefficient_2 rfl rfl ?_
  obtain ⟨hk, hw⟩ := hw
  refine gf_RX1_36 (pc := 3) C dX1_coefficient_3 hk ?_
  refine G_iconst (pc := 6) C (v := 1) dX1_coefficient_6 (by decide) ?_
  refine G_isub (pc := 7) C dX1_coefficient_7 ?_
  refine cl_RX1_57 (pc := 8) C (c_X11_within l z (x1) ((0 : Int32)) (((gI S 20 a0 0) - (1 : Int32))) S _ hw) ⟨Nat.le_of_ble_eq_true rfl, Nat.le_of_ble_eq_true rfl⟩ dX1_coefficient_8 (Nat.le_of_ble_eq_true rfl) (fun v S' hp => ?_)
  clear hw
  obtain ⟨hS, e1, rfl, hw⟩ := hp
  subst S'
  refine G_if_eq (pc := 11) C 23 dX1_coefficient_11 (by decide) (fun hc => ?_) (fun hc => ?_)
  · have hw := hw.1 hc
    refine G_iconst (pc := 23) C (v := 0) dX1_coefficient_23 (by decide) ?_
    exact G_sub [] rfl (g_X1_coefficient_24 C  hw)
  · have hw := hw.2 hc
    refine G_aload_n (pc := 14) C 0 dX1_coefficient_14 rfl rfl ?_
    obtain ⟨hk, hw⟩ := hw
    refine gf_RX1_24 (pc := 15) C dX1_coefficient_15 hk ?_
    refine G_iload_n (pc := 18) C 1 dX1_coefficient_18 rfl rfl ?_
    obtain ⟨b3, hq, hw⟩ := hw
    rw [hq]
    obtain ⟨hk, hi, hw⟩ := hw
    refine G_iald (pc := 19) C hk hi dX1_coefficient_19 ?_
    refine G_goto (pc := 20) C 24 dX1_coefficient_20 (by decide) ?_
    exact G_sub [] rfl (g_X1_coefficient_24 C  hw)
/-! FirstParts$Curve.at(I)I -/
abbrev wp_X1_at (a0 : Nat) (x1 : Int32) (S : Hp) (Q : Int32 → Prop) : Prop :=
  kd S a0 = 2 ∧ kd S a0 = 2 ∧ ∃ b1, (gR S 23 a0 0) = some b1 ∧ wp_X11_valueAt (b1) ((0 : Int32)) ((gI S 20 a0 0)) (x1) S (fun e2 => Q e2)
set_option maxHeartbeats 4000000 in
set_option maxRecDepth 100000 in
theorem c_X1_at (l : Launch) (z : Zt) (a0 : Nat) (x1 : Int32) (S : Hp) (Q : Int32 → Prop) (hw : wp_X1_at a0 x1 S Q) : Ct l z yX1_at cX1_at 2 (some .int) 2 48 0 0 [.ref (a0), .int (x1)] S (pI S Q) := by
  refine Ct_of (by decide) (Nat.le_of_ble_eq_true rfl) ?_
  intro p e s m args below meth c C
  have C : Cx p s m args meth c z cX1_at 2 RX1 (some .int) "at" := C
  refine G_sub (lv' := [(0, .ref (a0)), (1, .int (x1))]) [0, 1] rfl ?_
  refine G_aload_n (pc := 0) C 0 dX1_at_0 rfl rfl ?_
  obtain ⟨hk, hw⟩ := hw
  refine gf_RX1_24 (pc := 1) C dX1_at_1 hk ?_
  refine G_iconst (pc := 4) C (v := 0) dX1_at_4 (by decide) ?_
  refine G_aload_n (pc := 5) C 0 dX1_at_5 rfl rfl ?_
  obtain ⟨hk, hw⟩ := hw
  refine gf_RX1_36 (pc := 6) C dX1_at_6 hk ?_
  refine G_iload_n (pc := 9) C 1 dX1_at_9 rfl rfl ?_
  obtain ⟨b1, hq, hw⟩ := hw
  rw [hq]
  refine cl_RX1_61 (pc := 10) C (c_X11_valueAt l z (b1) ((0 : Int32)) ((gI S 20 a0 0)) (x1) S _ hw) ⟨Nat.le_of_ble_eq_true rfl, Nat.le_of_ble_eq_true rfl⟩ dX1_at_10 (Nat.le_of_ble_eq_true rfl) (fun v S' hp => ?_)
  clear hw
  obtain ⟨hS, e2, rfl, hw⟩ := hp
  subst S'
  exact G_iret (pc := 13) C rfl dX1_at_13 ⟨rfl, _, rfl, hw⟩
end W14curveleantxt
